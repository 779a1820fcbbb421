section
/-- a private method of a class that the tables say can be made, by its rows of tables_1 -/
def lw_okq (q : MethodName × Nat) : Prop := (q.1.cls ≠ "java/lang/invoke/MethodHandle" ∧ q.1.cls ≠ "java/lang/invoke/VarHandle") ∧ Cond.instantiable q.1.cls q.2 ∈ tables_1 ∧ Cond.privateMethod q.1 ∈ tables_1 ∧ Cond.instanceMethod q.1 ∈ tables_1
theorem lw_p0 : lw_okq (⟨"java/lang/Throwable", "fillInStackTrace", "(I)Ljava/lang/Throwable;"⟩, 6) := ⟨⟨by decide +kernel, by decide +kernel⟩, List.mem_of_getElem? (i := 282) (by decide +kernel), List.mem_of_getElem? (i := 280) (by decide +kernel), List.mem_of_getElem? (i := 281) (by decide +kernel)⟩
theorem lw_p1 : lw_okq (⟨"SteppedSamples", "beginChange", "()V"⟩, 9) := ⟨⟨by decide +kernel, by decide +kernel⟩, List.mem_of_getElem? (i := 17) (by decide +kernel), List.mem_of_getElem? (i := 312) (by decide +kernel), List.mem_of_getElem? (i := 313) (by decide +kernel)⟩
theorem lw_p2 : lw_okq (⟨"SteppedSamples$History", "dropOldest", "()V"⟩, 2) := ⟨⟨by decide +kernel, by decide +kernel⟩, List.mem_of_getElem? (i := 99) (by decide +kernel), List.mem_of_getElem? (i := 320) (by decide +kernel), List.mem_of_getElem? (i := 321) (by decide +kernel)⟩
theorem lw_p3 : lw_okq (⟨"SteppedSamples$Coder", "codeBlock", "(LSteppedSamples$State;II)V"⟩, 1) := ⟨⟨by decide +kernel, by decide +kernel⟩, List.mem_of_getElem? (i := 158) (by decide +kernel), List.mem_of_getElem? (i := 418) (by decide +kernel), List.mem_of_getElem? (i := 419) (by decide +kernel)⟩
theorem lw_p4 : lw_okq (⟨"SteppedSamples", "refuseUnlessSlot", "(I)V"⟩, 9) := ⟨⟨by decide +kernel, by decide +kernel⟩, List.mem_of_getElem? (i := 17) (by decide +kernel), List.mem_of_getElem? (i := 426) (by decide +kernel), List.mem_of_getElem? (i := 427) (by decide +kernel)⟩
theorem lw_p5 : lw_okq (⟨"SteppedSamples", "codedCount", "(I)I"⟩, 9) := ⟨⟨by decide +kernel, by decide +kernel⟩, List.mem_of_getElem? (i := 17) (by decide +kernel), List.mem_of_getElem? (i := 474) (by decide +kernel), List.mem_of_getElem? (i := 475) (by decide +kernel)⟩
theorem lw_p6 : lw_okq (⟨"SteppedSamples$Decoder", "fillBlock", "(LSteppedSamples$State;I)V"⟩, 4) := ⟨⟨by decide +kernel, by decide +kernel⟩, List.mem_of_getElem? (i := 186) (by decide +kernel), List.mem_of_getElem? (i := 482) (by decide +kernel), List.mem_of_getElem? (i := 483) (by decide +kernel)⟩
theorem lw_p7 : lw_okq (⟨"SteppedSamples$Decoder", "fillingOf", "(LSteppedSamples$State;II)I"⟩, 4) := ⟨⟨by decide +kernel, by decide +kernel⟩, List.mem_of_getElem? (i := 186) (by decide +kernel), List.mem_of_getElem? (i := 488) (by decide +kernel), List.mem_of_getElem? (i := 489) (by decide +kernel)⟩
theorem lw_p8 : lw_okq (⟨"SteppedSamples$Decoder", "decodeBlock", "(LSteppedSamples$State;I)V"⟩, 4) := ⟨⟨by decide +kernel, by decide +kernel⟩, List.mem_of_getElem? (i := 186) (by decide +kernel), List.mem_of_getElem? (i := 492) (by decide +kernel), List.mem_of_getElem? (i := 493) (by decide +kernel)⟩
theorem lw_p9 : lw_okq (⟨"SteppedSamples", "errorByBlocks", "()I"⟩, 9) := ⟨⟨by decide +kernel, by decide +kernel⟩, List.mem_of_getElem? (i := 17) (by decide +kernel), List.mem_of_getElem? (i := 502) (by decide +kernel), List.mem_of_getElem? (i := 503) (by decide +kernel)⟩
theorem lw_p10 : lw_okq (⟨"SteppedSamples", "wholeError", "()I"⟩, 9) := ⟨⟨by decide +kernel, by decide +kernel⟩, List.mem_of_getElem? (i := 17) (by decide +kernel), List.mem_of_getElem? (i := 522) (by decide +kernel), List.mem_of_getElem? (i := 523) (by decide +kernel)⟩
theorem lw_p11 : lw_okq (⟨"SteppedSamples", "refuseUnlessBlock", "(I)V"⟩, 9) := ⟨⟨by decide +kernel, by decide +kernel⟩, List.mem_of_getElem? (i := 17) (by decide +kernel), List.mem_of_getElem? (i := 591) (by decide +kernel), List.mem_of_getElem? (i := 592) (by decide +kernel)⟩
theorem lw_p12 : lw_okq (⟨"SteppedSamples", "refuseUnlessCodeBit", "(II)V"⟩, 9) := ⟨⟨by decide +kernel, by decide +kernel⟩, List.mem_of_getElem? (i := 17) (by decide +kernel), List.mem_of_getElem? (i := 607) (by decide +kernel), List.mem_of_getElem? (i := 608) (by decide +kernel)⟩
theorem lw_p13 : lw_okq (⟨"SteppedSamples", "leadOf", "(I)I"⟩, 9) := ⟨⟨by decide +kernel, by decide +kernel⟩, List.mem_of_getElem? (i := 17) (by decide +kernel), List.mem_of_getElem? (i := 638) (by decide +kernel), List.mem_of_getElem? (i := 639) (by decide +kernel)⟩
theorem lw_p14 : lw_okq (⟨"SteppedSamples$BlockText", "putNumber", "(I)V"⟩, 10) := ⟨⟨by decide +kernel, by decide +kernel⟩, List.mem_of_getElem? (i := 116) (by decide +kernel), List.mem_of_getElem? (i := 652) (by decide +kernel), List.mem_of_getElem? (i := 653) (by decide +kernel)⟩
theorem lw_p15 : lw_okq (⟨"SteppedSamples$BlockText", "beginDigits", "()V"⟩, 10) := ⟨⟨by decide +kernel, by decide +kernel⟩, List.mem_of_getElem? (i := 116) (by decide +kernel), List.mem_of_getElem? (i := 675) (by decide +kernel), List.mem_of_getElem? (i := 676) (by decide +kernel)⟩
def lw_privs_1 : List (MethodName × Nat) := [(⟨"java/lang/Throwable", "fillInStackTrace", "(I)Ljava/lang/Throwable;"⟩, 6), (⟨"SteppedSamples", "beginChange", "()V"⟩, 9), (⟨"SteppedSamples$History", "dropOldest", "()V"⟩, 2), (⟨"SteppedSamples$Coder", "codeBlock", "(LSteppedSamples$State;II)V"⟩, 1), (⟨"SteppedSamples", "refuseUnlessSlot", "(I)V"⟩, 9), (⟨"SteppedSamples", "codedCount", "(I)I"⟩, 9), (⟨"SteppedSamples$Decoder", "fillBlock", "(LSteppedSamples$State;I)V"⟩, 4), (⟨"SteppedSamples$Decoder", "fillingOf", "(LSteppedSamples$State;II)I"⟩, 4), (⟨"SteppedSamples$Decoder", "decodeBlock", "(LSteppedSamples$State;I)V"⟩, 4), (⟨"SteppedSamples", "errorByBlocks", "()I"⟩, 9), (⟨"SteppedSamples", "wholeError", "()I"⟩, 9), (⟨"SteppedSamples", "refuseUnlessBlock", "(I)V"⟩, 9), (⟨"SteppedSamples", "refuseUnlessCodeBit", "(II)V"⟩, 9), (⟨"SteppedSamples", "leadOf", "(I)I"⟩, 9), (⟨"SteppedSamples$BlockText", "putNumber", "(I)V"⟩, 10), (⟨"SteppedSamples$BlockText", "beginDigits", "()V"⟩, 10)]
theorem lw_r1 : ∀ q ∈ lw_privs_1, lw_okq q := List.forall_mem_cons.mpr ⟨lw_p0, List.forall_mem_cons.mpr ⟨lw_p1, List.forall_mem_cons.mpr ⟨lw_p2, List.forall_mem_cons.mpr ⟨lw_p3, List.forall_mem_cons.mpr ⟨lw_p4, List.forall_mem_cons.mpr ⟨lw_p5, List.forall_mem_cons.mpr ⟨lw_p6, List.forall_mem_cons.mpr ⟨lw_p7, List.forall_mem_cons.mpr ⟨lw_p8, List.forall_mem_cons.mpr ⟨lw_p9, List.forall_mem_cons.mpr ⟨lw_p10, List.forall_mem_cons.mpr ⟨lw_p11, List.forall_mem_cons.mpr ⟨lw_p12, List.forall_mem_cons.mpr ⟨lw_p13, List.forall_mem_cons.mpr ⟨lw_p14, List.forall_mem_cons.mpr ⟨lw_p15, fun _ h => absurd h List.not_mem_nil⟩⟩⟩⟩⟩⟩⟩⟩⟩⟩⟩⟩⟩⟩⟩⟩
theorem lw_p16 : lw_okq (⟨"SteppedSamples$BlockText", "readsOn", "(I)Z"⟩, 10) := ⟨⟨by decide +kernel, by decide +kernel⟩, List.mem_of_getElem? (i := 116) (by decide +kernel), List.mem_of_getElem? (i := 679) (by decide +kernel), List.mem_of_getElem? (i := 680) (by decide +kernel)⟩
theorem lw_p17 : lw_okq (⟨"SteppedSamples$BlockText", "readsFirst", "(I)Z"⟩, 10) := ⟨⟨by decide +kernel, by decide +kernel⟩, List.mem_of_getElem? (i := 116) (by decide +kernel), List.mem_of_getElem? (i := 683) (by decide +kernel), List.mem_of_getElem? (i := 684) (by decide +kernel)⟩
theorem lw_p18 : lw_okq (⟨"SteppedSamples$BlockText", "readsDigit", "(II)Z"⟩, 10) := ⟨⟨by decide +kernel, by decide +kernel⟩, List.mem_of_getElem? (i := 116) (by decide +kernel), List.mem_of_getElem? (i := 687) (by decide +kernel), List.mem_of_getElem? (i := 688) (by decide +kernel)⟩
theorem lw_p19 : lw_okq (⟨"SteppedSamples$BlockText", "readsNumber", "(I)Z"⟩, 10) := ⟨⟨by decide +kernel, by decide +kernel⟩, List.mem_of_getElem? (i := 116) (by decide +kernel), List.mem_of_getElem? (i := 691) (by decide +kernel), List.mem_of_getElem? (i := 692) (by decide +kernel)⟩
theorem lw_p20 : lw_okq (⟨"SteppedSamples$BlockText", "readsCode", "(I)Z"⟩, 10) := ⟨⟨by decide +kernel, by decide +kernel⟩, List.mem_of_getElem? (i := 116) (by decide +kernel), List.mem_of_getElem? (i := 695) (by decide +kernel), List.mem_of_getElem? (i := 696) (by decide +kernel)⟩
theorem lw_p21 : lw_okq (⟨"SteppedSamples", "refuseUnlessSamples", "(II)V"⟩, 9) := ⟨⟨by decide +kernel, by decide +kernel⟩, List.mem_of_getElem? (i := 17) (by decide +kernel), List.mem_of_getElem? (i := 730) (by decide +kernel), List.mem_of_getElem? (i := 731) (by decide +kernel)⟩
def lw_privs_2 : List (MethodName × Nat) := [(⟨"SteppedSamples$BlockText", "readsOn", "(I)Z"⟩, 10), (⟨"SteppedSamples$BlockText", "readsFirst", "(I)Z"⟩, 10), (⟨"SteppedSamples$BlockText", "readsDigit", "(II)Z"⟩, 10), (⟨"SteppedSamples$BlockText", "readsNumber", "(I)Z"⟩, 10), (⟨"SteppedSamples$BlockText", "readsCode", "(I)Z"⟩, 10), (⟨"SteppedSamples", "refuseUnlessSamples", "(II)V"⟩, 9)]
theorem lw_r2 : ∀ q ∈ lw_privs_2, lw_okq q := List.forall_mem_cons.mpr ⟨lw_p16, List.forall_mem_cons.mpr ⟨lw_p17, List.forall_mem_cons.mpr ⟨lw_p18, List.forall_mem_cons.mpr ⟨lw_p19, List.forall_mem_cons.mpr ⟨lw_p20, List.forall_mem_cons.mpr ⟨lw_p21, fun _ h => absurd h List.not_mem_nil⟩⟩⟩⟩⟩⟩
def lw_privs : List (MethodName × Nat) := lw_privs_1 ++ (lw_privs_2)
def lw_tbl : List Cond := k2_sels lw_privs ++ tables_1
theorem lw_privs_ok : ∀ q ∈ lw_privs, lw_okq q := by
  show ∀ q ∈ lw_privs_1 ++ (lw_privs_2), lw_okq q
  exact List.forall_mem_append.mpr ⟨lw_r1, lw_r2⟩
/-- the streams that the claim lets the run draw from -/
abbrev lw_cs : List Choice := [Jvm.Choice.named "NaN.bits"]
theorem lw_bits : nanBits ∈ lw_cs := by first | decide | exact List.mem_cons_self | simp [lw_cs, nanBits]
end
section
/-! ===== BEGIN words of one list among another's, by their places ===== -/
theorem goodIn_r {big : List Cond} (ws : List Cond) (ps : List Nat) (hp : ws = ps.filterMap (fun i => big[i]?)) (h : ws.all goodWord = true) : GoodIn big ws := by
  intro w hw
  have h1 := List.all_eq_true.mp h w hw
  rw [hp] at hw
  obtain ⟨i, -, hi⟩ := List.mem_filterMap.mp hw
  have hm : w ∈ big := by first | exact List.mem_of_getElem? hi | exact List.getElem?_mem hi
  exact ⟨hm, good_of_word h1⟩
theorem goodIn_app {big a b : List Cond} (ha : GoodIn big a) (hb : GoodIn big b) : GoodIn big (a ++ b) := fun w h => (List.mem_append.mp h).elim (ha w) (hb w)
theorem goodIn_ca {big a b : List Cond} {c : Cond} (ha : GoodIn big (c :: a)) (hb : GoodIn big b) : GoodIn big (c :: (a ++ b)) := fun w h => (List.mem_cons.mp h).elim (fun e => ha w (List.mem_cons.mpr (Or.inl e))) (fun h => (List.mem_append.mp h).elim (fun h => ha w (List.mem_cons.mpr (Or.inr h))) (hb w))
theorem goodIn_sub {big ws : List Cond} (hm : ∀ w ∈ ws, w ∈ big) (h : ws.all goodWord = true) : GoodIn big ws := fun w hw => ⟨hm w hw, good_of_word (List.all_eq_true.mp h w hw)⟩
/-! ===== END ===== -/

/-! ===== BEGIN exceptions that leave a method, and their catching by the caller (launches without stack traces) ===== -/
section VXA
/-! The laws vx_back, vx_callV, vx_callS, vx_callSW, vx_throw0, vx_throwS follow proofs of the library, with one case more: JvmDerived/Free/Laws.lean (Back.of_free), Shelf42/LK1.lean (callV, callS), Shelf/KitTraced.lean (throwNew0V, throwNewS). -/
/-- where a method has thrown q: the class by its name, the cell, what was written, the world -/
def vx_T (XC : String → State → State → Prop) (st : State) (q : Addr) (t : State) (mc ms : Nat) (free : Addr → Prop) : Prop :=
  ∃ (E : String) (ce : Cell) (L : List Loc), XC E st t ∧ t.heap[q]? = some ce ∧ ce.vm = .none ∧ st.vm.findClass E = some ce.cls ∧ st.WarmedH t.vm ∧ st.sameButNew ({ t with vm := st.vm } : State) L mc ms ∧ ∀ z ∈ L, free z.base
def vx_Q (Qc : Array Value → State → Outcome → State → Prop) (XC : String → State → State → Prop) (mc ms : Nat) (free : Addr → Prop) : Array Value → State → Outcome → State → Prop := fun a st o t =>
  (Qc a st o t ∧ ∃ L, FrameEnd st o t L mc ms ∧ ∀ q ∈ L, free q.base) ∨ ∃ q, o = .threw q ∧ vx_T XC st q t mc ms free
/-- a callee that returns or throws -/
def vx_Met (l : Launch) (y : MethodName) (ws : List Cond) (rm : Room) (Pc : Array Value → State → Prop) (Qc : Array Value → State → Outcome → State → Prop) (XC : String → State → State → Prop) (mc ms : Nat) (free : Addr → Prop) : Prop :=
  MetFree l y (headSpec ws rm) Pc (fun _ _ _ _ _ => True) (vx_Q Qc XC mc ms free)
def vx_Post (XC : String → State → State → Prop) (mc ms : Nat) (free : Addr → Prop) : Pt → Array Value → Addr → Pt → Prop := fun A a q B =>
  ∃ (g : JFrame) (mk : MethodId) (t : State) (L : List Loc) (E : String) (ce : Cell), B.U.heap = t.heap ∧ B.U.vm = t.vm ∧ XC E (A.U.calling g mk a) t ∧ t.heap[q]? = some ce ∧ ce.vm = .none ∧ A.U.vm.findClass E = some ce.cls ∧ B.locs = A.locs ++ L ∧ (∀ z ∈ L, free z.base) ∧ B.cells = A.cells + mc ∧ B.slots = A.slots + ms
def vx_Back (l : Launch) (R : Room) (p : Program) (e : Env) (below : List Frame) (s : State) (sargs : Array Value) (y : MethodName) (len W9 : Nat)
    (Pre : Pt → Array Value → Prop) (Post : Pt → Array Value → Option Value → Pt → Prop) (PostX : Pt → Array Value → Addr → Pt → Prop) : Prop :=
  ∀ (m : MethodId) (meth : Method) (c : Code) (A : Pt) (g : JFrame) (ig : Instr) (mk : MethodId) (a : Array Value),
    Stand p l e R s m sargs below meth c A.U A.locs A.cells A.slots → g.method = m → g.locals.size = c.maxLocals → decode c.code g.pc = .ok (ig, len) →
    2 * g.monitorRoom + (g.stack.map fun v => v.category).sum ≤ W9 → A.U.methodNamed? y = some mk → Pre A a →
    (∃ (v : Option Value) (B : Pt), Stand p l e R s m sargs below meth c B.U B.locs B.cells B.slots ∧ Post A a v B ∧
      Steps p.tables e below (doInvoke e (A.U.setTop g) [] mk a).1 (B.U.setTop { g with pc := g.pc + len, stack := v.toList ++ g.stack })) ∨
    (∃ (q : Addr) (B : Pt), Stand p l e R s m sargs below meth c B.U B.locs B.cells B.slots ∧ PostX A a q B ∧
      Steps p.tables e below (doInvoke e (A.U.setTop g) [] mk a).1 ((B.U.setTop g).pushFrame (.throwing q)))
section Payer
variable {l : Launch} {R : Room} {p : Program} {e : Env} {below : List Frame} {s : State} {sargs : Array Value} {y : MethodName} {len W9 : Nat}
theorem vx_back {ws : List Cond} {rm : Room} {Pc : Array Value → State → Prop} {Qc : Array Value → State → Outcome → State → Prop} {XC : String → State → State → Prop} {mc ms : Nat} {free : Addr → Prop} {bytes : ByteArray} {maxL : Nat} {ret : Option FieldType}
    (hM : vx_Met l y ws rm Pc Qc XC mc ms free) (hblind : FrameBlind Pc) (hrc : rm.cells = mc) (hrs : rm.slots = ms)
    (hframes : rm.frames + 1 ≤ R.frames) (hlocals : W9 + (maxL + 11) + rm.locals ≤ R.locals)
    (hws : ∀ w ∈ ws, ∀ a' U, s.WarmedH U.vm → w.before a' U = true) (hcode : Cond.code y bytes maxL ret ∈ ws) (hinit : ∀ a' U, s.WarmedH U.vm → (Cond.initialized y.cls).before a' U = true) :
    vx_Back l R p e below s sargs y len W9 (PreOf R mc ms Pc) (PostOf Qc mc ms free) (vx_Post XC mc ms free) := by
  intro m meth c A g ig mk a X hg hsize hdg hW hn hp
  have h1 : (headSpec ws rm).pre.before a A.U = true := atoms_intro fun w hw => hws w hw _ _ X.warmed
  have h2 : (Cond.code y bytes maxL ret).before a A.U = true := hws _ hcode _ _ X.warmed
  have h3 : (Cond.initialized y.cls).before a A.U = true := hinit _ _ X.warmed
  have h4 : A.cells + (headSpec ws rm).room.cells ≤ R.cells := by rw [show (headSpec ws rm).room.cells = mc from hrc]; exact hp.1
  have h5 : A.slots + (headSpec ws rm).room.slots ≤ R.slots := by rw [show (headSpec ws rm).room.slots = ms from hrs]; exact hp.2.1
  have hPc : Pc a (A.U.calling g mk a) := hblind _ _ _ _ hp.2.2
  obtain ⟨U, Ls, c0, s0⟩ := A
  dsimp only [Pt.U, Pt.locs, Pt.cells, Pt.slots] at h1 h2 h3 h4 h5 X hn hPc ⊢
  obtain ⟨methY, cY, hmY, hcY, -, hlY, -, -, -, -⟩ := Cond.code_spec hn h2
  obtain ⟨kY, hkY, -⟩ := className_of_methodNamed hn
  have hinitY : kY.init = .initialized := Cond.initialized_spec (findClass_of_methodNamed hn) hkY h3
  have h : At U g.method c below := by rw [hg]; exact X.here
  have hlocals9 : W9 + (maxL + 11) + (headSpec ws rm).room.locals ≤ R.locals := hlocals
  have happ : (headSpec ws rm).appliesLoose y e.platform (U.calling g mk a) = true :=
    Spec.appliesLoose_calling (g := g) h hdg hn hkY hinitY
      (X.room_calling (g := g) (R' := (headSpec ws rm).room) hsize hmY hcY hframes (by rw [hlY]; omega) h4 h5) h1
  obtain ⟨mid, hmid⟩ := h.above
  have hfr : (U.setTop g).frames = (.java g :: mid) ++ below := by rw [State.frames_setTop' g h.top, hmid]; rfl
  obtain ⟨o, s₂, hsteps, -, hend, hq⟩ := Steps.callFree hM p X.admits X.cas X.clock (acts := []) hfr happ hPc trivial
  have hq' : vx_Q Qc XC mc ms free a (U.calling g mk a) o s₂ := hq
  rw [State.frames_setTop' g h.top] at hend
  obtain ⟨g₀, hg0⟩ := Option.isSome_iff_exists.mp h.top
  obtain ⟨r, hr⟩ := State.topJava?_eq_some.mp hg0
  have hr' : (({ U with heap := s₂.heap, slotsUsed := s₂.slotsUsed } : State).setVm s₂.vm).frames = .java g₀ :: r := hr
  rcases hq' with ⟨hqc, L, hfe, hL⟩ | ⟨q, rfl, E, ce, L, hx, hce, hcv, hcl, hW₂, hsm, hL⟩
  · obtain ⟨⟨v, rfl⟩, hW₂, e2, q2, q3, q4, q5, q6⟩ := id hfe
    have e3 : s₂ = ({ (U.calling g mk a).setFrames s₂.frames with heap := s₂.heap, slotsUsed := s₂.slotsUsed } : State).setVm s₂.vm := by
      have : s₂ = ({ s₂ with vm := (U.calling g mk a).vm } : State).setVm s₂.vm := rfl
      rw [e2] at this
      exact this
    obtain ⟨c₂, i₂, len₂, hc₂, hd₂, hf₂⟩ := hend
    have hW' : U.WarmedH s₂.vm := hW₂
    have hcc : c₂ = c := by
      have h1 : s₂.code? g.method = U.code? g.method := by
        rw [State.code?_eq, State.code?_eq, hW'.alike.method?]
      exact Option.some.inj (hc₂.symm.trans (h1.trans h.code))
    subst hcc
    have hlen : len₂ = len := by rw [hdg] at hd₂; cases hd₂; rfl
    subst hlen
    have hs₂ : s₂ = (({ U with heap := s₂.heap, slotsUsed := s₂.slotsUsed } : State).setVm s₂.vm).setTop { g with pc := g.pc + len₂, stack := v.toList ++ g.stack } := by
      refine e3.trans ?_
      rw [hf₂, State.calling_eq h.top, State.setFrames_setFrames, State.setTop_of_frames _ hr', hr]
      rfl
    have hsame : U.sameButNew ({ U with heap := s₂.heap, slotsUsed := s₂.slotsUsed } : State) L mc ms := by
      refine ⟨?_, q2, q3, q4, q5, q6⟩
      obtain ⟨t, ht, -⟩ := State.frames_cons hr
      show ({ U with heap := s₂.heap, slotsUsed := s₂.slotsUsed } : State) = { U.setFrames U.frames with heap := s₂.heap, slotsUsed := s₂.slotsUsed }
      rw [State.setFrames_self ht]
    subst hg
    refine Or.inl ⟨v, ⟨(({ U with heap := s₂.heap, slotsUsed := s₂.slotsUsed } : State).setVm s₂.vm), Ls ++ L, c0 + mc, s0 + ms⟩,
      ⟨X.admits, X.cas, X.clock, X.frames, X.room, X.hears, X.method, X.code, (X.here.setHeapUsed s₂.heap s₂.slotsUsed).setVm hW'.alike, X.tail, State.WarmedH.trans X.warmed hW', X.limits, X.bytes, X.same.trans (hsame.setVm s.vm)⟩,
      ⟨g, mk, s₂, L, rfl, rfl, hqc, rfl, hL, rfl, rfl⟩, ?_⟩
    show Steps p.tables e below _ ((({ U with heap := s₂.heap, slotsUsed := s₂.slotsUsed } : State).setVm s₂.vm).setTop { g with pc := g.pc + len₂, stack := v.toList ++ g.stack })
    rw [← hs₂]
    exact hsteps
  · obtain ⟨e2, q2, q3, q4, q5, q6⟩ := id hsm
    have e3 : s₂ = ({ (U.calling g mk a).setFrames s₂.frames with heap := s₂.heap, slotsUsed := s₂.slotsUsed } : State).setVm s₂.vm := by
      have : s₂ = ({ s₂ with vm := (U.calling g mk a).vm } : State).setVm s₂.vm := rfl
      rw [e2] at this
      exact this
    have hf₂ : s₂.frames = .throwing q :: .java g :: U.frames.tail := hend
    have hW' : U.WarmedH s₂.vm := hW₂
    have hs₂ : s₂ = ((({ U with heap := s₂.heap, slotsUsed := s₂.slotsUsed } : State).setVm s₂.vm).setTop g).pushFrame (.throwing q) := by
      refine e3.trans ?_
      rw [hf₂, State.calling_eq h.top, State.setFrames_setFrames, State.pushFrame, State.frames_setTop _ hr', State.setTop_of_frames _ hr', State.setFrames_setFrames, hr]
      rfl
    have hsame : U.sameButNew ({ U with heap := s₂.heap, slotsUsed := s₂.slotsUsed } : State) L mc ms := by
      refine ⟨?_, q2, q3, q4, q5, q6⟩
      obtain ⟨t, ht, -⟩ := State.frames_cons hr
      show ({ U with heap := s₂.heap, slotsUsed := s₂.slotsUsed } : State) = { U.setFrames U.frames with heap := s₂.heap, slotsUsed := s₂.slotsUsed }
      rw [State.setFrames_self ht]
    subst hg
    refine Or.inr ⟨q, ⟨(({ U with heap := s₂.heap, slotsUsed := s₂.slotsUsed } : State).setVm s₂.vm), Ls ++ L, c0 + mc, s0 + ms⟩,
      ⟨X.admits, X.cas, X.clock, X.frames, X.room, X.hears, X.method, X.code, (X.here.setHeapUsed s₂.heap s₂.slotsUsed).setVm hW'.alike, X.tail, State.WarmedH.trans X.warmed hW', X.limits, X.bytes, X.same.trans (hsame.setVm s.vm)⟩,
      ⟨g, mk, s₂, L, E, ce, rfl, rfl, hx, hce, hcv, hcl, rfl, hL, rfl, rfl⟩, ?_⟩
    show Steps p.tables e below _ (((({ U with heap := s₂.heap, slotsUsed := s₂.slotsUsed } : State).setVm s₂.vm).setTop g).pushFrame (.throwing q))
    rw [← hs₂]
    exact hsteps
end Payer
section Calls
variable {p : Program} {l : Launch} {e : Env} {R : Room} {s : State} {m : MethodId} {args : Array Value} {below : List Frame} {meth : Method} {c : Code} {T : State} {locs : List Loc} {cells slots : Nat}
theorem vx_callV (X : Stand p l e R s m args below meth c T locs cells slots) (hexec : p.tables.exec = Jvm.exec) {own C : String} {index : Nat} {y : MethodName} {bytes : ByteArray} {maxL : Nat} {ret : Option FieldType}
    (hown : s.vm.findClass own = some m.cls) (hlink : (Cond.methodLink own index y).before args s = true) (hinst : (Cond.instanceMethod y).before args s = true) (hsel : (Cond.selects C y y).before args s = true)
    (hcode : (Cond.code y bytes maxL ret).before args s = true) (hy : y.cls ≠ "java/lang/invoke/MethodHandle" ∧ y.cls ≠ "java/lang/invoke/VarHandle")
    {W9 : Nat} {Pre : Pt → Array Value → Prop} {Post : Pt → Array Value → Option Value → Pt → Prop} {PostX : Pt → Array Value → Addr → Pt → Prop} (hK : vx_Back l R p e below s args y 3 W9 Pre Post PostX)
    {b : Addr} {cellB : Cell} (hcell : T.heap[b]? = some cellB) (hobj : cellB.vm.isStatics = false) (hcls : s.vm.findClass C = some cellB.cls)
    {g : JFrame} (hg : g.method = m) (hsize : g.locals.size = c.maxLocals) {argsL rest : List Value} (hlen : ∀ sig, parseMethodDescriptor y.desc = some sig → argsL.length = sig.parameters.length)
    (hstack : g.stack = argsL.reverse ++ .ref b :: rest) (hW : 2 * g.monitorRoom + (rest.map fun v => v.category).sum ≤ W9) (hdg : decode c.code g.pc = .ok (.invokevirtual index, 3))
    (hpre : ∀ vm₁, s.WarmedH vm₁ → Pre ⟨T.setVm vm₁, locs, cells, slots⟩ (Value.ref b :: argsL).toArray) :
    (∃ (v : Option Value) (vm₁ : Vm) (B : Pt), s.WarmedH vm₁ ∧ Stand p l e R s m args below meth c B.U B.locs B.cells B.slots ∧ Post ⟨T.setVm vm₁, locs, cells, slots⟩ (Value.ref b :: argsL).toArray v B ∧
      ∀ target, Steps p.tables e below (B.U.setTop { g with pc := g.pc + 3, stack := v.toList ++ rest }) target → Steps p.tables e below (T.setTop g) target) ∨
    (∃ (q : Addr) (vm₁ : Vm) (B : Pt), s.WarmedH vm₁ ∧ Stand p l e R s m args below meth c B.U B.locs B.cells B.slots ∧ PostX ⟨T.setVm vm₁, locs, cells, slots⟩ (Value.ref b :: argsL).toArray q B ∧
      Steps p.tables e below (T.setTop g) ((B.U.setTop { g with stack := rest }).pushFrame (.throwing q))) := by
  obtain ⟨mk, methM, hnamed, hmethM, hstM, habM⟩ := Cond.instanceMethod_spec hinst
  obtain ⟨methM', cM, hmethM', -, -, -, -, -, -, hsigM⟩ := Cond.code_spec hnamed hcode
  cases hmethM.symm.trans hmethM'
  obtain ⟨c2, r2, m2, q1, q2, q3, q4, kP, hkP, hkPi⟩ := Cond.selects_spec hsel
  cases hcls.symm.trans q1
  cases (State.methodFound?_of_named hnamed hy).symm.trans q2
  cases hnamed.symm.trans q3
  have hselP : selectMethod e.platform s.vm cellB.cls mk = .method mk := by rw [Launch.admits_selectMethod X.admits]; exact q4
  obtain ⟨vm₁, X₁, hstep₁⟩ := X.invokevirtual hexec hown hlink hnamed hmethM hstM hkP hkPi hy (a := b) (cell := cellB) hcell
    (fun z h => by rw [h] at hobj; cases hobj) hselP hmethM habM hkP hkPi (g := g) hg (argsL := argsL) (rest := rest) (hlen _ hsigM) hstack hdg
  rcases hK m meth c ⟨T.setVm vm₁, locs, cells, slots⟩ { g with stack := rest } (.invokevirtual index) mk (Value.ref b :: argsL).toArray X₁ hg hsize hdg hW (X₁.named hnamed) (hpre vm₁ X₁.warmed) with ⟨v, B, X', hpost, hsteps⟩ | ⟨q, B, X', hpost, hsteps⟩
  · exact Or.inl ⟨v, vm₁, B, X₁.warmed, X', hpost, fun target h => hstep₁ _ fun acts => by rw [doInvoke_state]; exact hsteps.trans h⟩
  · exact Or.inr ⟨q, vm₁, B, X₁.warmed, X', hpost, hstep₁ _ fun acts => by rw [doInvoke_state]; exact hsteps⟩
theorem vx_callS (X : Stand p l e R s m args below meth c T locs cells slots) (hexec : p.tables.exec = Jvm.exec) {own : String} {index : Nat} {y : MethodName} {bytes : ByteArray} {maxL : Nat} {ret : Option FieldType}
    (hown : s.vm.findClass own = some m.cls) (hlink : (Cond.methodLink own index y).before args s = true) (hstat : (Cond.static y).before args s = true) (hinit : (Cond.initialized y.cls).before args s = true)
    (hcode : (Cond.code y bytes maxL ret).before args s = true) (hy : y.cls ≠ "java/lang/invoke/MethodHandle" ∧ y.cls ≠ "java/lang/invoke/VarHandle")
    {W9 : Nat} {Pre : Pt → Array Value → Prop} {Post : Pt → Array Value → Option Value → Pt → Prop} {PostX : Pt → Array Value → Addr → Pt → Prop} (hK : vx_Back l R p e below s args y 3 W9 Pre Post PostX)
    {g : JFrame} (hg : g.method = m) (hsize : g.locals.size = c.maxLocals) {argsL rest : List Value} (hlen : ∀ sig, parseMethodDescriptor y.desc = some sig → argsL.length = sig.parameters.length)
    (hstack : g.stack = argsL.reverse ++ rest) (hW : 2 * g.monitorRoom + (rest.map fun v => v.category).sum ≤ W9) (hdg : decode c.code g.pc = .ok (.invokestatic index, 3))
    (hpre : ∀ vm₁, s.WarmedH vm₁ → Pre ⟨T.setVm vm₁, locs, cells, slots⟩ argsL.toArray) :
    (∃ (v : Option Value) (vm₁ : Vm) (B : Pt), s.WarmedH vm₁ ∧ Stand p l e R s m args below meth c B.U B.locs B.cells B.slots ∧ Post ⟨T.setVm vm₁, locs, cells, slots⟩ argsL.toArray v B ∧
      ∀ target, Steps p.tables e below (B.U.setTop { g with pc := g.pc + 3, stack := v.toList ++ rest }) target → Steps p.tables e below (T.setTop g) target) ∨
    (∃ (q : Addr) (vm₁ : Vm) (B : Pt), s.WarmedH vm₁ ∧ Stand p l e R s m args below meth c B.U B.locs B.cells B.slots ∧ PostX ⟨T.setVm vm₁, locs, cells, slots⟩ argsL.toArray q B ∧
      Steps p.tables e below (T.setTop g) ((B.U.setTop { g with stack := rest }).pushFrame (.throwing q))) := by
  obtain ⟨mk, hnamed⟩ := Cond.code_named hcode
  obtain ⟨methM, cM, hmethM, -, -, -, -, -, -, hsigM⟩ := Cond.code_spec hnamed hcode
  have hstatic : methM.isStatic = true := Cond.static_spec hnamed hmethM hstat
  obtain ⟨kP, hkP, -⟩ := className_of_methodNamed hnamed
  have hinitP : kP.init = .initialized := Cond.initialized_spec (findClass_of_methodNamed hnamed) hkP hinit
  obtain ⟨vm₁, X₁, hstep₁⟩ := X.invokestatic hexec hown hlink hnamed hmethM hstatic hkP hinitP hy (g := g) hg (argsL := argsL) (rest := rest) (hlen _ hsigM) hstack hdg
  rcases hK m meth c ⟨T.setVm vm₁, locs, cells, slots⟩ { g with stack := rest } (.invokestatic index) mk argsL.toArray X₁ hg hsize hdg hW (X₁.named hnamed) (hpre vm₁ X₁.warmed) with ⟨v, B, X', hpost, hsteps⟩ | ⟨q, B, X', hpost, hsteps⟩
  · exact Or.inl ⟨v, vm₁, B, X₁.warmed, X', hpost, fun target h => hstep₁ _ fun acts => by rw [doInvoke_state]; exact hsteps.trans h⟩
  · exact Or.inr ⟨q, vm₁, B, X₁.warmed, X', hpost, hstep₁ _ fun acts => by rw [doInvoke_state]; exact hsteps⟩
end Calls
theorem vx_cls {s : State} {T : State} {vm₁ : Vm} {E : String} {k : ClassId} (hW : s.WarmedH vm₁) (h : (T.setVm vm₁).vm.findClass E = some k) : s.vm.findClass E = some k := by
  have h1 : vm₁.findClass E = some k := h
  rw [hW.alike.findClass] at h1
  exact h1
/-- the method's frame g, with q thrown over it -/
def vx_W (p : Program) (l : Launch) (e : Env) (R : Room) (s : State) (m : MethodId) (args : Array Value) (below : List Frame) (meth : Method) (c : Code) (H : Heap) (locs : List Loc) (cells slots : Nat) (Q : State → Prop) (g : JFrame) (q : Addr) : Prop :=
  ∀ T : State, T.heap = H → Stand p l e R s m args below meth c T locs cells slots → ∃ t, Steps p.tables e below ((T.setTop g).pushFrame (.throwing q)) t ∧ Q t
def vx_Run (p : Program) (l : Launch) (e : Env) (R : Room) (s : State) (m : MethodId) (args : Array Value) (below : List Frame) (meth : Method) (c : Code) (H : Heap) (locs : List Loc) (cells slots mc ms : Nat) (g : JFrame) (rest : List Value) (Qa : State → Outcome → State → Prop) (XC : String → State → State → Prop) (free : Addr → Prop) : Prop :=
  ∀ T : State, T.heap = H → Stand p l e R s m args below meth c T locs cells slots →
    (∃ (v : Option Value) (st₀ t T' : State) (L : List Loc), st₀.heap = H ∧ Stand p l e R s m args below meth c T' (locs ++ L) (cells + mc) (slots + ms) ∧ (∀ q ∈ L, free q.base) ∧ T'.heap = t.heap ∧ T'.vm = t.vm ∧ Qa st₀ (.returned v) t ∧
      Goes p e below T g T' { g with pc := g.pc + 3, stack := v.toList ++ rest }) ∨
    (∃ (q : Addr) (st₀ t T' : State) (L : List Loc) (E : String) (ce : Cell), st₀.heap = H ∧ Stand p l e R s m args below meth c T' (locs ++ L) (cells + mc) (slots + ms) ∧ (∀ z ∈ L, free z.base) ∧ T'.heap = t.heap ∧ T'.vm = t.vm ∧ XC E st₀ t ∧ t.heap[q]? = some ce ∧ ce.vm = .none ∧ s.vm.findClass E = some ce.cls ∧
      Steps p.tables e below (T.setTop g) ((T'.setTop { g with stack := rest }).pushFrame (.throwing q)))
def vx_X {S : Type} (px : S → Prop) (B : String → S → State → Prop) (A : Nat → Prop) : String → State → State → Prop := fun E st t => ∃ u : S, px u ∧ B E u t ∧ va_F A st t
section Runs
variable {p : Program} {l : Launch} {e : Env} {R : Room} {s : State} {m : MethodId} {args : Array Value} {below : List Frame} {meth : Method} {c : Code} {H : Heap} {locs : List Loc} {cells slots : Nat}
variable {y : MethodName} {bytes cc : ByteArray} {maxL nL mc ms n index : Nat} {ret : Option FieldType} {ws : List Cond} {rm : Room} {Pc : Array Value → State → Prop} {Qc : Array Value → State → Outcome → State → Prop} {XC : String → State → State → Prop} {free : Addr → Prop} {Ts : List Cond} {own C : String} {b : Addr} {As rest : List Value} {g : JFrame}
theorem vx_callBack (cb : CallB R s args own index y bytes maxL ret ws rm mc ms n) (hM : vx_Met l y ws rm Pc Qc XC mc ms free) (hbl : FrameBlind Pc) : vx_Back l R p e below s args y 3 8 (PreOf R mc ms Pc) (PostOf Qc mc ms free) (vx_Post XC mc ms free) := by
  obtain ⟨hrc, hrs, hfr, hlo, hws, hcw, -, hini, -⟩ := cb
  exact vx_back (bytes := bytes) (maxL := maxL) (ret := ret) hM hbl hrc hrs hfr hlo hws hcw (fun a' U hW => word_at hW (Or.inl (by first | rfl | simp [Cond.onTables, Cond.keeps, Cond.steady])) hini)
theorem vx_runV (S : CallFix p m c cc nL s args Ts own) (hM : vx_Met l y ws rm Pc Qc XC mc ms free) (cw : CallW R s args own C index y bytes maxL ret ws rm mc ms n) (hp : PreV s H C b Pc As)
    (hg : g.method = m) (hn : As.length = n) (hsize : g.locals.size = nL) (hstack : g.stack = As.reverse ++ .ref b :: rest) (hW : 2 * g.monitorRoom + (rest.map fun v => v.category).sum ≤ 8) (hdg : decode cc g.pc = .ok (.invokevirtual index, 3)) (hf : cells + mc ≤ R.cells ∧ slots + ms ≤ R.slots) :
    vx_Run p l e R s m args below meth c H locs cells slots mc ms g rest (Qc (Value.ref b :: As).toArray) XC free := by
  have hK : vx_Back l R p e below s args y 3 8 (PreOf R mc ms Pc) (PostOf Qc mc ms free) (vx_Post XC mc ms free) := vx_callBack cw.1 hM hp.1
  obtain ⟨⟨-, -, -, -, -, -, hcode, -, hy, hlen, hl⟩, hin, hse⟩ := cw
  obtain ⟨hx, hb, hml, ho, -⟩ := S
  obtain ⟨-, ⟨cellB, hcB, hoB, hclB⟩, hPc⟩ := hp
  intro T hT X
  rcases vx_callV X hx (C := C) (bytes := bytes) (maxL := maxL) (ret := ret) ho hl hin hse hcode hy hK (by rw [hT]; exact hcB) hoB hclB hg (hsize.trans hml.symm) (argsL := As) (rest := rest) (fun sig h => hn.trans (hlen sig h)) hstack hW (by rw [hb]; exact hdg)
    (fun vm₁ hW₁ => ⟨hf.1, hf.2, hPc (T.setVm vm₁) hT hW₁⟩) with ⟨v, vm₁, ⟨U', l2, c2, s2⟩, hW₁, X', ⟨g', mk, t, L, e1, e2, hq, h1, hL, h2, h3⟩, st⟩ | ⟨q, vm₁, ⟨U', l2, c2, s2⟩, hW₁, X', ⟨g', mk, t, L, E, ce, e1, e2, hq, hce, hcv, hcl, h1, hL, h2, h3⟩, st⟩
  · dsimp only [Pt.U, Pt.locs, Pt.cells, Pt.slots] at X' e1 e2 h1 h2 h3 st
    subst h1; subst h2; subst h3
    exact Or.inl ⟨v, (T.setVm vm₁).calling g' mk (Value.ref b :: As).toArray, t, U', L, hT, X', hL, e1, e2, hq, st⟩
  · dsimp only [Pt.U, Pt.locs, Pt.cells, Pt.slots] at X' e1 e2 h1 h2 h3 st hcl
    subst h1; subst h2; subst h3
    exact Or.inr ⟨q, (T.setVm vm₁).calling g' mk (Value.ref b :: As).toArray, t, U', L, E, ce, hT, X', hL, e1, e2, hq, hce, hcv, vx_cls hW₁ hcl, st⟩
theorem vx_runS (S : CallFix p m c cc nL s args Ts own) (hM : vx_Met l y ws rm Pc Qc XC mc ms free) (cw : CallB R s args own index y bytes maxL ret ws rm mc ms n ∧ (Cond.static y).before args s = true) (hp : PreS s H Pc As)
    (hg : g.method = m) (hn : As.length = n) (hsize : g.locals.size = nL) (hstack : g.stack = As.reverse ++ rest) (hW : 2 * g.monitorRoom + (rest.map fun v => v.category).sum ≤ 8) (hdg : decode cc g.pc = .ok (.invokestatic index, 3)) (hf : cells + mc ≤ R.cells ∧ slots + ms ≤ R.slots) :
    vx_Run p l e R s m args below meth c H locs cells slots mc ms g rest (Qc As.toArray) XC free := by
  have hK : vx_Back l R p e below s args y 3 8 (PreOf R mc ms Pc) (PostOf Qc mc ms free) (vx_Post XC mc ms free) := vx_callBack cw.1 hM hp.1
  obtain ⟨⟨-, -, -, -, -, -, hcode, hini, hy, hlen, hl⟩, hstt⟩ := cw
  obtain ⟨hx, hb, hml, ho, -⟩ := S
  intro T hT X
  rcases vx_callS X hx (bytes := bytes) (maxL := maxL) (ret := ret) ho hl hstt hini hcode hy hK hg (hsize.trans hml.symm) (argsL := As) (rest := rest) (fun sig h => hn.trans (hlen sig h)) hstack hW (by rw [hb]; exact hdg)
    (fun vm₁ hW₁ => ⟨hf.1, hf.2, hp.2 (T.setVm vm₁) hT hW₁⟩) with ⟨v, vm₁, ⟨U', l2, c2, s2⟩, hW₁, X', ⟨g', mk, t, L, e1, e2, hq, h1, hL, h2, h3⟩, st⟩ | ⟨q, vm₁, ⟨U', l2, c2, s2⟩, hW₁, X', ⟨g', mk, t, L, E, ce, e1, e2, hq, hce, hcv, hcl, h1, hL, h2, h3⟩, st⟩
  · dsimp only [Pt.U, Pt.locs, Pt.cells, Pt.slots] at X' e1 e2 h1 h2 h3 st
    subst h1; subst h2; subst h3
    exact Or.inl ⟨v, (T.setVm vm₁).calling g' mk As.toArray, t, U', L, hT, X', hL, e1, e2, hq, st⟩
  · dsimp only [Pt.U, Pt.locs, Pt.cells, Pt.slots] at X' e1 e2 h1 h2 h3 st hcl
    subst h1; subst h2; subst h3
    exact Or.inr ⟨q, (T.setVm vm₁).calling g' mk As.toArray, t, U', L, E, ce, hT, X', hL, e1, e2, hq, hce, hcv, vx_cls hW₁ hcl, st⟩
end Runs
section Rows
variable {p : Program} {l : Launch} {e : Env} {R : Room} {s : State} {m : MethodId} {args : Array Value} {below : List Frame} {meth : Method} {c : Code} {H : Heap} {locs : List Loc} {cells slots : Nat} {Q : State → Prop}
variable {mc ms : Nat} {free : Addr → Prop} {A0 A1 : Nat → Prop} {H0 : Heap} {a : Array Value} {pc : Nat} {ls : Array Slot} {st0 rest : List Value}
theorem vx_keep {st₀ t T' : State} {L : List Loc} (h0 : st₀.heap = H) (e1 : T'.heap = t.heap) (hS : va_S A0 H0 H locs) (hA : ∀ q, q < H.size → A1 q → A0 q) (hf : ∀ q, free q → A0 q) (hL : ∀ q ∈ L, free q.base) (hF : va_F A1 st₀ t) :
    H.size ≤ T'.heap.size ∧ (∀ q : Nat, q < H.size → ¬ A1 q → T'.heap[q]? = H[q]?) ∧ va_S A0 H0 T'.heap (locs ++ L) := by
  obtain ⟨hz, hk⟩ := hF
  rw [h0] at hz hk
  exact ⟨by rw [e1]; exact hz, fun q h1 h2 => by rw [e1]; exact hk q h1 h2,
    ⟨Nat.le_trans hS.1 (by rw [e1]; exact hz), fun q h1 h2 => by rw [e1, hk q (Nat.lt_of_lt_of_le h1 hS.1) (fun z => h2 (hA q (Nat.lt_of_lt_of_le h1 hS.1) z))]; exact hS.2.1 q h1 h2, fun q hq => by
      rcases List.mem_append.mp hq with h | h
      · exact hS.2.2 q h
      · exact hf _ (hL q h)⟩⟩
theorem vx_calli {S SX : Type} {post : Int32 → S → Prop} {px : SX → Prop} {B : S → State → Prop} {BX : String → SX → State → Prop} {AX : Nat → Prop} (hr : vx_Run p l e R s m args below meth c H locs cells slots mc ms (F0 m pc ls st0) rest (va_Qi post B A1 a) (vx_X px BX AX) free) (hS : va_S A0 H0 H locs) (hA : ∀ q, q < H.size → A1 q → A0 q) (hf : ∀ q, free q → A0 q) (hAX : ∀ q, q < H.size → AX q → A0 q)
    (kx : ∀ (E : String) (ce : Cell) (q9 : Addr) (u : SX) (t : State) (H1 : Heap) (locs1 : List Loc), t.heap = H1 → s.vm.Alike t.vm → px u → BX E u t → H.size ≤ H1.size → (∀ q : Nat, q < H.size → ¬ AX q → H1[q]? = H[q]?) → va_S A0 H0 H1 locs1 → H1[q9]? = some ce → ce.vm = .none → s.vm.findClass E = some ce.cls → vx_W p l e R s m args below meth c H1 locs1 (cells + mc) (slots + ms) Q (F0 m pc ls rest) q9)
    (kk : ∀ (r : Int32) (u : S) (t : State) (H1 : Heap) (locs1 : List Loc), t.heap = H1 → s.vm.Alike t.vm → post r u → B u t → H.size ≤ H1.size → (∀ q : Nat, q < H.size → ¬ A1 q → H1[q]? = H[q]?) → va_S A0 H0 H1 locs1 → W p l e R s m args below meth c H1 locs1 (cells + mc) (slots + ms) Q (F0 m (pc + 3) ls (.int r :: rest))) : W p l e R s m args below meth c H locs cells slots Q (F0 m pc ls st0) := by
  intro T hT X
  rcases hr T hT X with ⟨v, st₀, t, T', L, h0, X', hL, e1, e2, ⟨⟨r, u, hv, hp, hb⟩, hF⟩, st⟩ | ⟨q, st₀, t, T', L, E, ce, h0, X', hL, e1, e2, ⟨u, hp, hb, hF⟩, hce, hcv, hcl, st⟩
  · cases hv
    obtain ⟨k1, k2, k3⟩ := vx_keep h0 e1 hS hA hf hL hF
    obtain ⟨t2, a1, b1⟩ := kk r u t T'.heap (locs ++ L) e1.symm (by rw [← e2]; exact X'.warmed.alike) hp hb k1 k2 k3 T' rfl X'
    exact ⟨t2, st t2 a1, b1⟩
  · obtain ⟨k1, k2, k3⟩ := vx_keep h0 e1 hS hAX hf hL hF
    obtain ⟨t2, a1, b1⟩ := kx E ce q u t T'.heap (locs ++ L) e1.symm (by rw [← e2]; exact X'.warmed.alike) hp hb k1 k2 k3 (by rw [e1]; exact hce) hcv hcl T' rfl X'
    exact ⟨t2, st.trans a1, b1⟩
theorem vx_calll {S SX : Type} {post : Int64 → S → Prop} {px : SX → Prop} {B : S → State → Prop} {BX : String → SX → State → Prop} {AX : Nat → Prop} (hr : vx_Run p l e R s m args below meth c H locs cells slots mc ms (F0 m pc ls st0) rest (va_Ql post B A1 a) (vx_X px BX AX) free) (hS : va_S A0 H0 H locs) (hA : ∀ q, q < H.size → A1 q → A0 q) (hf : ∀ q, free q → A0 q) (hAX : ∀ q, q < H.size → AX q → A0 q)
    (kx : ∀ (E : String) (ce : Cell) (q9 : Addr) (u : SX) (t : State) (H1 : Heap) (locs1 : List Loc), t.heap = H1 → s.vm.Alike t.vm → px u → BX E u t → H.size ≤ H1.size → (∀ q : Nat, q < H.size → ¬ AX q → H1[q]? = H[q]?) → va_S A0 H0 H1 locs1 → H1[q9]? = some ce → ce.vm = .none → s.vm.findClass E = some ce.cls → vx_W p l e R s m args below meth c H1 locs1 (cells + mc) (slots + ms) Q (F0 m pc ls rest) q9)
    (kk : ∀ (r : Int64) (u : S) (t : State) (H1 : Heap) (locs1 : List Loc), t.heap = H1 → s.vm.Alike t.vm → post r u → B u t → H.size ≤ H1.size → (∀ q : Nat, q < H.size → ¬ A1 q → H1[q]? = H[q]?) → va_S A0 H0 H1 locs1 → W p l e R s m args below meth c H1 locs1 (cells + mc) (slots + ms) Q (F0 m (pc + 3) ls (.long r :: rest))) : W p l e R s m args below meth c H locs cells slots Q (F0 m pc ls st0) := by
  intro T hT X
  rcases hr T hT X with ⟨v, st₀, t, T', L, h0, X', hL, e1, e2, ⟨⟨r, u, hv, hp, hb⟩, hF⟩, st⟩ | ⟨q, st₀, t, T', L, E, ce, h0, X', hL, e1, e2, ⟨u, hp, hb, hF⟩, hce, hcv, hcl, st⟩
  · cases hv
    obtain ⟨k1, k2, k3⟩ := vx_keep h0 e1 hS hA hf hL hF
    obtain ⟨t2, a1, b1⟩ := kk r u t T'.heap (locs ++ L) e1.symm (by rw [← e2]; exact X'.warmed.alike) hp hb k1 k2 k3 T' rfl X'
    exact ⟨t2, st t2 a1, b1⟩
  · obtain ⟨k1, k2, k3⟩ := vx_keep h0 e1 hS hAX hf hL hF
    obtain ⟨t2, a1, b1⟩ := kx E ce q u t T'.heap (locs ++ L) e1.symm (by rw [← e2]; exact X'.warmed.alike) hp hb k1 k2 k3 (by rw [e1]; exact hce) hcv hcl T' rfl X'
    exact ⟨t2, st.trans a1, b1⟩
theorem vx_callf {S SX : Type} {post : UInt32 → S → Prop} {px : SX → Prop} {B : S → State → Prop} {BX : String → SX → State → Prop} {AX : Nat → Prop} (hr : vx_Run p l e R s m args below meth c H locs cells slots mc ms (F0 m pc ls st0) rest (va_Qf post B A1 a) (vx_X px BX AX) free) (hS : va_S A0 H0 H locs) (hA : ∀ q, q < H.size → A1 q → A0 q) (hf : ∀ q, free q → A0 q) (hAX : ∀ q, q < H.size → AX q → A0 q)
    (kx : ∀ (E : String) (ce : Cell) (q9 : Addr) (u : SX) (t : State) (H1 : Heap) (locs1 : List Loc), t.heap = H1 → s.vm.Alike t.vm → px u → BX E u t → H.size ≤ H1.size → (∀ q : Nat, q < H.size → ¬ AX q → H1[q]? = H[q]?) → va_S A0 H0 H1 locs1 → H1[q9]? = some ce → ce.vm = .none → s.vm.findClass E = some ce.cls → vx_W p l e R s m args below meth c H1 locs1 (cells + mc) (slots + ms) Q (F0 m pc ls rest) q9)
    (kk : ∀ (r : UInt32) (u : S) (t : State) (H1 : Heap) (locs1 : List Loc), t.heap = H1 → s.vm.Alike t.vm → post r u → B u t → H.size ≤ H1.size → (∀ q : Nat, q < H.size → ¬ A1 q → H1[q]? = H[q]?) → va_S A0 H0 H1 locs1 → W p l e R s m args below meth c H1 locs1 (cells + mc) (slots + ms) Q (F0 m (pc + 3) ls (.float r :: rest))) : W p l e R s m args below meth c H locs cells slots Q (F0 m pc ls st0) := by
  intro T hT X
  rcases hr T hT X with ⟨v, st₀, t, T', L, h0, X', hL, e1, e2, ⟨⟨r, u, hv, hp, hb⟩, hF⟩, st⟩ | ⟨q, st₀, t, T', L, E, ce, h0, X', hL, e1, e2, ⟨u, hp, hb, hF⟩, hce, hcv, hcl, st⟩
  · cases hv
    obtain ⟨k1, k2, k3⟩ := vx_keep h0 e1 hS hA hf hL hF
    obtain ⟨t2, a1, b1⟩ := kk r u t T'.heap (locs ++ L) e1.symm (by rw [← e2]; exact X'.warmed.alike) hp hb k1 k2 k3 T' rfl X'
    exact ⟨t2, st t2 a1, b1⟩
  · obtain ⟨k1, k2, k3⟩ := vx_keep h0 e1 hS hAX hf hL hF
    obtain ⟨t2, a1, b1⟩ := kx E ce q u t T'.heap (locs ++ L) e1.symm (by rw [← e2]; exact X'.warmed.alike) hp hb k1 k2 k3 (by rw [e1]; exact hce) hcv hcl T' rfl X'
    exact ⟨t2, st.trans a1, b1⟩
theorem vx_calld {S SX : Type} {post : UInt64 → S → Prop} {px : SX → Prop} {B : S → State → Prop} {BX : String → SX → State → Prop} {AX : Nat → Prop} (hr : vx_Run p l e R s m args below meth c H locs cells slots mc ms (F0 m pc ls st0) rest (va_Qd post B A1 a) (vx_X px BX AX) free) (hS : va_S A0 H0 H locs) (hA : ∀ q, q < H.size → A1 q → A0 q) (hf : ∀ q, free q → A0 q) (hAX : ∀ q, q < H.size → AX q → A0 q)
    (kx : ∀ (E : String) (ce : Cell) (q9 : Addr) (u : SX) (t : State) (H1 : Heap) (locs1 : List Loc), t.heap = H1 → s.vm.Alike t.vm → px u → BX E u t → H.size ≤ H1.size → (∀ q : Nat, q < H.size → ¬ AX q → H1[q]? = H[q]?) → va_S A0 H0 H1 locs1 → H1[q9]? = some ce → ce.vm = .none → s.vm.findClass E = some ce.cls → vx_W p l e R s m args below meth c H1 locs1 (cells + mc) (slots + ms) Q (F0 m pc ls rest) q9)
    (kk : ∀ (r : UInt64) (u : S) (t : State) (H1 : Heap) (locs1 : List Loc), t.heap = H1 → s.vm.Alike t.vm → post r u → B u t → H.size ≤ H1.size → (∀ q : Nat, q < H.size → ¬ A1 q → H1[q]? = H[q]?) → va_S A0 H0 H1 locs1 → W p l e R s m args below meth c H1 locs1 (cells + mc) (slots + ms) Q (F0 m (pc + 3) ls (.double r :: rest))) : W p l e R s m args below meth c H locs cells slots Q (F0 m pc ls st0) := by
  intro T hT X
  rcases hr T hT X with ⟨v, st₀, t, T', L, h0, X', hL, e1, e2, ⟨⟨r, u, hv, hp, hb⟩, hF⟩, st⟩ | ⟨q, st₀, t, T', L, E, ce, h0, X', hL, e1, e2, ⟨u, hp, hb, hF⟩, hce, hcv, hcl, st⟩
  · cases hv
    obtain ⟨k1, k2, k3⟩ := vx_keep h0 e1 hS hA hf hL hF
    obtain ⟨t2, a1, b1⟩ := kk r u t T'.heap (locs ++ L) e1.symm (by rw [← e2]; exact X'.warmed.alike) hp hb k1 k2 k3 T' rfl X'
    exact ⟨t2, st t2 a1, b1⟩
  · obtain ⟨k1, k2, k3⟩ := vx_keep h0 e1 hS hAX hf hL hF
    obtain ⟨t2, a1, b1⟩ := kx E ce q u t T'.heap (locs ++ L) e1.symm (by rw [← e2]; exact X'.warmed.alike) hp hb k1 k2 k3 (by rw [e1]; exact hce) hcv hcl T' rfl X'
    exact ⟨t2, st.trans a1, b1⟩
theorem vx_callv {S SX : Type} {post : S → Prop} {px : SX → Prop} {B : S → State → Prop} {BX : String → SX → State → Prop} {AX : Nat → Prop} (hr : vx_Run p l e R s m args below meth c H locs cells slots mc ms (F0 m pc ls st0) rest (va_Qv post B A1 a) (vx_X px BX AX) free) (hS : va_S A0 H0 H locs) (hA : ∀ q, q < H.size → A1 q → A0 q) (hf : ∀ q, free q → A0 q) (hAX : ∀ q, q < H.size → AX q → A0 q)
    (kx : ∀ (E : String) (ce : Cell) (q9 : Addr) (u : SX) (t : State) (H1 : Heap) (locs1 : List Loc), t.heap = H1 → s.vm.Alike t.vm → px u → BX E u t → H.size ≤ H1.size → (∀ q : Nat, q < H.size → ¬ AX q → H1[q]? = H[q]?) → va_S A0 H0 H1 locs1 → H1[q9]? = some ce → ce.vm = .none → s.vm.findClass E = some ce.cls → vx_W p l e R s m args below meth c H1 locs1 (cells + mc) (slots + ms) Q (F0 m pc ls rest) q9)
    (kk : ∀ (u : S) (t : State) (H1 : Heap) (locs1 : List Loc), t.heap = H1 → s.vm.Alike t.vm → post u → B u t → H.size ≤ H1.size → (∀ q : Nat, q < H.size → ¬ A1 q → H1[q]? = H[q]?) → va_S A0 H0 H1 locs1 → W p l e R s m args below meth c H1 locs1 (cells + mc) (slots + ms) Q (F0 m (pc + 3) ls (rest))) : W p l e R s m args below meth c H locs cells slots Q (F0 m pc ls st0) := by
  intro T hT X
  rcases hr T hT X with ⟨v, st₀, t, T', L, h0, X', hL, e1, e2, ⟨⟨u, hv, hp, hb⟩, hF⟩, st⟩ | ⟨q, st₀, t, T', L, E, ce, h0, X', hL, e1, e2, ⟨u, hp, hb, hF⟩, hce, hcv, hcl, st⟩
  · cases hv
    obtain ⟨k1, k2, k3⟩ := vx_keep h0 e1 hS hA hf hL hF
    obtain ⟨t2, a1, b1⟩ := kk u t T'.heap (locs ++ L) e1.symm (by rw [← e2]; exact X'.warmed.alike) hp hb k1 k2 k3 T' rfl X'
    exact ⟨t2, st t2 a1, b1⟩
  · obtain ⟨k1, k2, k3⟩ := vx_keep h0 e1 hS hAX hf hL hF
    obtain ⟨t2, a1, b1⟩ := kx E ce q u t T'.heap (locs ++ L) e1.symm (by rw [← e2]; exact X'.warmed.alike) hp hb k1 k2 k3 (by rw [e1]; exact hce) hcv hcl T' rfl X'
    exact ⟨t2, st.trans a1, b1⟩
/-- caught by the row x of this method's table; the rows ahead don't take it -/
theorem vx_catch {own name : String} {E : String} {ce : Cell} {q : Addr} (hown : s.vm.findClass own = some m.cls) (pre : List ExceptionTableEntry) (x : ExceptionTableEntry) (suf : List ExceptionTableEntry) (hsplit : c.exceptionTable.toList = pre ++ x :: suf)
    (hpass : ∀ z ∈ pre, covers z pc = false ∨ (z.catchType ≠ 0 ∧ ∃ nm : String, (Cond.classLink own z.catchType nm).before args s = true ∧ va_Nc E nm s)) (hx : covers x pc = true) (h0 : x.catchType ≠ 0)
    (hlink : (Cond.classLink own x.catchType name).before args s = true) (hcast : (Cond.castable E name).before args s = true) (hcell : H[q]? = some ce) (hv : ce.vm = .none) (hcl : s.vm.findClass E = some ce.cls)
    (kk : W p l e R s m args below meth c H locs cells slots Q (F0 m x.handlerPc ls [.ref q])) : vx_W p l e R s m args below meth c H locs cells slots Q (F0 m pc ls rest) q := by
  intro T hT X
  have hpl : e.platform.magicAccessors = ({} : Platform).magicAccessors := by rw [X.admits.platform]
  obtain ⟨c3, c4, hc3, hc4, hasg⟩ := Cond.castable_spec hcast
  cases Option.some.inj (hc3.symm.trans hcl)
  obtain ⟨c5, hc5, hcl5⟩ := Cond.classLink_spec hown hlink e.platform hpl
  cases Option.some.inj (hc4.symm.trans hc5)
  obtain ⟨vm', X', st⟩ := X.thenCaughtThrough q (g := F0 m pc ls rest) rfl (Steps.refl _) (by rw [hT]; exact hcell) (by rw [hv]; rfl) (by obtain ⟨k9, h9, -⟩ := Vm.findClass_spec hcl; exact ⟨k9, h9⟩) pre x suf hsplit
    (fun z hz => by
      rcases hpass z hz with h | ⟨hz0, nm, hl1, hn1⟩
      · exact Or.inl h
      · obtain ⟨c6, hc6, hcl6⟩ := Cond.classLink_spec hown hl1 e.platform hpl
        obtain ⟨a8, b8, h1, h2, h3⟩ := hn1
        cases Option.some.inj (h1.symm.trans hcl)
        cases Option.some.inj (h2.symm.trans hc6)
        exact Or.inr ⟨hz0, _, hcl6, h3⟩) hx (Or.inr ⟨h0, c4, hcl5, hasg⟩)
  obtain ⟨t, a1, b1⟩ := kk (T.setVm vm') hT X'
  exact ⟨t, st.trans a1, b1⟩
end Rows
section Ends
variable {p : Program} {l : Launch} {e : Env} {R : Room} {s : State} {m : MethodId} {args : Array Value} {below : List Frame} {meth : Method} {c : Code} {H : Heap} {locs : List Loc} {cells slots : Nat} {Q : State → Prop}
variable {mc ms : Nat} {free : Addr → Prop} {A0 A1 : Nat → Prop} {H0 : Heap} {a : Array Value} {ls : Array Slot} {st0 rest : List Value}
variable {Qc : Array Value → State → Outcome → State → Prop} {XC : String → State → State → Prop}
/-- what a body that may throw owes at its end -/
def vx_MQ (below : List Frame) (Qc : Array Value → State → Outcome → State → Prop) (XC : String → State → State → Prop) (a : Array Value) (s : State) (mc ms : Nat) (free : Addr → Prop) : State → Prop := fun t =>
  ∃ o, t.status = .running ∧ Ended t below o ∧ vx_Q Qc XC mc ms free a s o t
theorem vx_ret {g : JFrame} {mc ms : Nat} (k : W p l e R s m args below meth c H locs cells slots (MQ below Qc args s mc ms free) g) : W p l e R s m args below meth c H locs cells slots (vx_MQ below Qc XC args s mc ms free) g := by
  intro T hT X
  obtain ⟨t, a1, o, b1, b2, b3, b4⟩ := k T hT X
  exact ⟨t, a1, o, b1, b2, Or.inl ⟨b3, b4⟩⟩
/-- not caught here: it goes on to the caller -/
theorem vx_widen {g : JFrame} {q : Addr} {k n : Nat} (h1 : cells ≤ k) (h2 : slots ≤ n) (kk : vx_W p l e R s m args below meth c H locs k n Q g q) : vx_W p l e R s m args below meth c H locs cells slots Q g q := fun T hT X => kk T hT (stand_widen X h1 h2)
theorem vx_out {pc : Nat} {E : String} {ce : Cell} {q : Addr} {mc ms : Nat} (hout : ∀ x ∈ c.exceptionTable.toList, covers x pc = false) (hlocks : meth.locks = false) (hcell : H[q]? = some ce) (hv : ce.vm = .none) (hcl : s.vm.findClass E = some ce.cls)
    (hx : ∀ t : State, t.heap = H → s.vm.Alike t.vm → XC E s t) (hf : ∀ z ∈ locs, free z.base) (hc : cells ≤ mc) (hs : slots ≤ ms) :
    vx_W p l e R s m args below meth c H locs cells slots (vx_MQ below Qc XC args s mc ms free) (F0 m pc ls rest) q := by
  intro T hT X
  obtain ⟨st1, hrun, hend, hW, hsm⟩ := X.leaveThrown q (g := F0 m pc ls rest) rfl rfl rfl hout hlocks
  have hcell9 : (T.setFrames (.throwing q :: below)).heap[q]? = some ce := by
    show T.heap[q]? = some ce
    rw [hT]; exact hcell
  exact ⟨_, st1, .threw q, hrun, hend, Or.inr ⟨q, rfl, E, ce, locs, hx _ hT hW.alike, hcell9, hv, hcl, hW, hsm.mono hc hs, hf⟩⟩
theorem vx_frame {U : State} {k n : Nat} (h : s.sameButNew ({ U with vm := s.vm } : State) locs k n) : s.heap.size ≤ U.heap.size ∧ ∀ q : Nat, q < s.heap.size → (∀ z ∈ locs, z.base ≠ q) → U.heap[q]? = s.heap[q]? := by
  obtain ⟨-, h2, -, -, -, h6⟩ := h
  refine ⟨h2, fun q hq hz => ?_⟩
  obtain ⟨c9, e1, e2, e3, e4⟩ := h6 q _ (Array.getElem?_eq_getElem hq)
  have hs : c9.slots = (s.heap[q]).slots := Array.ext_getElem? fun i => e4 i fun hm => hz _ hm rfl
  have h9 : c9 = s.heap[q] := by
    rw [hs] at e2
    exact e2
  have e5 : U.heap[q]? = some c9 := e1
  rw [e5, h9, Array.getElem?_eq_getElem hq]
/-- the words of a throw but the four that speak of the heap -/
def vx_no (w : Cond) : Bool := decide (w ≠ .isRef (.static Bundle.tN "UNASSIGNED_STACK" Bundle.steD)) && decide (w ≠ .isRef (.static Bundle.tN "SUPPRESSED_SENTINEL" Bundle.listD)) && decide (w ≠ .laysStatic Bundle.tN "UNASSIGNED_STACK" Bundle.steD) && decide (w ≠ .laysStatic Bundle.tN "SUPPRESSED_SENTINEL" Bundle.listD)
def vx_at0 (own : String) (ic : Nat) (X : String) (names : List String) : List Cond := (Bundle.ownAtoms0 own ic X names).filter vx_no
def vx_atS (own : String) (ic : Nat) (X : String) (names : List String) : List Cond := (Bundle.ownAtoms own ic X names).filter vx_no
/-- a word that the tables alone decide, or a good one -/
def vx_ot (w : Cond) : Bool := w.onTables || goodWord w
theorem vx_ot_at {args a' : Array Value} {s U : State} {w : Cond} (hW : s.WarmedH U.vm) (hvm : s.vm = U.vm) (hg : vx_ot w = true) (h : w.before args s = true) : w.before a' U = true := by
  simp only [vx_ot, Bool.or_eq_true] at hg
  rcases hg with hg | hg
  · exact va_tabs hg hvm h
  · exact word_at hW (good_of_word hg) h
/-- a list's words: the good ones out of the method's own list, the others by premises of their own -/
theorem vx_hat {args : Array Value} {s : State} {L B : List Cond} (h1 : ∀ w ∈ L.filter goodWord, w.before args s = true) (h2 : ∀ w ∈ L.filter (fun w => !goodWord w), w ∈ B) (h3 : ∀ w ∈ B, w.before args s = true) : ∀ w ∈ L, w.before args s = true := by
  intro w hw
  by_cases g : goodWord w = true
  · exact h1 w (List.mem_filter.mpr ⟨hw, g⟩)
  · refine h3 w (h2 w (List.mem_filter.mpr ⟨hw, ?_⟩))
    show (!goodWord w) = true
    cases hgw : goodWord w
    · rfl
    · exact absurd hgw g
theorem vx_c {args : Array Value} {s : State} {w : Cond} {B : List Cond} (h : w.before args s = true) (t : ∀ w ∈ B, w.before args s = true) : ∀ w' ∈ w :: B, w'.before args s = true := fun w' h' => (List.mem_cons.mp h').elim (fun e => by rw [e]; exact h) (t w')
theorem vx_n {args : Array Value} {s : State} : ∀ w ∈ ([] : List Cond), w.before args s = true := fun _ h => nomatch h
theorem vx_own {args : Array Value} {s : State} {L : List Cond} (h1 : ∀ w ∈ L.filter vx_no, w.before args s = true)
    (hU : (Cond.isRef (.static Bundle.tN "UNASSIGNED_STACK" Bundle.steD)).before args s = true) (hN : (Cond.isRef (.static Bundle.tN "SUPPRESSED_SENTINEL" Bundle.listD)).before args s = true)
    (lU : (Cond.laysStatic Bundle.tN "UNASSIGNED_STACK" Bundle.steD).before args s = true) (lN : (Cond.laysStatic Bundle.tN "SUPPRESSED_SENTINEL" Bundle.listD).before args s = true) : ∀ w ∈ L, w.before args s = true := by
  intro w hw
  by_cases e1 : w = .isRef (.static Bundle.tN "UNASSIGNED_STACK" Bundle.steD)
  · rw [e1]; exact hU
  · by_cases e2 : w = .isRef (.static Bundle.tN "SUPPRESSED_SENTINEL" Bundle.listD)
    · rw [e2]; exact hN
    · by_cases e3 : w = .laysStatic Bundle.tN "UNASSIGNED_STACK" Bundle.steD
      · rw [e3]; exact lU
      · by_cases e4 : w = .laysStatic Bundle.tN "SUPPRESSED_SENTINEL" Bundle.listD
        · rw [e4]; exact lN
        · exact h1 w (List.mem_filter.mpr ⟨hw, by unfold vx_no; rw [decide_eq_true e1, decide_eq_true e2, decide_eq_true e3, decide_eq_true e4]; rfl⟩)
/-- where a static field lies, its class's statics cell in H -/
def vx_L (C n d : String) (A : Nat → Prop) (U : State) (H : Heap) : Prop := ∃ (c : ClassId) (k : Class) (i : Nat) (f : Field) (a : Nat) (cell : Cell), U.vm.findClass C = some c ∧ U.fieldFound? C n d = some (c, k, i, f) ∧ f.isStatic = true ∧ k.statics = some a ∧ H[a]? = some cell ∧ cell.vm.isStatics = true ∧ cell.cls = c ∧ f.slot < cell.slots.size ∧ k.staticTypes[f.slot]? = some f.type ∧ ¬ A a
theorem vx_L.moved {C n d : String} {A : Nat → Prop} {u U : State} {H : Heap} (hvm : u.vm.Alike U.vm) (h : vx_L C n d A u H) : vx_L C n d A U H := by
  obtain ⟨c, k, i, f, a, cell, h1, h2, h3, h4, h5, h6, h7, h8, h9, h10⟩ := h
  obtain ⟨k', hi', he⟩ := State.fieldFound?_setVm hvm h2
  exact ⟨c, k', i, f, a, cell, by rw [hvm.findClass]; exact h1, hi', h3, by rw [he]; exact h4, h5, h6, h7, h8, by rw [he]; exact h9, h10⟩
theorem vx_L.kept {C n d : String} {A : Nat → Prop} {U : State} {H H1 : Heap} (h : vx_L C n d A U H) (hq : ∀ a : Nat, a < H.size → ¬ A a → H1[a]? = H[a]?) : vx_L C n d A U H1 := by
  obtain ⟨c, k, i, f, a, cell, h1, h2, h3, h4, h5, h6, h7, h8, h9, h10⟩ := h
  exact ⟨c, k, i, f, a, cell, h1, h2, h3, h4, by rw [hq a (Array.getElem?_eq_some_iff.mp h5).1 h10]; exact h5, h6, h7, h8, h9, h10⟩
theorem vx_L.narrow {C n d : String} {A B : Nat → Prop} {U : State} {H : Heap} (h : vx_L C n d A U H) (hAB : ∀ q, B q → A q) : vx_L C n d B U H := by
  obtain ⟨c, k, i, f, a, cell, h1, h2, h3, h4, h5, h6, h7, h8, h9, h10⟩ := h
  exact ⟨c, k, i, f, a, cell, h1, h2, h3, h4, h5, h6, h7, h8, h9, fun z => h10 (hAB _ z)⟩
theorem vx_L.word {C n d : String} {A : Nat → Prop} {s : State} {args : Array Value} (h : vx_L C n d A s s.heap) : (Cond.laysStatic C n d).before args s = true := by
  obtain ⟨c, k, i, f, a, cell, h1, h2, h3, h4, h5, h6, h7, h8, h9, -⟩ := h
  show (Cond.laysStatic C n d).holds args s none s [] = true
  exact Cond.laysStatic_of h1 h2 h3 h4 h5 h6 h7 h8 h9
/-- .. and what it holds: null or some reference -/
def vx_Zq (C n d : String) (A : Nat → Prop) (U : State) (H : Heap) : Prop := va_Zq C n d A U H ∧ vx_L C n d A U H
theorem vx_Zq.moved {C n d : String} {A : Nat → Prop} {u U : State} {H : Heap} (hvm : u.vm.Alike U.vm) (h : vx_Zq C n d A u H) : vx_Zq C n d A U H := ⟨va_Zq.moved hvm h.1, vx_L.moved hvm h.2⟩
theorem vx_Zq.kept {C n d : String} {A : Nat → Prop} {U : State} {H H1 : Heap} (h : vx_Zq C n d A U H) (hq : ∀ a : Nat, a < H.size → ¬ A a → H1[a]? = H[a]?) : vx_Zq C n d A U H1 := ⟨va_Zq.kept h.1 hq, vx_L.kept h.2 hq⟩
theorem vx_Zq.narrow {C n d : String} {A B : Nat → Prop} {U : State} {H : Heap} (h : vx_Zq C n d A U H) (hAB : ∀ q, B q → A q) : vx_Zq C n d B U H := ⟨va_Zq.narrow h.1 hAB, vx_L.narrow h.2 hAB⟩
theorem vx_Zqof {args : Array Value} {s : State} {C n d : String} {A : Nat → Prop} (hl : (Cond.laysStatic C n d).before args s = true) (hini : (Cond.initialized C).before args s = true) (h : (Cond.isRef (.static C n d)).before args s = true) (hA : ∀ a : Nat, a < s.heap.size → ¬ A a) : vx_Zq C n d A s s.heap := by
  refine ⟨va_Zqof hl hini h hA, ?_⟩
  obtain ⟨c, k, i, f, a, cell, h1, h2, h3, h4, h5, h6, h7, h8, h9⟩ := Cond.laysStatic_spec hl
  exact ⟨c, k, i, f, a, cell, h1, h2, h3, h4, h5, h6, h7, h8, h9, hA a (Array.getElem?_eq_some_iff.mp h5).1⟩
theorem vx_isRef {C n d : String} {v : Value} {A : Nat → Prop} {s : State} {args : Array Value} (h : va_Z C n d v A s s.heap) (hv : v.isRef = true) : (Cond.isRef (.static C n d)).before args s = true := by
  obtain ⟨cf, kf, fi, f, a, cell, h1, h2, h3, h4, h5, h6, h7, -⟩ := h
  have he : (Term.static C n d).eval args s none [] s = some v := by
    simp [Term.eval, State.fieldNamed?, h1, h2, h4, h5, h6, h7]
  simp only [Cond.before, Cond.holds, Cond.value, he]
  cases v <;> simp_all [Value.isRef]
theorem vx_isRefq {C n d : String} {A : Nat → Prop} {s : State} {args : Array Value} (h : va_Zq C n d A s s.heap) : (Cond.isRef (.static C n d)).before args s = true := by
  rcases h with h | ⟨t, h⟩
  · exact vx_isRef h rfl
  · exact vx_isRef h rfl
/-- the same frame, seen from here: as if the method were called anew in this heap -/
theorem vx_rebase {T : State} (X : Stand p l e R s m args below meth c T locs cells slots) {R' : Room} (hf : R'.frames ≤ R.frames) (hl : R'.locals ≤ R.locals) (hc : cells + R'.cells ≤ R.cells) (hs : slots + R'.slots ≤ R.slots) :
    Stand p l e R' ((T.setVm s.vm).setFrames (.invoking m args :: below)) m args below meth c T [] 0 0 := by
  have htop : (T.setVm s.vm).topJava?.isSome := X.here.top
  have hF : ((T.setVm s.vm).setFrames (.invoking m args :: below)).frames = .invoking m args :: below := State.frames_setFrames _ (State.cur_lt_of_top htop)
  obtain ⟨g₀, hg0⟩ := Option.isSome_iff_exists.mp htop
  obtain ⟨r, hr⟩ := State.topJava?_eq_some.mp hg0
  have hl9 : e.platform.stackLimits (T.setVm s.vm).me = e.platform.stackLimits s.me := X.limits
  have hb9 : (T.setVm s.vm).me.stackBytes = s.me.stackBytes := X.bytes
  refine ⟨X.admits, X.cas, X.clock, hF, ?_, X.hears, X.method, X.code, X.here, X.tail, X.warmed, ?_, ?_, ?_⟩
  · have h := X.room
    have hU : ((T.setVm s.vm).setFrames (.invoking m args :: below)).localsInUse = s.localsInUse := by
      rw [State.localsInUse_invoking hF (meth := meth) (c := c) X.method X.code, State.localsInUse_invoking X.frames X.method X.code]
    simp only [State.hasRoom, Bool.and_eq_true, decide_eq_true_eq] at h ⊢
    obtain ⟨⟨⟨⟨h1, h2, h3, h4, h5, h6⟩, h7⟩, h8⟩, h9⟩ := h
    rw [X.frames, List.length_cons] at h2 h3
    have q1 := X.heapSize
    have q2 := X.used
    simp only [hF, hU, List.length_cons, State.stackLimits_setFrames, State.stackBytes_setFrames, hl9, hb9]
    refine ⟨⟨⟨⟨by omega, by omega, by omega, by omega, by omega, h6⟩, ?_⟩, ?_⟩, X.book⟩
    · show T.heap.size + R'.cells ≤ e.platform.maxCells
      omega
    · show T.slotsUsed + R'.slots ≤ e.platform.maxSlots
      omega
  · rw [State.stackLimits_setFrames]; rfl
  · rw [State.stackBytes_setFrames]; rfl
  · refine ⟨?_, Nat.le_refl _, Nat.le_refl _, ?_, ?_, fun a c9 h9 => ⟨c9, h9, rfl, rfl, fun _ _ => rfl⟩⟩
    · obtain ⟨t, ht, -⟩ := State.frames_cons hr
      show T.setVm s.vm = { ((T.setVm s.vm).setFrames (.invoking m args :: below)).setFrames (T.setVm s.vm).frames with heap := T.heap, slotsUsed := T.slotsUsed }
      rw [State.setFrames_setFrames, State.setFrames_self ht]
      rfl
    · show T.slotsUsed = T.slotsUsed + ((T.heap.toList.drop T.heap.size).map (·.slots.size)).sum
      rw [List.drop_eq_nil_of_le (Nat.le_of_eq Array.length_toList)]
      rfl
    · show ((T.heap.toList.drop T.heap.size).map (·.slots.size)).sum ≤ 0
      rw [List.drop_eq_nil_of_le (Nat.le_of_eq Array.length_toList)]
      exact Nat.le_refl _
/-- 'throw new E()': new; dup; invokespecial; athrow -/
theorem vx_throw0 {cc : ByteArray} {pc : Nat} (hexec : p.tables.exec = Jvm.exec) (hb : c.code = cc) (hl : l.stackTraces = false) {own cls : String} {names : List String} {ik ic mc ms : Nat} {A : Nat → Prop}
    (hown : s.vm.findClass own = some m.cls) (hcls : Bundle.fit cls = true) (hnames : ∀ n ∈ names, Bundle.fit n = true)
    (hk : (Cond.classLink own ik cls).before args s = true) (hini : (Cond.initialized cls).before args s = true) (hat : ∀ w ∈ vx_at0 own ic cls names, w.before args s = true)
    (hgood : ∀ w ∈ Cond.classLink own ik cls :: Cond.initialized cls :: vx_at0 own ic cls names, vx_ot w = true)
    (hU : vx_Zq Bundle.tN "UNASSIGNED_STACK" Bundle.steD A s s.heap) (hN : vx_Zq Bundle.tN "SUPPRESSED_SENTINEL" Bundle.listD A s s.heap) (hS : va_S A s.heap H locs) (hsize : ls.size = c.maxLocals)
    (d0 : decode cc pc = .ok (.new ik, 3)) (d3 : decode cc (pc + 3) = .ok (.dup, 1)) (d4 : decode cc (pc + 4) = .ok (.invokespecial ic, 3)) (d7 : decode cc (pc + 7) = .ok (.athrow, 1))
    (hout : ∀ x ∈ c.exceptionTable.toList, covers x (pc + 7) = false)
    (hRframes : names.length + 3 < R.frames) (hRlocals : (rest.map fun v => v.category).sum + (13 * (names.length + 1) + 42) ≤ R.locals) (hRcells : cells + 1 ≤ R.cells) (hRslots : slots + 6 ≤ R.slots) (hlocks : meth.locks = false)
    (hx : ∀ t : State, s.vm.Alike t.vm → H.size ≤ t.heap.size → (∀ q : Nat, q < H.size → t.heap[q]? = H[q]?) → XC cls s t)
    (hf : ∀ z ∈ locs, free z.base) (hc : cells + 1 ≤ mc) (hs : slots + 6 ≤ ms) :
    W p l e R s m args below meth c H locs cells slots (vx_MQ below Qc XC args s mc ms free) (F0 m pc ls rest) := by
  intro T hT X
  have htr : e.platform.stackTraces = false := (show e.platform.stackTraces = l.stackTraces by rw [X.admits.platform]).trans hl
  have Y := vx_rebase X (R' := { frames := R.frames, locals := R.locals, cells := 1, slots := 6 }) (Nat.le_refl _) (Nat.le_refl _) hRcells hRslots
  obtain ⟨s', hA⟩ : ∃ z, z = (T.setVm s.vm).setFrames (.invoking m args :: below) := ⟨_, rfl⟩
  rw [← hA] at Y
  have hvm : s'.vm = s.vm := by rw [hA]; rfl
  have hhp : s'.heap = H := by rw [hA]; exact hT
  have hW0 : s.WarmedH s'.vm := by rw [hvm]; exact State.WarmedH.refl s
  have hat' : ∀ w ∈ vx_at0 own ic cls names, w.before args s' = true := fun w hw => vx_ot_at hW0 hvm.symm (hgood w (List.mem_cons_of_mem _ (List.mem_cons_of_mem _ hw))) (hat w hw)
  have hk' : (Cond.classLink own ik cls).before args s' = true := vx_ot_at hW0 hvm.symm (hgood _ List.mem_cons_self) hk
  have hini' : (Cond.initialized cls).before args s' = true := vx_ot_at hW0 hvm.symm (hgood _ (List.mem_cons_of_mem _ List.mem_cons_self)) hini
  have hU' : vx_Zq Bundle.tN "UNASSIGNED_STACK" Bundle.steD A s' s'.heap := by rw [hhp]; exact vx_Zq.moved hW0.alike (hU.kept hS.2.1)
  have hN' : vx_Zq Bundle.tN "SUPPRESSED_SENTINEL" Bundle.listD A s' s'.heap := by rw [hhp]; exact vx_Zq.moved hW0.alike (hN.kept hS.2.1)
  have h : ∀ w ∈ Bundle.ownAtoms0 own ic cls names, w.before args s' = true := vx_own hat' (vx_isRefq hU'.1) (vx_isRefq hN'.1) hU'.2.word hN'.2.word
  have hown' : s'.vm.findClass own = some m.cls := by rw [hvm]; exact hown
  have hins : (Cond.instantiable cls 6).before args s' = true := h _ (by simp [Bundle.ownAtoms0])
  obtain ⟨vm₁, cX, kX, hfX, hkX, -, -, X₁, st1⟩ := Y.newCold hexec (own := own) (C := cls) (index := ik) (n := 6) hown' hk' hins hini'
    (g := F0 m pc ls rest) rfl (by rw [hb]; exact d0) (Nat.le_refl _) (Nat.le_refl _)
  generalize hT1 : (T.setVm vm₁).pushCell { cls := cX, slots := kX.instanceTypes.map defaultValue, vm := .none } = T1 at X₁ st1
  have hcat : (Value.ref T.heap.size).category = 1 := rfl
  have hcellA : T1.heap[T.heap.size]? = some (freshCell cX kX) := by rw [← hT1]; exact State.heap_pushCell_size _ _
  have d3' : decode c.code (pc + 3) = .ok (.dup, 1) := by rw [hb]; exact d3
  obtain ⟨U, hsteps, hrun, hend, hW, hsame, ce, hce, hO⟩ := X₁.ctorThrow0 hexec htr (own := own) (cls := cls) (names := names) (ic := ic) hown' hcls hnames h (fun x hx => nomatch hx) hfX hkX hcellA (by rw [hhp, hT]; exact Nat.le_refl _)
    (g := { method := m, pc := pc + 4, locals := ls, stack := .ref T.heap.size :: .ref T.heap.size :: rest, locked := none }) rfl hsize rfl rfl (rest := rest) rfl
    (by rw [hb]; exact d4) (by rw [hb]; exact d7) hout hRframes (by simp only [List.map_cons, List.sum_cons, hcat]; omega) hlocks
  obtain ⟨f1, f2⟩ := vx_frame hsame
  rw [hhp] at f1 f2
  have hWs : s.WarmedH U.vm := State.WarmedH.trans hW0 hW
  have hcl : s.vm.findClass cls = some ce.cls := by
    have h9 := hO.cls
    rw [hvm] at h9
    exact h9
  have hall : s.sameButNew ({ U with vm := s.vm } : State) locs mc ms := by
    subst hA
    obtain ⟨e1, e2⟩ := hsame
    rw [State.setFrames_setFrames] at e1
    have h2 : (T.setVm s.vm).sameButNew ({ U with vm := s.vm } : State) [] (0 + 1) (0 + 6) := ⟨e1, e2⟩
    have h3 := X.same.trans h2
    rw [List.append_nil] at h3
    exact h3.mono hc hs
  refine ⟨U, ?_, .threw T.heap.size, hrun, hend, Or.inr ⟨T.heap.size, rfl, cls, ce, locs, hx U hWs.alike f1 (fun q hq => f2 q hq (fun z hz => nomatch hz)), hce, hO.vm, hcl, hWs, hall, hf⟩⟩
  refine st1 _ ?_
  show Steps p.tables e below (T1.setTop { method := m, pc := pc + 3, locals := ls, stack := .ref T.heap.size :: rest, locked := none }) _
  jvm_step X₁.here [X₁.here.top, hexec, d3', Value.category]
  exact hsteps
/-- 'throw new E("text")': new; dup; ldc; invokespecial; athrow -/
theorem vx_throwS {cc : ByteArray} {pc : Nat} (hexec : p.tables.exec = Jvm.exec) (hb : c.code = cc) (hl : l.stackTraces = false) {own cls text : String} {names : List String} {ik is ic mc ms sa : Nat} {A : Nat → Prop}
    (hown : s.vm.findClass own = some m.cls) (hcls : Bundle.fit cls = true) (hnames : ∀ n ∈ names, Bundle.fit n = true)
    (hk : (Cond.classLink own ik cls).before args s = true) (hini : (Cond.initialized cls).before args s = true) (hstr : vk_R own is text sa s) (hat : ∀ w ∈ vx_atS own ic cls names, w.before args s = true)
    (hgood : ∀ w ∈ Cond.classLink own ik cls :: Cond.initialized cls :: vx_atS own ic cls names, vx_ot w = true)
    (hU : vx_Zq Bundle.tN "UNASSIGNED_STACK" Bundle.steD A s s.heap) (hN : vx_Zq Bundle.tN "SUPPRESSED_SENTINEL" Bundle.listD A s s.heap) (hS : va_S A s.heap H locs) (hsize : ls.size = c.maxLocals)
    (d0 : decode cc pc = .ok (.new ik, 3)) (d3 : decode cc (pc + 3) = .ok (.dup, 1)) (d4 : decode cc (pc + 4) = .ok (.ldc is, 2)) (d6 : decode cc (pc + 6) = .ok (.invokespecial ic, 3)) (d9 : decode cc (pc + 9) = .ok (.athrow, 1))
    (hout : ∀ x ∈ c.exceptionTable.toList, covers x (pc + 9) = false)
    (hRframes : names.length + 3 < R.frames) (hRlocals : (rest.map fun v => v.category).sum + (13 * (names.length + 1) + 43) ≤ R.locals) (hRcells : cells + 1 ≤ R.cells) (hRslots : slots + 6 ≤ R.slots) (hlocks : meth.locks = false)
    (hx : ∀ t : State, s.vm.Alike t.vm → H.size ≤ t.heap.size → (∀ q : Nat, q < H.size → t.heap[q]? = H[q]?) → XC cls s t)
    (hf : ∀ z ∈ locs, free z.base) (hc : cells + 1 ≤ mc) (hs : slots + 6 ≤ ms) :
    W p l e R s m args below meth c H locs cells slots (vx_MQ below Qc XC args s mc ms free) (F0 m pc ls rest) := by
  intro T hT X
  have htr : e.platform.stackTraces = false := (show e.platform.stackTraces = l.stackTraces by rw [X.admits.platform]).trans hl
  have Y := vx_rebase X (R' := { frames := R.frames, locals := R.locals, cells := 1, slots := 6 }) (Nat.le_refl _) (Nat.le_refl _) hRcells hRslots
  obtain ⟨s', hA⟩ : ∃ z, z = (T.setVm s.vm).setFrames (.invoking m args :: below) := ⟨_, rfl⟩
  rw [← hA] at Y
  have hvm : s'.vm = s.vm := by rw [hA]; rfl
  have hhp : s'.heap = H := by rw [hA]; exact hT
  have hW0 : s.WarmedH s'.vm := by rw [hvm]; exact State.WarmedH.refl s
  have hat' : ∀ w ∈ vx_atS own ic cls names, w.before args s' = true := fun w hw => vx_ot_at hW0 hvm.symm (hgood w (List.mem_cons_of_mem _ (List.mem_cons_of_mem _ hw))) (hat w hw)
  have hk' : (Cond.classLink own ik cls).before args s' = true := vx_ot_at hW0 hvm.symm (hgood _ List.mem_cons_self) hk
  have hini' : (Cond.initialized cls).before args s' = true := vx_ot_at hW0 hvm.symm (hgood _ (List.mem_cons_of_mem _ List.mem_cons_self)) hini
  have hU' : vx_Zq Bundle.tN "UNASSIGNED_STACK" Bundle.steD A s' s'.heap := by rw [hhp]; exact vx_Zq.moved hW0.alike (hU.kept hS.2.1)
  have hN' : vx_Zq Bundle.tN "SUPPRESSED_SENTINEL" Bundle.listD A s' s'.heap := by rw [hhp]; exact vx_Zq.moved hW0.alike (hN.kept hS.2.1)
  have h : ∀ w ∈ Bundle.ownAtoms own ic cls names, w.before args s' = true := vx_own hat' (vx_isRefq hU'.1) (vx_isRefq hN'.1) hU'.2.word hN'.2.word
  have hown' : s'.vm.findClass own = some m.cls := by rw [hvm]; exact hown
  have hins : (Cond.instantiable cls 6).before args s' = true := h _ (by simp [Bundle.ownAtoms])
  obtain ⟨vm₁, cX, kX, hfX, hkX, -, -, X₁, st1⟩ := Y.newCold hexec (own := own) (C := cls) (index := ik) (n := 6) hown' hk' hins hini'
    (g := F0 m pc ls rest) rfl (by rw [hb]; exact d0) (Nat.le_refl _) (Nat.le_refl _)
  generalize hT1 : (T.setVm vm₁).pushCell { cls := cX, slots := kX.instanceTypes.map defaultValue, vm := .none } = T1 at X₁ st1
  have hcat : (Value.ref T.heap.size).category = 1 := rfl
  have hcellA : T1.heap[T.heap.size]? = some (freshCell cX kX) := by rw [← hT1]; exact State.heap_pushCell_size _ _
  have d3' : decode c.code (pc + 3) = .ok (.dup, 1) := by rw [hb]; exact d3
  have d4' : decode c.code (pc + 4) = .ok (.ldc is, 2) := by rw [hb]; exact d4
  have hstr' : vk_R own is text sa s' := vk_R.warm hW0 hstr
  obtain ⟨U, hsteps, hrun, hend, hW, hsame, ce, hce, hO⟩ := X₁.ctorThrowS hexec htr (own := own) (cls := cls) (names := names) (ic := ic) hown' hcls hnames h (fun x hx => nomatch hx) hfX hkX hcellA (by rw [hhp, hT]; exact Nat.le_refl _) (msg := .ref sa) rfl
    (g := { method := m, pc := pc + 6, locals := ls, stack := .ref sa :: .ref T.heap.size :: .ref T.heap.size :: rest, locked := none }) rfl hsize rfl rfl (rest := rest) rfl
    (by rw [hb]; exact d6) (by rw [hb]; exact d9) hout hRframes (by simp only [List.map_cons, List.sum_cons, hcat]; omega) hlocks
  obtain ⟨f1, f2⟩ := vx_frame hsame
  rw [hhp] at f1 f2
  have hWs : s.WarmedH U.vm := State.WarmedH.trans hW0 hW
  have hcl : s.vm.findClass cls = some ce.cls := by
    have h9 := hO.cls
    rw [hvm] at h9
    exact h9
  have hall : s.sameButNew ({ U with vm := s.vm } : State) locs mc ms := by
    subst hA
    obtain ⟨e1, e2⟩ := hsame
    rw [State.setFrames_setFrames] at e1
    have h2 : (T.setVm s.vm).sameButNew ({ U with vm := s.vm } : State) [] (0 + 1) (0 + 6) := ⟨e1, e2⟩
    have h3 := X.same.trans h2
    rw [List.append_nil] at h3
    exact h3.mono hc hs
  refine ⟨U, ?_, .threw T.heap.size, hrun, hend, Or.inr ⟨T.heap.size, rfl, cls, ce, locs, hx U hWs.alike f1 (fun q hq => f2 q hq (fun z hz => nomatch hz)), hce, hO.vm, hcl, hWs, hall, hf⟩⟩
  refine st1 _ ?_
  show Steps p.tables e below (T1.setTop { method := m, pc := pc + 3, locals := ls, stack := .ref T.heap.size :: rest, locked := none }) _
  jvm_step X₁.here [X₁.here.top, hexec, d3', Value.category]
  exact X₁.ldcString hexec (own := own) (text := text) (index := is) (a := sa) hown' hstr'.1 hstr'.2
    (g := { method := m, pc := pc + 4, locals := ls, stack := .ref T.heap.size :: .ref T.heap.size :: rest, locked := none }) rfl d4' _ hsteps
/-- 'throw new E("text")', the text by a wide index -/
theorem vx_throwSW {cc : ByteArray} {pc : Nat} (hexec : p.tables.exec = Jvm.exec) (hb : c.code = cc) (hl : l.stackTraces = false) {own cls text : String} {names : List String} {ik is ic mc ms sa : Nat} {A : Nat → Prop}
    (hown : s.vm.findClass own = some m.cls) (hcls : Bundle.fit cls = true) (hnames : ∀ n ∈ names, Bundle.fit n = true)
    (hk : (Cond.classLink own ik cls).before args s = true) (hini : (Cond.initialized cls).before args s = true) (hstr : vk_R own is text sa s) (hat : ∀ w ∈ vx_atS own ic cls names, w.before args s = true)
    (hgood : ∀ w ∈ Cond.classLink own ik cls :: Cond.initialized cls :: vx_atS own ic cls names, vx_ot w = true)
    (hU : vx_Zq Bundle.tN "UNASSIGNED_STACK" Bundle.steD A s s.heap) (hN : vx_Zq Bundle.tN "SUPPRESSED_SENTINEL" Bundle.listD A s s.heap) (hS : va_S A s.heap H locs) (hsize : ls.size = c.maxLocals)
    (d0 : decode cc pc = .ok (.new ik, 3)) (d3 : decode cc (pc + 3) = .ok (.dup, 1)) (d4 : decode cc (pc + 4) = .ok (.ldc_w is, 3)) (d7 : decode cc (pc + 7) = .ok (.invokespecial ic, 3)) (d10 : decode cc (pc + 10) = .ok (.athrow, 1))
    (hout : ∀ x ∈ c.exceptionTable.toList, covers x (pc + 10) = false)
    (hRframes : names.length + 3 < R.frames) (hRlocals : (rest.map fun v => v.category).sum + (13 * (names.length + 1) + 43) ≤ R.locals) (hRcells : cells + 1 ≤ R.cells) (hRslots : slots + 6 ≤ R.slots) (hlocks : meth.locks = false)
    (hx : ∀ t : State, s.vm.Alike t.vm → H.size ≤ t.heap.size → (∀ q : Nat, q < H.size → t.heap[q]? = H[q]?) → XC cls s t)
    (hf : ∀ z ∈ locs, free z.base) (hc : cells + 1 ≤ mc) (hs : slots + 6 ≤ ms) :
    W p l e R s m args below meth c H locs cells slots (vx_MQ below Qc XC args s mc ms free) (F0 m pc ls rest) := by
  intro T hT X
  have htr : e.platform.stackTraces = false := (show e.platform.stackTraces = l.stackTraces by rw [X.admits.platform]).trans hl
  have Y := vx_rebase X (R' := { frames := R.frames, locals := R.locals, cells := 1, slots := 6 }) (Nat.le_refl _) (Nat.le_refl _) hRcells hRslots
  obtain ⟨s', hA⟩ : ∃ z, z = (T.setVm s.vm).setFrames (.invoking m args :: below) := ⟨_, rfl⟩
  rw [← hA] at Y
  have hvm : s'.vm = s.vm := by rw [hA]; rfl
  have hhp : s'.heap = H := by rw [hA]; exact hT
  have hW0 : s.WarmedH s'.vm := by rw [hvm]; exact State.WarmedH.refl s
  have hat' : ∀ w ∈ vx_atS own ic cls names, w.before args s' = true := fun w hw => vx_ot_at hW0 hvm.symm (hgood w (List.mem_cons_of_mem _ (List.mem_cons_of_mem _ hw))) (hat w hw)
  have hk' : (Cond.classLink own ik cls).before args s' = true := vx_ot_at hW0 hvm.symm (hgood _ List.mem_cons_self) hk
  have hini' : (Cond.initialized cls).before args s' = true := vx_ot_at hW0 hvm.symm (hgood _ (List.mem_cons_of_mem _ List.mem_cons_self)) hini
  have hU' : vx_Zq Bundle.tN "UNASSIGNED_STACK" Bundle.steD A s' s'.heap := by rw [hhp]; exact vx_Zq.moved hW0.alike (hU.kept hS.2.1)
  have hN' : vx_Zq Bundle.tN "SUPPRESSED_SENTINEL" Bundle.listD A s' s'.heap := by rw [hhp]; exact vx_Zq.moved hW0.alike (hN.kept hS.2.1)
  have h : ∀ w ∈ Bundle.ownAtoms own ic cls names, w.before args s' = true := vx_own hat' (vx_isRefq hU'.1) (vx_isRefq hN'.1) hU'.2.word hN'.2.word
  have hown' : s'.vm.findClass own = some m.cls := by rw [hvm]; exact hown
  have hins : (Cond.instantiable cls 6).before args s' = true := h _ (by simp [Bundle.ownAtoms])
  obtain ⟨vm₁, cX, kX, hfX, hkX, -, -, X₁, st1⟩ := Y.newCold hexec (own := own) (C := cls) (index := ik) (n := 6) hown' hk' hins hini'
    (g := F0 m pc ls rest) rfl (by rw [hb]; exact d0) (Nat.le_refl _) (Nat.le_refl _)
  generalize hT1 : (T.setVm vm₁).pushCell { cls := cX, slots := kX.instanceTypes.map defaultValue, vm := .none } = T1 at X₁ st1
  have hcat : (Value.ref T.heap.size).category = 1 := rfl
  have hcellA : T1.heap[T.heap.size]? = some (freshCell cX kX) := by rw [← hT1]; exact State.heap_pushCell_size _ _
  have d3' : decode c.code (pc + 3) = .ok (.dup, 1) := by rw [hb]; exact d3
  have d4' : decode c.code (pc + 4) = .ok (.ldc_w is, 3) := by rw [hb]; exact d4
  have hstr' : vk_R own is text sa s' := vk_R.warm hW0 hstr
  obtain ⟨U, hsteps, hrun, hend, hW, hsame, ce, hce, hO⟩ := X₁.ctorThrowS hexec htr (own := own) (cls := cls) (names := names) (ic := ic) hown' hcls hnames h (fun x hx => nomatch hx) hfX hkX hcellA (by rw [hhp, hT]; exact Nat.le_refl _) (msg := .ref sa) rfl
    (g := { method := m, pc := pc + 7, locals := ls, stack := .ref sa :: .ref T.heap.size :: .ref T.heap.size :: rest, locked := none }) rfl hsize rfl rfl (rest := rest) rfl
    (by rw [hb]; exact d7) (by rw [hb]; exact d10) hout hRframes (by simp only [List.map_cons, List.sum_cons, hcat]; omega) hlocks
  obtain ⟨f1, f2⟩ := vx_frame hsame
  rw [hhp] at f1 f2
  have hWs : s.WarmedH U.vm := State.WarmedH.trans hW0 hW
  have hcl : s.vm.findClass cls = some ce.cls := by
    have h9 := hO.cls
    rw [hvm] at h9
    exact h9
  have hall : s.sameButNew ({ U with vm := s.vm } : State) locs mc ms := by
    subst hA
    obtain ⟨e1, e2⟩ := hsame
    rw [State.setFrames_setFrames] at e1
    have h2 : (T.setVm s.vm).sameButNew ({ U with vm := s.vm } : State) [] (0 + 1) (0 + 6) := ⟨e1, e2⟩
    have h3 := X.same.trans h2
    rw [List.append_nil] at h3
    exact h3.mono hc hs
  refine ⟨U, ?_, .threw T.heap.size, hrun, hend, Or.inr ⟨T.heap.size, rfl, cls, ce, locs, hx U hWs.alike f1 (fun q hq => f2 q hq (fun z hz => nomatch hz)), hce, hO.vm, hcl, hWs, hall, hf⟩⟩
  refine st1 _ ?_
  show Steps p.tables e below (T1.setTop { method := m, pc := pc + 3, locals := ls, stack := .ref T.heap.size :: rest, locked := none }) _
  jvm_step X₁.here [X₁.here.top, hexec, d3', Value.category]
  exact X₁.ldcStringW hexec (own := own) (text := text) (index := is) (a := sa) hown' hstr'.1 hstr'.2
    (g := { method := m, pc := pc + 4, locals := ls, stack := .ref T.heap.size :: .ref T.heap.size :: rest, locked := none }) rfl d4' _ hsteps
end Ends
section Bodies
variable {l : Launch}
theorem vx_ofW {y : MethodName} {ws ws' : List Cond} {rm : Room} {Pc : Array Value → State → Prop} {Qc : Array Value → State → Outcome → State → Prop} {XC : String → State → State → Prop} {mc ms : Nat} {free : Addr → Prop} {cc : ByteArray} {maxL : Nat} {ret : Option FieldType}
    (hy : plainName y.cls = true) (hw : ws = Cond.code y cc maxL ret :: ws')
    (body : ∀ p e s m args below meth c s₁, BodyLoose p l y (headSpec ws rm) cc maxL ret e s m args below meth c s₁ → c.maxLocals = maxL → (∀ x ∈ c.exceptionTable.toList, False) → Pc args s →
      W p l e (headSpec ws rm).room s m args below meth c s.heap [] 0 0 (vx_MQ below Qc XC args s mc ms free) (entryFrame m args maxL)) : vx_Met l y ws rm Pc Qc XC mc ms free := by
  refine MetFree.of_bodyS (code := cc) (maxLocals := maxL) (ret := ret) hy ?_ ?_
  · intro args s m h hn
    obtain ⟨meth, c, h1, h2, h3, h4, h5, h6, -, -⟩ := Cond.code_spec hn (atoms_spec (ws := ws) h _ (by rw [hw]; exact List.mem_cons_self))
    exact ⟨meth, c, h1, h2, h3, h4, h5, h6⟩
  · intro p e s m args below meth c s₁ B hml hP _
    have hh0 : s₁.heap = s.heap := by rw [B.state]; rfl
    have ht : ∀ x ∈ c.exceptionTable.toList, False := by
      obtain ⟨meth9, c9, h1, h2, -, -, -, -, h7, -⟩ := Cond.code_spec B.named (atoms_spec (ws := ws) B.pre _ (by rw [hw]; exact List.mem_cons_self))
      cases Option.some.inj (h1.symm.trans B.method)
      cases Option.some.inj (h2.symm.trans (Stand.of_body B).code)
      intro x hx
      rw [Array.isEmpty_iff.mp h7] at hx
      cases hx
    obtain ⟨t, a1, o, b1, b2, b3⟩ := body p e s m args below meth c s₁ B hml ht hP s₁ hh0 (Stand.of_body B)
    exact ⟨t, o, a1, b1, b2, b3⟩
/-- the table of a body with handlers -/
theorem vx_table {p : Program} {x y : MethodName} {S : Spec} {cc bytes : ByteArray} {maxL maxL' : Nat} {ret ret' : Option FieldType} {e : Env} {s s₁ : State} {m : MethodId} {args : Array Value} {below : List Frame} {meth : Method} {c : Code} {hh : List (Nat × Nat × Nat × Nat)}
    (B : BodyLoose p l y S cc maxL ret e s m args below meth c s₁) (h : (Cond.codeWith y bytes maxL' ret' hh).before args s = true) : c.exceptionTable.toList = tableOf hh := by
  obtain ⟨m9, meth9, c9, hn9, h1, h2, -, -, h6, -⟩ := Cond.codeWith_spec h
  cases Option.some.inj (hn9.symm.trans B.named)
  cases Option.some.inj (h1.symm.trans B.method)
  cases Option.some.inj (h2.symm.trans (Stand.of_body B).code)
  rw [← h6, table_eq]
end Bodies
end VXA
/-! ===== END ===== -/
/-! ===== BEGIN a static call of a method with an exception table ===== -/
section VXS
variable {p : Program} {l : Launch} {e : Env} {R : Room} {s : State} {m : MethodId} {args : Array Value} {below : List Frame} {meth : Method} {c : Code} {T : State} {H : Heap} {locs : List Loc} {cells slots : Nat}
abbrev vx_CSW (R : Room) (s : State) (args : Array Value) (own : String) (index : Nat) (y : MethodName) (bytes : ByteArray) (maxL : Nat) (ret : Option FieldType) (hh : List (Nat × Nat × Nat × Nat)) (ws : List Cond) (rm : Room) (mc ms n : Nat) : Prop :=
  (rm.cells = mc ∧ rm.slots = ms ∧ rm.frames + 1 ≤ R.frames ∧ 8 + (maxL + 11) + rm.locals ≤ R.locals ∧ (∀ w ∈ ws, ∀ (a' : Array Value) (U : State), s.WarmedH U.vm → w.before a' U = true) ∧ Cond.codeWith y bytes maxL ret hh ∈ ws) ∧
  (Cond.codeWith y bytes maxL ret hh).before args s = true ∧ (Cond.initialized y.cls).before args s = true ∧ (y.cls ≠ "java/lang/invoke/MethodHandle" ∧ y.cls ≠ "java/lang/invoke/VarHandle") ∧
  (∀ sig, parseMethodDescriptor y.desc = some sig → n = sig.parameters.length) ∧ (Cond.methodLink own index y).before args s = true ∧ (Cond.static y).before args s = true
theorem vx_cwSW {own : String} {index maxL mc ms : Nat} {y : MethodName} {bytes : ByteArray} {ret : Option FieldType} {hh : List (Nat × Nat × Nat × Nat)} {Ts ws ws' : List Cond} {rm : Room} (n : Nat) (ht : ∀ w ∈ Ts, w.before args s = true) (hT : GoodIn Ts (va_wsS own index y ws)) (hw : ws = Cond.codeWith y bytes maxL ret hh :: ws') (hrc : rm.cells = mc) (hrs : rm.slots = ms)
    (hd : y.cls ≠ "java/lang/invoke/MethodHandle" ∧ y.cls ≠ "java/lang/invoke/VarHandle" ∧ (parseMethodDescriptor y.desc).map (fun d => d.parameters.length) = some n) (hR : rm.frames + 1 ≤ R.frames ∧ 8 + (maxL + 11) + rm.locals ≤ R.locals) :
    vx_CSW R s args own index y bytes maxL ret hh ws rm mc ms n := by
  have ok : ∀ w ∈ va_wsS own index y ws, w.before args s = true := fun w h => ht w (hT w h).1
  have hG : GoodIn Ts ws := fun w h => hT w (by unfold va_wsS; exact List.mem_append_right _ h)
  have hc : Cond.codeWith y bytes maxL ret hh ∈ ws := by rw [hw]; exact List.mem_cons_self
  refine ⟨⟨hrc, hrs, hR.1, hR.2, pay_in ht hG, hc⟩, ht _ (hG _ hc).1, ok _ (by simp [va_wsS]), ⟨hd.1, hd.2.1⟩, fun sig h => ?_, ok _ (by simp [va_wsS]), ok _ (by simp [va_wsS])⟩
  have h2 := hd.2.2
  rw [h] at h2
  exact (Option.some.inj h2).symm
theorem vx_callSW (X : Stand p l e R s m args below meth c T locs cells slots) (hexec : p.tables.exec = Jvm.exec) {own : String} {index : Nat} {y : MethodName} {bytes : ByteArray} {maxL : Nat} {ret : Option FieldType} {hh : List (Nat × Nat × Nat × Nat)}
    (hown : s.vm.findClass own = some m.cls) (hlink : (Cond.methodLink own index y).before args s = true) (hstat : (Cond.static y).before args s = true) (hinit : (Cond.initialized y.cls).before args s = true)
    (hcode : (Cond.codeWith y bytes maxL ret hh).before args s = true) (hy : y.cls ≠ "java/lang/invoke/MethodHandle" ∧ y.cls ≠ "java/lang/invoke/VarHandle")
    {W9 : Nat} {Pre : Pt → Array Value → Prop} {Post : Pt → Array Value → Option Value → Pt → Prop} (hK : Back l R p e below s args y 3 W9 Pre Post)
    {g : JFrame} (hg : g.method = m) (hsize : g.locals.size = c.maxLocals) {argsL rest : List Value} (hlen : ∀ sig, parseMethodDescriptor y.desc = some sig → argsL.length = sig.parameters.length)
    (hstack : g.stack = argsL.reverse ++ rest) (hW : 2 * g.monitorRoom + (rest.map fun v => v.category).sum ≤ W9) (hdg : decode c.code g.pc = .ok (.invokestatic index, 3))
    (hpre : ∀ vm₁, s.WarmedH vm₁ → Pre ⟨T.setVm vm₁, locs, cells, slots⟩ argsL.toArray) :
    ∃ (v : Option Value) (vm₁ : Vm) (B : Pt), s.WarmedH vm₁ ∧ Stand p l e R s m args below meth c B.U B.locs B.cells B.slots ∧ Post ⟨T.setVm vm₁, locs, cells, slots⟩ argsL.toArray v B ∧
      ∀ target, Steps p.tables e below (B.U.setTop { g with pc := g.pc + 3, stack := v.toList ++ rest }) target → Steps p.tables e below (T.setTop g) target := by
  obtain ⟨mk, methM, cM, hnamed, hmethM, -, -, -, -, -, -, hsigM⟩ := Cond.codeWith_spec hcode
  have hstatic : methM.isStatic = true := Cond.static_spec hnamed hmethM hstat
  obtain ⟨kP, hkP, -⟩ := className_of_methodNamed hnamed
  have hinitP : kP.init = .initialized := Cond.initialized_spec (findClass_of_methodNamed hnamed) hkP hinit
  obtain ⟨vm₁, X₁, hstep₁⟩ := X.invokestatic hexec hown hlink hnamed hmethM hstatic hkP hinitP hy (g := g) hg (argsL := argsL) (rest := rest) (hlen _ hsigM) hstack hdg
  obtain ⟨v, B, X', hpost, hsteps⟩ := hK m meth c ⟨T.setVm vm₁, locs, cells, slots⟩ { g with stack := rest } (.invokestatic index) mk argsL.toArray X₁ hg hsize hdg hW (X₁.named hnamed) (hpre vm₁ X₁.warmed)
  exact ⟨v, vm₁, B, X₁.warmed, X', hpost, fun target h => hstep₁ _ fun acts => by rw [doInvoke_state]; exact hsteps.trans h⟩
theorem vx_runSW {y : MethodName} {bytes cc : ByteArray} {maxL nL mc ms n index : Nat} {ret : Option FieldType} {hh : List (Nat × Nat × Nat × Nat)} {ws : List Cond} {rm : Room} {Pc : Array Value → State → Prop} {Qc : Array Value → State → Outcome → State → Prop} {free : Addr → Prop} {Ts : List Cond} {own : String} {As rest : List Value} {g : JFrame}
    (S : CallFix p m c cc nL s args Ts own) (hM : Met l y ws rm Pc Qc mc ms free) (cw : vx_CSW R s args own index y bytes maxL ret hh ws rm mc ms n) (hp : PreS s H Pc As)
    (hg : g.method = m) (hn : As.length = n) (hsize : g.locals.size = nL) (hstack : g.stack = As.reverse ++ rest) (hW : 2 * g.monitorRoom + (rest.map fun v => v.category).sum ≤ 8) (hdg : decode cc g.pc = .ok (.invokestatic index, 3)) (hf : cells + mc ≤ R.cells ∧ slots + ms ≤ R.slots) :
    va_Run p l e R s m args below meth c H locs cells slots mc ms g rest (Qc As.toArray) (free) := by
  obtain ⟨⟨hrc, hrs, hfr, hlo, hws, hcw⟩, hcode, hini, hy, hlen, hl, hstt⟩ := cw
  have hK : Back l R p e below s args y 3 8 (PreOf R mc ms Pc) (PostOf Qc mc ms free) := va_backW (hh := hh) (bytes := bytes) (maxL := maxL) (ret := ret) hM hp.1 hrc hrs hfr hlo hws hcw (fun a' U hW => word_at hW (Or.inl (by first | rfl | simp [Cond.onTables, Cond.keeps, Cond.steady])) hini)
  obtain ⟨hx, hb, hml, ho, -⟩ := S
  intro T hT X
  obtain ⟨v, vm₁, ⟨U', l2, c2, s2⟩, hW₁, X', ⟨g', mk, t, L, e1, e2, hq, h1, hL, h2, h3⟩, st⟩ := vx_callSW X hx (hh := hh) (bytes := bytes) (maxL := maxL) (ret := ret) ho hl hstt hini hcode hy hK hg (hsize.trans hml.symm) (argsL := As) (rest := rest) (fun sig h => hn.trans (hlen sig h)) hstack hW (by rw [hb]; exact hdg)
    (fun vm₁ hW₁ => ⟨hf.1, hf.2, hp.2 (T.setVm vm₁) hT hW₁⟩)
  dsimp only [Pt.U, Pt.locs, Pt.cells, Pt.slots] at X' e1 e2 h1 h2 h3 st
  subst h1; subst h2; subst h3
  exact ⟨v, (T.setVm vm₁).calling g' mk As.toArray, t, U', L, hT, X', hL, e1, e2, hq, st⟩
/-- not caught here, past rows that name other classes: it goes on to the caller -/
theorem vx_outP {p : Program} {l : Launch} {e : Env} {R : Room} {s : State} {m : MethodId} {args : Array Value} {below : List Frame} {meth : Method} {c : Code} {H : Heap} {locs : List Loc} {cells slots : Nat} {free : Addr → Prop} {ls : Array Slot} {rest : List Value} {Qc : Array Value → State → Outcome → State → Prop} {XC : String → State → State → Prop}
    {pc : Nat} {own E : String} {ce : Cell} {q : Addr} {mc ms : Nat} (hown : s.vm.findClass own = some m.cls) (hlocks : meth.locks = false)
    (hpass : ∀ z ∈ c.exceptionTable.toList, covers z pc = false ∨ (z.catchType ≠ 0 ∧ ∃ nm : String, (Cond.classLink own z.catchType nm).before args s = true ∧ va_Nc E nm s)) (hcell : H[q]? = some ce) (hv : ce.vm = .none) (hcl : s.vm.findClass E = some ce.cls)
    (hx : ∀ t : State, t.heap = H → s.vm.Alike t.vm → XC E s t) (hf : ∀ z ∈ locs, free z.base) (hc : cells ≤ mc) (hs : slots ≤ ms) :
    vx_W p l e R s m args below meth c H locs cells slots (vx_MQ below Qc XC args s mc ms free) (F0 m pc ls rest) q := by
  intro T hT X
  have hpl : e.platform.magicAccessors = ({} : Platform).magicAccessors := by rw [X.admits.platform]
  obtain ⟨vm', hW', X', st⟩ := X.outThrough hlocks q (g := F0 m pc ls rest) rfl rfl rfl (cell := ce) (by rw [hT]; exact hcell) (by rw [hv]; rfl)
    (by obtain ⟨k9, h9, -⟩ := Vm.findClass_spec hcl; exact ⟨k9, h9⟩) (fun z hz => by
      rcases hpass z hz with h | ⟨hz0, nm, hl1, hn1⟩
      · exact Or.inl h
      · obtain ⟨c6, hc6, hcl6⟩ := Cond.classLink_spec hown hl1 e.platform hpl
        obtain ⟨a8, b8, h1, h2, h3⟩ := hn1
        cases Option.some.inj (h1.symm.trans hcl)
        cases Option.some.inj (h2.symm.trans hc6)
        exact Or.inr ⟨hz0, _, hcl6, h3⟩)
  obtain ⟨g₀, hfr⟩ := X'.frames_eq
  have hcell9 : ((T.setVm vm').setFrames (.throwing q :: below)).heap[q]? = some ce := by
    show T.heap[q]? = some ce
    rw [hT]; exact hcell
  have hend : Ended ((T.setVm vm').setFrames (.throwing q :: below)) below (.threw q) := State.frames_setFrames _ (State.cur_lt_of_frames hfr)
  refine ⟨(T.setVm vm').setFrames (.throwing q :: below), ?_, .threw q, X'.here.running, hend, Or.inr ⟨q, rfl, E, ce, locs, hx _ hT (X'.ends _).1.alike, hcell9, hv, hcl, (X'.ends _).1, (X'.ends _).2.mono hc hs, hf⟩⟩
  rw [X.pushThrowing_eq]
  exact st
/-- a thing of a world lies in the heap -/
theorem vx_lt {D : va_G} {cl : List vw_C} {ws : va_W} {H1 : Heap} (h : va_P D cl ws H1) {k : Nat} {q : Nat × va_E} (hk : ws[k]? = some q) : q.1 < H1.size := (h k q hk).lt
end VXS
/-! ===== END ===== -/
/-! ===== BEGIN methods with a table of their own: called by a name, returning or throwing ===== -/
section VXH
/-! vx_backW, vx_callVX, vx_callSX, vx_callVW, vx_runVW, vx_runVX, vx_runSX, vx_ofWH follow the same proofs as their sisters above (Free/Laws.lean, Shelf42/LK1.lean); vx_outP calls Shelf42/NT130.lean (outThrough). -/
section
variable {l : Launch} {R : Room} {p : Program} {e : Env} {below : List Frame} {s : State} {sargs : Array Value} {y : MethodName} {len W9 : Nat}
theorem vx_backW {ws : List Cond} {rm : Room} {Pc : Array Value → State → Prop} {Qc : Array Value → State → Outcome → State → Prop} {XC : String → State → State → Prop} {mc ms : Nat} {free : Addr → Prop} {bytes : ByteArray} {maxL : Nat} {ret : Option FieldType} {hh : List (Nat × Nat × Nat × Nat)}
    (hM : vx_Met l y ws rm Pc Qc XC mc ms free) (hblind : FrameBlind Pc) (hrc : rm.cells = mc) (hrs : rm.slots = ms)
    (hframes : rm.frames + 1 ≤ R.frames) (hlocals : W9 + (maxL + 11) + rm.locals ≤ R.locals)
    (hws : ∀ w ∈ ws, ∀ a' U, s.WarmedH U.vm → w.before a' U = true) (hcode : Cond.codeWith y bytes maxL ret hh ∈ ws) (hinit : ∀ a' U, s.WarmedH U.vm → (Cond.initialized y.cls).before a' U = true) :
    vx_Back l R p e below s sargs y len W9 (PreOf R mc ms Pc) (PostOf Qc mc ms free) (vx_Post XC mc ms free) := by
  intro m meth c A g ig mk a X hg hsize hdg hW hn hp
  have h1 : (headSpec ws rm).pre.before a A.U = true := atoms_intro fun w hw => hws w hw _ _ X.warmed
  have h2 : (Cond.codeWith y bytes maxL ret hh).before a A.U = true := hws _ hcode _ _ X.warmed
  have h3 : (Cond.initialized y.cls).before a A.U = true := hinit _ _ X.warmed
  have h4 : A.cells + (headSpec ws rm).room.cells ≤ R.cells := by rw [show (headSpec ws rm).room.cells = mc from hrc]; exact hp.1
  have h5 : A.slots + (headSpec ws rm).room.slots ≤ R.slots := by rw [show (headSpec ws rm).room.slots = ms from hrs]; exact hp.2.1
  have hPc : Pc a (A.U.calling g mk a) := hblind _ _ _ _ hp.2.2
  obtain ⟨U, Ls, c0, s0⟩ := A
  dsimp only [Pt.U, Pt.locs, Pt.cells, Pt.slots] at h1 h2 h3 h4 h5 X hn hPc ⊢
  obtain ⟨m9, methY, cY, hn9, hmY, hcY, -, hlY, -⟩ := Cond.codeWith_spec h2
  cases Option.some.inj (hn9.symm.trans hn)
  obtain ⟨kY, hkY, -⟩ := className_of_methodNamed hn
  have hinitY : kY.init = .initialized := Cond.initialized_spec (findClass_of_methodNamed hn) hkY h3
  have h : At U g.method c below := by rw [hg]; exact X.here
  have hlocals9 : W9 + (maxL + 11) + (headSpec ws rm).room.locals ≤ R.locals := hlocals
  have happ : (headSpec ws rm).appliesLoose y e.platform (U.calling g mk a) = true :=
    Spec.appliesLoose_calling (g := g) h hdg hn hkY hinitY
      (X.room_calling (g := g) (R' := (headSpec ws rm).room) hsize hmY hcY hframes (by rw [hlY]; omega) h4 h5) h1
  obtain ⟨mid, hmid⟩ := h.above
  have hfr : (U.setTop g).frames = (.java g :: mid) ++ below := by rw [State.frames_setTop' g h.top, hmid]; rfl
  obtain ⟨o, s₂, hsteps, -, hend, hq⟩ := Steps.callFree hM p X.admits X.cas X.clock (acts := []) hfr happ hPc trivial
  have hq' : vx_Q Qc XC mc ms free a (U.calling g mk a) o s₂ := hq
  rw [State.frames_setTop' g h.top] at hend
  obtain ⟨g₀, hg0⟩ := Option.isSome_iff_exists.mp h.top
  obtain ⟨r, hr⟩ := State.topJava?_eq_some.mp hg0
  have hr' : (({ U with heap := s₂.heap, slotsUsed := s₂.slotsUsed } : State).setVm s₂.vm).frames = .java g₀ :: r := hr
  rcases hq' with ⟨hqc, L, hfe, hL⟩ | ⟨q, rfl, E, ce, L, hx, hce, hcv, hcl, hW₂, hsm, hL⟩
  · obtain ⟨⟨v, rfl⟩, hW₂, e2, q2, q3, q4, q5, q6⟩ := id hfe
    have e3 : s₂ = ({ (U.calling g mk a).setFrames s₂.frames with heap := s₂.heap, slotsUsed := s₂.slotsUsed } : State).setVm s₂.vm := by
      have : s₂ = ({ s₂ with vm := (U.calling g mk a).vm } : State).setVm s₂.vm := rfl
      rw [e2] at this
      exact this
    obtain ⟨c₂, i₂, len₂, hc₂, hd₂, hf₂⟩ := hend
    have hW' : U.WarmedH s₂.vm := hW₂
    have hcc : c₂ = c := by
      have h1 : s₂.code? g.method = U.code? g.method := by
        rw [State.code?_eq, State.code?_eq, hW'.alike.method?]
      exact Option.some.inj (hc₂.symm.trans (h1.trans h.code))
    subst hcc
    have hlen : len₂ = len := by rw [hdg] at hd₂; cases hd₂; rfl
    subst hlen
    have hs₂ : s₂ = (({ U with heap := s₂.heap, slotsUsed := s₂.slotsUsed } : State).setVm s₂.vm).setTop { g with pc := g.pc + len₂, stack := v.toList ++ g.stack } := by
      refine e3.trans ?_
      rw [hf₂, State.calling_eq h.top, State.setFrames_setFrames, State.setTop_of_frames _ hr', hr]
      rfl
    have hsame : U.sameButNew ({ U with heap := s₂.heap, slotsUsed := s₂.slotsUsed } : State) L mc ms := by
      refine ⟨?_, q2, q3, q4, q5, q6⟩
      obtain ⟨t, ht, -⟩ := State.frames_cons hr
      show ({ U with heap := s₂.heap, slotsUsed := s₂.slotsUsed } : State) = { U.setFrames U.frames with heap := s₂.heap, slotsUsed := s₂.slotsUsed }
      rw [State.setFrames_self ht]
    subst hg
    refine Or.inl ⟨v, ⟨(({ U with heap := s₂.heap, slotsUsed := s₂.slotsUsed } : State).setVm s₂.vm), Ls ++ L, c0 + mc, s0 + ms⟩,
      ⟨X.admits, X.cas, X.clock, X.frames, X.room, X.hears, X.method, X.code, (X.here.setHeapUsed s₂.heap s₂.slotsUsed).setVm hW'.alike, X.tail, State.WarmedH.trans X.warmed hW', X.limits, X.bytes, X.same.trans (hsame.setVm s.vm)⟩,
      ⟨g, mk, s₂, L, rfl, rfl, hqc, rfl, hL, rfl, rfl⟩, ?_⟩
    show Steps p.tables e below _ ((({ U with heap := s₂.heap, slotsUsed := s₂.slotsUsed } : State).setVm s₂.vm).setTop { g with pc := g.pc + len₂, stack := v.toList ++ g.stack })
    rw [← hs₂]
    exact hsteps
  · obtain ⟨e2, q2, q3, q4, q5, q6⟩ := id hsm
    have e3 : s₂ = ({ (U.calling g mk a).setFrames s₂.frames with heap := s₂.heap, slotsUsed := s₂.slotsUsed } : State).setVm s₂.vm := by
      have : s₂ = ({ s₂ with vm := (U.calling g mk a).vm } : State).setVm s₂.vm := rfl
      rw [e2] at this
      exact this
    have hf₂ : s₂.frames = .throwing q :: .java g :: U.frames.tail := hend
    have hW' : U.WarmedH s₂.vm := hW₂
    have hs₂ : s₂ = ((({ U with heap := s₂.heap, slotsUsed := s₂.slotsUsed } : State).setVm s₂.vm).setTop g).pushFrame (.throwing q) := by
      refine e3.trans ?_
      rw [hf₂, State.calling_eq h.top, State.setFrames_setFrames, State.pushFrame, State.frames_setTop _ hr', State.setTop_of_frames _ hr', State.setFrames_setFrames, hr]
      rfl
    have hsame : U.sameButNew ({ U with heap := s₂.heap, slotsUsed := s₂.slotsUsed } : State) L mc ms := by
      refine ⟨?_, q2, q3, q4, q5, q6⟩
      obtain ⟨t, ht, -⟩ := State.frames_cons hr
      show ({ U with heap := s₂.heap, slotsUsed := s₂.slotsUsed } : State) = { U.setFrames U.frames with heap := s₂.heap, slotsUsed := s₂.slotsUsed }
      rw [State.setFrames_self ht]
    subst hg
    refine Or.inr ⟨q, ⟨(({ U with heap := s₂.heap, slotsUsed := s₂.slotsUsed } : State).setVm s₂.vm), Ls ++ L, c0 + mc, s0 + ms⟩,
      ⟨X.admits, X.cas, X.clock, X.frames, X.room, X.hears, X.method, X.code, (X.here.setHeapUsed s₂.heap s₂.slotsUsed).setVm hW'.alike, X.tail, State.WarmedH.trans X.warmed hW', X.limits, X.bytes, X.same.trans (hsame.setVm s.vm)⟩,
      ⟨g, mk, s₂, L, E, ce, rfl, rfl, hx, hce, hcv, hcl, rfl, hL, rfl, rfl⟩, ?_⟩
    show Steps p.tables e below _ (((({ U with heap := s₂.heap, slotsUsed := s₂.slotsUsed } : State).setVm s₂.vm).setTop g).pushFrame (.throwing q))
    rw [← hs₂]
    exact hsteps
end
variable {p : Program} {l : Launch} {e : Env} {R : Room} {s : State} {m : MethodId} {args : Array Value} {below : List Frame} {meth : Method} {c : Code} {T : State} {H : Heap} {locs : List Loc} {cells slots : Nat}
theorem vx_callVX (X : Stand p l e R s m args below meth c T locs cells slots) (hexec : p.tables.exec = Jvm.exec) {own C : String} {index : Nat} {y : MethodName} {bytes : ByteArray} {maxL : Nat} {ret : Option FieldType} {hh : List (Nat × Nat × Nat × Nat)}
    (hown : s.vm.findClass own = some m.cls) (hlink : (Cond.methodLink own index y).before args s = true) (hinst : (Cond.instanceMethod y).before args s = true) (hsel : (Cond.selects C y y).before args s = true)
    (hcode : (Cond.codeWith y bytes maxL ret hh).before args s = true) (hy : y.cls ≠ "java/lang/invoke/MethodHandle" ∧ y.cls ≠ "java/lang/invoke/VarHandle")
    {W9 : Nat} {Pre : Pt → Array Value → Prop} {Post : Pt → Array Value → Option Value → Pt → Prop} {PostX : Pt → Array Value → Addr → Pt → Prop} (hK : vx_Back l R p e below s args y 3 W9 Pre Post PostX)
    {b : Addr} {cellB : Cell} (hcell : T.heap[b]? = some cellB) (hobj : cellB.vm.isStatics = false) (hcls : s.vm.findClass C = some cellB.cls)
    {g : JFrame} (hg : g.method = m) (hsize : g.locals.size = c.maxLocals) {argsL rest : List Value} (hlen : ∀ sig, parseMethodDescriptor y.desc = some sig → argsL.length = sig.parameters.length)
    (hstack : g.stack = argsL.reverse ++ .ref b :: rest) (hW : 2 * g.monitorRoom + (rest.map fun v => v.category).sum ≤ W9) (hdg : decode c.code g.pc = .ok (.invokevirtual index, 3))
    (hpre : ∀ vm₁, s.WarmedH vm₁ → Pre ⟨T.setVm vm₁, locs, cells, slots⟩ (Value.ref b :: argsL).toArray) :
    (∃ (v : Option Value) (vm₁ : Vm) (B : Pt), s.WarmedH vm₁ ∧ Stand p l e R s m args below meth c B.U B.locs B.cells B.slots ∧ Post ⟨T.setVm vm₁, locs, cells, slots⟩ (Value.ref b :: argsL).toArray v B ∧
      ∀ target, Steps p.tables e below (B.U.setTop { g with pc := g.pc + 3, stack := v.toList ++ rest }) target → Steps p.tables e below (T.setTop g) target) ∨
    (∃ (q : Addr) (vm₁ : Vm) (B : Pt), s.WarmedH vm₁ ∧ Stand p l e R s m args below meth c B.U B.locs B.cells B.slots ∧ PostX ⟨T.setVm vm₁, locs, cells, slots⟩ (Value.ref b :: argsL).toArray q B ∧
      Steps p.tables e below (T.setTop g) ((B.U.setTop { g with stack := rest }).pushFrame (.throwing q))) := by
  obtain ⟨mk, methM, hnamed, hmethM, hstM, habM⟩ := Cond.instanceMethod_spec hinst
  obtain ⟨m8, methM', cM, hn8, hmethM', -, -, -, -, -, -, hsigM⟩ := Cond.codeWith_spec hcode
  cases Option.some.inj (hn8.symm.trans hnamed)
  cases hmethM.symm.trans hmethM'
  obtain ⟨c2, r2, m2, q1, q2, q3, q4, kP, hkP, hkPi⟩ := Cond.selects_spec hsel
  cases hcls.symm.trans q1
  cases (State.methodFound?_of_named hnamed hy).symm.trans q2
  cases hnamed.symm.trans q3
  have hselP : selectMethod e.platform s.vm cellB.cls mk = .method mk := by rw [Launch.admits_selectMethod X.admits]; exact q4
  obtain ⟨vm₁, X₁, hstep₁⟩ := X.invokevirtual hexec hown hlink hnamed hmethM hstM hkP hkPi hy (a := b) (cell := cellB) hcell
    (fun z h => by rw [h] at hobj; cases hobj) hselP hmethM habM hkP hkPi (g := g) hg (argsL := argsL) (rest := rest) (hlen _ hsigM) hstack hdg
  rcases hK m meth c ⟨T.setVm vm₁, locs, cells, slots⟩ { g with stack := rest } (.invokevirtual index) mk (Value.ref b :: argsL).toArray X₁ hg hsize hdg hW (X₁.named hnamed) (hpre vm₁ X₁.warmed) with ⟨v, B, X', hpost, hsteps⟩ | ⟨q, B, X', hpost, hsteps⟩
  · exact Or.inl ⟨v, vm₁, B, X₁.warmed, X', hpost, fun target h => hstep₁ _ fun acts => by rw [doInvoke_state]; exact hsteps.trans h⟩
  · exact Or.inr ⟨q, vm₁, B, X₁.warmed, X', hpost, hstep₁ _ fun acts => by rw [doInvoke_state]; exact hsteps⟩
theorem vx_callSX (X : Stand p l e R s m args below meth c T locs cells slots) (hexec : p.tables.exec = Jvm.exec) {own : String} {index : Nat} {y : MethodName} {bytes : ByteArray} {maxL : Nat} {ret : Option FieldType} {hh : List (Nat × Nat × Nat × Nat)}
    (hown : s.vm.findClass own = some m.cls) (hlink : (Cond.methodLink own index y).before args s = true) (hstat : (Cond.static y).before args s = true) (hinit : (Cond.initialized y.cls).before args s = true)
    (hcode : (Cond.codeWith y bytes maxL ret hh).before args s = true) (hy : y.cls ≠ "java/lang/invoke/MethodHandle" ∧ y.cls ≠ "java/lang/invoke/VarHandle")
    {W9 : Nat} {Pre : Pt → Array Value → Prop} {Post : Pt → Array Value → Option Value → Pt → Prop} {PostX : Pt → Array Value → Addr → Pt → Prop} (hK : vx_Back l R p e below s args y 3 W9 Pre Post PostX)
    {g : JFrame} (hg : g.method = m) (hsize : g.locals.size = c.maxLocals) {argsL rest : List Value} (hlen : ∀ sig, parseMethodDescriptor y.desc = some sig → argsL.length = sig.parameters.length)
    (hstack : g.stack = argsL.reverse ++ rest) (hW : 2 * g.monitorRoom + (rest.map fun v => v.category).sum ≤ W9) (hdg : decode c.code g.pc = .ok (.invokestatic index, 3))
    (hpre : ∀ vm₁, s.WarmedH vm₁ → Pre ⟨T.setVm vm₁, locs, cells, slots⟩ argsL.toArray) :
    (∃ (v : Option Value) (vm₁ : Vm) (B : Pt), s.WarmedH vm₁ ∧ Stand p l e R s m args below meth c B.U B.locs B.cells B.slots ∧ Post ⟨T.setVm vm₁, locs, cells, slots⟩ argsL.toArray v B ∧
      ∀ target, Steps p.tables e below (B.U.setTop { g with pc := g.pc + 3, stack := v.toList ++ rest }) target → Steps p.tables e below (T.setTop g) target) ∨
    (∃ (q : Addr) (vm₁ : Vm) (B : Pt), s.WarmedH vm₁ ∧ Stand p l e R s m args below meth c B.U B.locs B.cells B.slots ∧ PostX ⟨T.setVm vm₁, locs, cells, slots⟩ argsL.toArray q B ∧
      Steps p.tables e below (T.setTop g) ((B.U.setTop { g with stack := rest }).pushFrame (.throwing q))) := by
  obtain ⟨mk, methM, cM, hnamed, hmethM, -, -, -, -, -, -, hsigM⟩ := Cond.codeWith_spec hcode
  have hstatic : methM.isStatic = true := Cond.static_spec hnamed hmethM hstat
  obtain ⟨kP, hkP, -⟩ := className_of_methodNamed hnamed
  have hinitP : kP.init = .initialized := Cond.initialized_spec (findClass_of_methodNamed hnamed) hkP hinit
  obtain ⟨vm₁, X₁, hstep₁⟩ := X.invokestatic hexec hown hlink hnamed hmethM hstatic hkP hinitP hy (g := g) hg (argsL := argsL) (rest := rest) (hlen _ hsigM) hstack hdg
  rcases hK m meth c ⟨T.setVm vm₁, locs, cells, slots⟩ { g with stack := rest } (.invokestatic index) mk argsL.toArray X₁ hg hsize hdg hW (X₁.named hnamed) (hpre vm₁ X₁.warmed) with ⟨v, B, X', hpost, hsteps⟩ | ⟨q, B, X', hpost, hsteps⟩
  · exact Or.inl ⟨v, vm₁, B, X₁.warmed, X', hpost, fun target h => hstep₁ _ fun acts => by rw [doInvoke_state]; exact hsteps.trans h⟩
  · exact Or.inr ⟨q, vm₁, B, X₁.warmed, X', hpost, hstep₁ _ fun acts => by rw [doInvoke_state]; exact hsteps⟩
theorem vx_callVW (X : Stand p l e R s m args below meth c T locs cells slots) (hexec : p.tables.exec = Jvm.exec) {own C : String} {index : Nat} {y : MethodName} {bytes : ByteArray} {maxL : Nat} {ret : Option FieldType} {hh : List (Nat × Nat × Nat × Nat)}
    (hown : s.vm.findClass own = some m.cls) (hlink : (Cond.methodLink own index y).before args s = true) (hinst : (Cond.instanceMethod y).before args s = true) (hsel : (Cond.selects C y y).before args s = true)
    (hcode : (Cond.codeWith y bytes maxL ret hh).before args s = true) (hy : y.cls ≠ "java/lang/invoke/MethodHandle" ∧ y.cls ≠ "java/lang/invoke/VarHandle")
    {W9 : Nat} {Pre : Pt → Array Value → Prop} {Post : Pt → Array Value → Option Value → Pt → Prop} (hK : Back l R p e below s args y 3 W9 Pre Post)
    {b : Addr} {cellB : Cell} (hcell : T.heap[b]? = some cellB) (hobj : cellB.vm.isStatics = false) (hcls : s.vm.findClass C = some cellB.cls)
    {g : JFrame} (hg : g.method = m) (hsize : g.locals.size = c.maxLocals) {argsL rest : List Value} (hlen : ∀ sig, parseMethodDescriptor y.desc = some sig → argsL.length = sig.parameters.length)
    (hstack : g.stack = argsL.reverse ++ .ref b :: rest) (hW : 2 * g.monitorRoom + (rest.map fun v => v.category).sum ≤ W9) (hdg : decode c.code g.pc = .ok (.invokevirtual index, 3))
    (hpre : ∀ vm₁, s.WarmedH vm₁ → Pre ⟨T.setVm vm₁, locs, cells, slots⟩ (Value.ref b :: argsL).toArray) :
    ∃ (v : Option Value) (vm₁ : Vm) (B : Pt), s.WarmedH vm₁ ∧ Stand p l e R s m args below meth c B.U B.locs B.cells B.slots ∧ Post ⟨T.setVm vm₁, locs, cells, slots⟩ (Value.ref b :: argsL).toArray v B ∧
      ∀ target, Steps p.tables e below (B.U.setTop { g with pc := g.pc + 3, stack := v.toList ++ rest }) target → Steps p.tables e below (T.setTop g) target := by
  obtain ⟨mk, methM, hnamed, hmethM, hstM, habM⟩ := Cond.instanceMethod_spec hinst
  obtain ⟨m8, methM', cM, hn8, hmethM', -, -, -, -, -, -, hsigM⟩ := Cond.codeWith_spec hcode
  cases Option.some.inj (hn8.symm.trans hnamed)
  cases hmethM.symm.trans hmethM'
  obtain ⟨c2, r2, m2, q1, q2, q3, q4, kP, hkP, hkPi⟩ := Cond.selects_spec hsel
  cases hcls.symm.trans q1
  cases (State.methodFound?_of_named hnamed hy).symm.trans q2
  cases hnamed.symm.trans q3
  have hselP : selectMethod e.platform s.vm cellB.cls mk = .method mk := by rw [Launch.admits_selectMethod X.admits]; exact q4
  obtain ⟨vm₁, X₁, hstep₁⟩ := X.invokevirtual hexec hown hlink hnamed hmethM hstM hkP hkPi hy (a := b) (cell := cellB) hcell
    (fun z h => by rw [h] at hobj; cases hobj) hselP hmethM habM hkP hkPi (g := g) hg (argsL := argsL) (rest := rest) (hlen _ hsigM) hstack hdg
  obtain ⟨v, B, X', hpost, hsteps⟩ := hK m meth c ⟨T.setVm vm₁, locs, cells, slots⟩ { g with stack := rest } (.invokevirtual index) mk (Value.ref b :: argsL).toArray X₁ hg hsize hdg hW (X₁.named hnamed) (hpre vm₁ X₁.warmed)
  exact ⟨v, vm₁, B, X₁.warmed, X', hpost, fun target h => hstep₁ _ fun acts => by rw [doInvoke_state]; exact hsteps.trans h⟩
abbrev vx_CVW (R : Room) (s : State) (args : Array Value) (own C : String) (index : Nat) (y : MethodName) (bytes : ByteArray) (maxL : Nat) (ret : Option FieldType) (hh : List (Nat × Nat × Nat × Nat)) (ws : List Cond) (rm : Room) (mc ms n : Nat) : Prop :=
  (rm.cells = mc ∧ rm.slots = ms ∧ rm.frames + 1 ≤ R.frames ∧ 8 + (maxL + 11) + rm.locals ≤ R.locals ∧ (∀ w ∈ ws, ∀ (a' : Array Value) (U : State), s.WarmedH U.vm → w.before a' U = true) ∧ Cond.codeWith y bytes maxL ret hh ∈ ws) ∧
  (Cond.codeWith y bytes maxL ret hh).before args s = true ∧ (Cond.initialized y.cls).before args s = true ∧ (y.cls ≠ "java/lang/invoke/MethodHandle" ∧ y.cls ≠ "java/lang/invoke/VarHandle") ∧
  (∀ sig, parseMethodDescriptor y.desc = some sig → n = sig.parameters.length) ∧ (Cond.methodLink own index y).before args s = true ∧ (Cond.instanceMethod y).before args s = true ∧ (Cond.selects C y y).before args s = true
theorem vx_cwVW {own C : String} {index maxL mc ms : Nat} {y : MethodName} {bytes : ByteArray} {ret : Option FieldType} {hh : List (Nat × Nat × Nat × Nat)} {Ts ws ws' : List Cond} {rm : Room} (n : Nat) (ht : ∀ w ∈ Ts, w.before args s = true) (hT : GoodIn Ts (wsV own index C y ws)) (hw : ws = Cond.codeWith y bytes maxL ret hh :: ws') (hrc : rm.cells = mc) (hrs : rm.slots = ms)
    (hd : y.cls = C ∧ y.cls ≠ "java/lang/invoke/MethodHandle" ∧ y.cls ≠ "java/lang/invoke/VarHandle" ∧ (parseMethodDescriptor y.desc).map (fun d => d.parameters.length) = some n) (hR : rm.frames + 1 ≤ R.frames ∧ 8 + (maxL + 11) + rm.locals ≤ R.locals) :
    vx_CVW R s args own C index y bytes maxL ret hh ws rm mc ms n := by
  obtain ⟨hC, hd⟩ := hd
  subst hC
  have ok : ∀ w ∈ wsV own index y.cls y ws, w.before args s = true := fun w h => ht w (hT w h).1
  have hG : GoodIn Ts ws := fun w h => hT w (by unfold wsV; exact List.mem_append_right _ h)
  have hc : Cond.codeWith y bytes maxL ret hh ∈ ws := by rw [hw]; exact List.mem_cons_self
  refine ⟨⟨hrc, hrs, hR.1, hR.2, pay_in ht hG, hc⟩, ht _ (hG _ hc).1, ok _ (by simp [wsV]), ⟨hd.1, hd.2.1⟩, fun sig h => ?_, ok _ (by simp [wsV]), ok _ (by simp [wsV]), ok _ (by simp [wsV])⟩
  have h2 := hd.2.2
  rw [h] at h2
  exact (Option.some.inj h2).symm
theorem vx_runVW {y : MethodName} {bytes cc : ByteArray} {maxL nL mc ms n index : Nat} {ret : Option FieldType} {hh : List (Nat × Nat × Nat × Nat)} {ws : List Cond} {rm : Room} {Pc : Array Value → State → Prop} {Qc : Array Value → State → Outcome → State → Prop} {free : Addr → Prop} {Ts : List Cond} {own C : String} {b : Addr} {As rest : List Value} {g : JFrame}
    (S : CallFix p m c cc nL s args Ts own) (hM : Met l y ws rm Pc Qc mc ms free) (cw : vx_CVW R s args own C index y bytes maxL ret hh ws rm mc ms n) (hp : PreV s H C b Pc As)
    (hg : g.method = m) (hn : As.length = n) (hsize : g.locals.size = nL) (hstack : g.stack = As.reverse ++ .ref b :: rest) (hW : 2 * g.monitorRoom + (rest.map fun v => v.category).sum ≤ 8) (hdg : decode cc g.pc = .ok (.invokevirtual index, 3)) (hf : cells + mc ≤ R.cells ∧ slots + ms ≤ R.slots) :
    va_Run p l e R s m args below meth c H locs cells slots mc ms g rest (Qc (Value.ref b :: As).toArray) free := by
  obtain ⟨⟨hrc, hrs, hfr, hlo, hws, hcw⟩, hcode, hini, hy, hlen, hl, hin, hse⟩ := cw
  have hK : Back l R p e below s args y 3 8 (PreOf R mc ms Pc) (PostOf Qc mc ms free) := va_backW (hh := hh) (bytes := bytes) (maxL := maxL) (ret := ret) hM hp.1 hrc hrs hfr hlo hws hcw (fun a' U hW => word_at hW (Or.inl (by first | rfl | simp [Cond.onTables, Cond.keeps, Cond.steady])) hini)
  obtain ⟨hx, hb, hml, ho, -⟩ := S
  obtain ⟨-, ⟨cellB, hcB, hoB, hclB⟩, hPc⟩ := hp
  intro T hT X
  obtain ⟨v, vm₁, ⟨U', l2, c2, s2⟩, hW₁, X', ⟨g', mk, t, L, e1, e2, hq, h1, hL, h2, h3⟩, st⟩ := vx_callVW X hx (C := C) (hh := hh) (bytes := bytes) (maxL := maxL) (ret := ret) ho hl hin hse hcode hy hK (by rw [hT]; exact hcB) hoB hclB hg (hsize.trans hml.symm) (argsL := As) (rest := rest) (fun sig h => hn.trans (hlen sig h)) hstack hW (by rw [hb]; exact hdg)
    (fun vm₁ hW₁ => ⟨hf.1, hf.2, hPc (T.setVm vm₁) hT hW₁⟩)
  dsimp only [Pt.U, Pt.locs, Pt.cells, Pt.slots] at X' e1 e2 h1 h2 h3 st
  subst h1; subst h2; subst h3
  exact ⟨v, (T.setVm vm₁).calling g' mk (Value.ref b :: As).toArray, t, U', L, hT, X', hL, e1, e2, hq, st⟩
section
variable {y : MethodName} {bytes cc : ByteArray} {maxL nL mc ms n index : Nat} {ret : Option FieldType} {ws : List Cond} {rm : Room} {Pc : Array Value → State → Prop} {Qc : Array Value → State → Outcome → State → Prop} {XC : String → State → State → Prop} {free : Addr → Prop} {Ts : List Cond} {own C : String} {b : Addr} {As rest : List Value} {g : JFrame}
theorem vx_runVX {hh : List (Nat × Nat × Nat × Nat)} (S : CallFix p m c cc nL s args Ts own) (hM : vx_Met l y ws rm Pc Qc XC mc ms free) (cw : vx_CVW R s args own C index y bytes maxL ret hh ws rm mc ms n) (hp : PreV s H C b Pc As)
    (hg : g.method = m) (hn : As.length = n) (hsize : g.locals.size = nL) (hstack : g.stack = As.reverse ++ .ref b :: rest) (hW : 2 * g.monitorRoom + (rest.map fun v => v.category).sum ≤ 8) (hdg : decode cc g.pc = .ok (.invokevirtual index, 3)) (hf : cells + mc ≤ R.cells ∧ slots + ms ≤ R.slots) :
    vx_Run p l e R s m args below meth c H locs cells slots mc ms g rest (Qc (Value.ref b :: As).toArray) XC free := by
  obtain ⟨⟨hrc, hrs, hfr, hlo, hws, hcw⟩, hcode, hini, hy, hlen, hl, hin, hse⟩ := cw
  have hK : vx_Back l R p e below s args y 3 8 (PreOf R mc ms Pc) (PostOf Qc mc ms free) (vx_Post XC mc ms free) := vx_backW (hh := hh) (bytes := bytes) (maxL := maxL) (ret := ret) hM hp.1 hrc hrs hfr hlo hws hcw (fun a' U hW => word_at hW (Or.inl (by first | rfl | simp [Cond.onTables, Cond.keeps, Cond.steady])) hini)
  obtain ⟨hx, hb, hml, ho, -⟩ := S
  obtain ⟨-, ⟨cellB, hcB, hoB, hclB⟩, hPc⟩ := hp
  intro T hT X
  rcases vx_callVX X hx (C := C) (hh := hh) (bytes := bytes) (maxL := maxL) (ret := ret) ho hl hin hse hcode hy hK (by rw [hT]; exact hcB) hoB hclB hg (hsize.trans hml.symm) (argsL := As) (rest := rest) (fun sig h => hn.trans (hlen sig h)) hstack hW (by rw [hb]; exact hdg)
    (fun vm₁ hW₁ => ⟨hf.1, hf.2, hPc (T.setVm vm₁) hT hW₁⟩) with ⟨v, vm₁, ⟨U', l2, c2, s2⟩, hW₁, X', ⟨g', mk, t, L, e1, e2, hq, h1, hL, h2, h3⟩, st⟩ | ⟨q, vm₁, ⟨U', l2, c2, s2⟩, hW₁, X', ⟨g', mk, t, L, E, ce, e1, e2, hq, hce, hcv, hcl, h1, hL, h2, h3⟩, st⟩
  · dsimp only [Pt.U, Pt.locs, Pt.cells, Pt.slots] at X' e1 e2 h1 h2 h3 st
    subst h1; subst h2; subst h3
    exact Or.inl ⟨v, (T.setVm vm₁).calling g' mk (Value.ref b :: As).toArray, t, U', L, hT, X', hL, e1, e2, hq, st⟩
  · dsimp only [Pt.U, Pt.locs, Pt.cells, Pt.slots] at X' e1 e2 h1 h2 h3 st hcl
    subst h1; subst h2; subst h3
    exact Or.inr ⟨q, (T.setVm vm₁).calling g' mk (Value.ref b :: As).toArray, t, U', L, E, ce, hT, X', hL, e1, e2, hq, hce, hcv, vx_cls hW₁ hcl, st⟩
theorem vx_runSX {hh : List (Nat × Nat × Nat × Nat)} (S : CallFix p m c cc nL s args Ts own) (hM : vx_Met l y ws rm Pc Qc XC mc ms free) (cw : vx_CSW R s args own index y bytes maxL ret hh ws rm mc ms n) (hp : PreS s H Pc As)
    (hg : g.method = m) (hn : As.length = n) (hsize : g.locals.size = nL) (hstack : g.stack = As.reverse ++ rest) (hW : 2 * g.monitorRoom + (rest.map fun v => v.category).sum ≤ 8) (hdg : decode cc g.pc = .ok (.invokestatic index, 3)) (hf : cells + mc ≤ R.cells ∧ slots + ms ≤ R.slots) :
    vx_Run p l e R s m args below meth c H locs cells slots mc ms g rest (Qc As.toArray) XC free := by
  obtain ⟨⟨hrc, hrs, hfr, hlo, hws, hcw⟩, hcode, hini, hy, hlen, hl, hstt⟩ := cw
  have hK : vx_Back l R p e below s args y 3 8 (PreOf R mc ms Pc) (PostOf Qc mc ms free) (vx_Post XC mc ms free) := vx_backW (hh := hh) (bytes := bytes) (maxL := maxL) (ret := ret) hM hp.1 hrc hrs hfr hlo hws hcw (fun a' U hW => word_at hW (Or.inl (by first | rfl | simp [Cond.onTables, Cond.keeps, Cond.steady])) hini)
  obtain ⟨hx, hb, hml, ho, -⟩ := S
  intro T hT X
  rcases vx_callSX X hx (hh := hh) (bytes := bytes) (maxL := maxL) (ret := ret) ho hl hstt hini hcode hy hK hg (hsize.trans hml.symm) (argsL := As) (rest := rest) (fun sig h => hn.trans (hlen sig h)) hstack hW (by rw [hb]; exact hdg)
    (fun vm₁ hW₁ => ⟨hf.1, hf.2, hp.2 (T.setVm vm₁) hT hW₁⟩) with ⟨v, vm₁, ⟨U', l2, c2, s2⟩, hW₁, X', ⟨g', mk, t, L, e1, e2, hq, h1, hL, h2, h3⟩, st⟩ | ⟨q, vm₁, ⟨U', l2, c2, s2⟩, hW₁, X', ⟨g', mk, t, L, E, ce, e1, e2, hq, hce, hcv, hcl, h1, hL, h2, h3⟩, st⟩
  · dsimp only [Pt.U, Pt.locs, Pt.cells, Pt.slots] at X' e1 e2 h1 h2 h3 st
    subst h1; subst h2; subst h3
    exact Or.inl ⟨v, (T.setVm vm₁).calling g' mk As.toArray, t, U', L, hT, X', hL, e1, e2, hq, st⟩
  · dsimp only [Pt.U, Pt.locs, Pt.cells, Pt.slots] at X' e1 e2 h1 h2 h3 st hcl
    subst h1; subst h2; subst h3
    exact Or.inr ⟨q, (T.setVm vm₁).calling g' mk As.toArray, t, U', L, E, ce, hT, X', hL, e1, e2, hq, hce, hcv, vx_cls hW₁ hcl, st⟩
end
end VXH
theorem vx_ofWH {l : Launch} {y : MethodName} {ws ws' : List Cond} {rm : Room} {Pc : Array Value → State → Prop} {Qc : Array Value → State → Outcome → State → Prop} {XC : String → State → State → Prop} {mc ms : Nat} {free : Addr → Prop} {cc : ByteArray} {maxL : Nat} {ret : Option FieldType} {hh : List (Nat × Nat × Nat × Nat)}
    (hy : plainName y.cls = true) (hw : ws = Cond.codeWith y cc maxL ret hh :: ws')
    (body : ∀ p e s m args below meth c s₁, BodyLoose p l y (headSpec ws rm) cc maxL ret e s m args below meth c s₁ → c.maxLocals = maxL → Pc args s →
      W p l e (headSpec ws rm).room s m args below meth c s.heap [] 0 0 (vx_MQ below Qc XC args s mc ms free) (entryFrame m args maxL)) : vx_Met l y ws rm Pc Qc XC mc ms free := by
  refine MetFree.of_bodyS (code := cc) (maxLocals := maxL) (ret := ret) hy ?_ ?_
  · intro args s m h hn
    obtain ⟨m9, meth, c, hn9, h1, h2, h3, h4, -, h5, h6, -⟩ := Cond.codeWith_spec (atoms_spec (ws := ws) h _ (by rw [hw]; exact List.mem_cons_self))
    cases hn.symm.trans hn9
    exact ⟨meth, c, h1, h2, h3, h4, h5, h6⟩
  · intro p e s m args below meth c s₁ B hml hP _
    have hh0 : s₁.heap = s.heap := by rw [B.state]; rfl
    obtain ⟨t, a1, o, b1, b2, b3⟩ := body p e s m args below meth c s₁ B hml hP s₁ hh0 (Stand.of_body B)
    exact ⟨t, o, a1, b1, b2, b3⟩
/-! ===== END ===== -/
end
section
def RX0 : String := "SteppedSamples$BlockText"
def TX0 : u_T := fun k => match k with
  | 0 => ("SteppedSamples$BlockText", "signs", "[I", true)
  | 1 => ("SteppedSamples$BlockText", "length", "I", false)
  | 2 => ("SteppedSamples$BlockText", "first", "I", false)
  | 3 => ("SteppedSamples$BlockText", "number", "I", false)
  | 4 => ("SteppedSamples$BlockText", "codes", "[I", true)
  | 5 => ("SteppedSamples$BlockText", "codeCount", "I", false)
  | 6 => ("SteppedSamples$BlockText", "part", "I", false)
  | 7 => ("SteppedSamples$BlockText", "negative", "Z", false)
  | 8 => ("SteppedSamples$BlockText", "hasDigit", "Z", false)
  | _ => ("SteppedSamples$BlockText", "digits", "I", false)
def tyX0 : Nat → FieldType := fun k => match k with
  | 0 => .array .int
  | 1 => .int
  | 2 => .int
  | 3 => .int
  | 4 => .array .int
  | 5 => .int
  | 6 => .int
  | 7 => .boolean
  | 8 => .boolean
  | _ => .int
abbrev wsX00 : List Cond := u_ws RX0 TX0 10
theorem nmX0 : ∀ a, a < 10 → ∀ b, b < 10 → a ≠ b → (TX0 a).2.1 ≠ (TX0 b).2.1 := by decide +kernel
theorem tyX0_ok : ∀ k, k < 10 → parseFieldDescriptor (TX0 k).2.2.1 = some (tyX0 k) := by decide +kernel
abbrev cX0_init : ByteArray := prog_2_method_1_code
def yX0_init : MethodName := ⟨RX0, "<init>", "()V"⟩
abbrev cX0_isFull : ByteArray := prog_2_method_2_code
def yX0_isFull : MethodName := ⟨RX0, "isFull", "()Z"⟩
abbrev cX0_put : ByteArray := prog_2_method_3_code
def yX0_put : MethodName := ⟨RX0, "put", "(I)V"⟩
abbrev cX0_tell : ByteArray := prog_2_method_4_code
def yX0_tell : MethodName := ⟨RX0, "tell", "(LSteppedSamples$State;I)V"⟩
abbrev cX0_putNumber : ByteArray := prog_2_method_5_code
def yX0_putNumber : MethodName := ⟨RX0, "putNumber", "(I)V"⟩
abbrev cX0_tellsBlock : ByteArray := prog_2_method_6_code
def yX0_tellsBlock : MethodName := ⟨RX0, "tellsBlock", "()Z"⟩
abbrev cX0_read : ByteArray := prog_2_method_7_code
def yX0_read : MethodName := ⟨RX0, "read", "()I"⟩
abbrev cX0_readsOn : ByteArray := prog_2_method_8_code
def yX0_readsOn : MethodName := ⟨RX0, "readsOn", "(I)Z"⟩
abbrev cX0_readsFirst : ByteArray := prog_2_method_9_code
def yX0_readsFirst : MethodName := ⟨RX0, "readsFirst", "(I)Z"⟩
abbrev cX0_readsNumber : ByteArray := prog_2_method_10_code
def yX0_readsNumber : MethodName := ⟨RX0, "readsNumber", "(I)Z"⟩
abbrev cX0_readsCode : ByteArray := prog_2_method_11_code
def yX0_readsCode : MethodName := ⟨RX0, "readsCode", "(I)Z"⟩
abbrev cX0_beginDigits : ByteArray := prog_2_method_12_code
def yX0_beginDigits : MethodName := ⟨RX0, "beginDigits", "()V"⟩
abbrev cX0_readsDigit : ByteArray := prog_2_method_13_code
def yX0_readsDigit : MethodName := ⟨RX0, "readsDigit", "(II)Z"⟩
def RX1 : String := "SteppedSamples$Coder"
def TX1 : u_T := fun k => match k with
  | _ => ("SteppedSamples$Coder", "walk", "LSteppedSamples$Walk;", true)
def tyX1 : Nat → FieldType := fun k => match k with
  | _ => .object "SteppedSamples$Walk"
abbrev wsX10 : List Cond := u_ws RX1 TX1 1
theorem nmX1 : ∀ a, a < 1 → ∀ b, b < 1 → a ≠ b → (TX1 a).2.1 ≠ (TX1 b).2.1 := by decide +kernel
theorem tyX1_ok : ∀ k, k < 1 → parseFieldDescriptor (TX1 k).2.2.1 = some (tyX1 k) := by decide +kernel
abbrev cX1_init : ByteArray := prog_3_method_1_code
def yX1_init : MethodName := ⟨RX1, "<init>", "()V"⟩
abbrev cX1_codeWave : ByteArray := prog_3_method_2_code
def yX1_codeWave : MethodName := ⟨RX1, "codeWave", "(LSteppedSamples$State;)V"⟩
abbrev cX1_codeBlock : ByteArray := prog_3_method_3_code
def yX1_codeBlock : MethodName := ⟨RX1, "codeBlock", "(LSteppedSamples$State;II)V"⟩
abbrev cX1_errorAsBlock : ByteArray := prog_3_method_4_code
def yX1_errorAsBlock : MethodName := ⟨RX1, "errorAsBlock", "(LSteppedSamples$State;III)I"⟩
abbrev cX1_bestStart : ByteArray := prog_3_method_5_code
def yX1_bestStart : MethodName := ⟨RX1, "bestStart", "(LSteppedSamples$State;II)I"⟩
def RX2 : String := "SteppedSamples$Decoder"
def TX2 : u_T := fun k => match k with
  | 0 => ("SteppedSamples$Decoder", "made", "[I", true)
  | 1 => ("SteppedSamples$Decoder", "numbers", "[I", true)
  | 2 => ("SteppedSamples$Decoder", "walk", "LSteppedSamples$Walk;", true)
  | _ => ("SteppedSamples$Decoder", "upToDate", "Z", false)
def tyX2 : Nat → FieldType := fun k => match k with
  | 0 => .array .int
  | 1 => .array .int
  | 2 => .object "SteppedSamples$Walk"
  | _ => .boolean
abbrev wsX20 : List Cond := u_ws RX2 TX2 4
theorem nmX2 : ∀ a, a < 4 → ∀ b, b < 4 → a ≠ b → (TX2 a).2.1 ≠ (TX2 b).2.1 := by decide +kernel
theorem tyX2_ok : ∀ k, k < 4 → parseFieldDescriptor (TX2 k).2.2.1 = some (tyX2 k) := by decide +kernel
abbrev cX2_init : ByteArray := prog_4_method_1_code
def yX2_init : MethodName := ⟨RX2, "<init>", "()V"⟩
abbrev cX2_decode : ByteArray := prog_4_method_2_code
def yX2_decode : MethodName := ⟨RX2, "decode", "(LSteppedSamples$State;)V"⟩
abbrev cX2_decodeBlock : ByteArray := prog_4_method_3_code
def yX2_decodeBlock : MethodName := ⟨RX2, "decodeBlock", "(LSteppedSamples$State;I)V"⟩
abbrev cX2_fillBlock : ByteArray := prog_4_method_4_code
def yX2_fillBlock : MethodName := ⟨RX2, "fillBlock", "(LSteppedSamples$State;I)V"⟩
abbrev cX2_fillingOf : ByteArray := prog_4_method_5_code
def yX2_fillingOf : MethodName := ⟨RX2, "fillingOf", "(LSteppedSamples$State;II)I"⟩
abbrev cX2_errorOf : ByteArray := prog_4_method_6_code
def yX2_errorOf : MethodName := ⟨RX2, "errorOf", "(LSteppedSamples$State;II)I"⟩
abbrev cX2_greatestDifference : ByteArray := prog_4_method_7_code
def yX2_greatestDifference : MethodName := ⟨RX2, "greatestDifference", "(LSteppedSamples$State;)I"⟩
abbrev cX2_justAsTheyAre : ByteArray := prog_4_method_8_code
def yX2_justAsTheyAre : MethodName := ⟨RX2, "justAsTheyAre", "(LSteppedSamples$State;)I"⟩
abbrev cX2_othersThan : ByteArray := prog_4_method_9_code
def yX2_othersThan : MethodName := ⟨RX2, "othersThan", "(LSteppedSamples$Decoder;I)I"⟩
def RX3 : String := "SteppedSamples$History"
def TX3 : u_T := fun k => match k with
  | 0 => ("SteppedSamples$History", "saved", "[LSteppedSamples$State;", true)
  | _ => ("SteppedSamples$History", "many", "I", false)
def tyX3 : Nat → FieldType := fun k => match k with
  | 0 => .array (.object "SteppedSamples$State")
  | _ => .int
abbrev wsX30 : List Cond := u_ws RX3 TX3 2
theorem nmX3 : ∀ a, a < 2 → ∀ b, b < 2 → a ≠ b → (TX3 a).2.1 ≠ (TX3 b).2.1 := by decide +kernel
theorem tyX3_ok : ∀ k, k < 2 → parseFieldDescriptor (TX3 k).2.2.1 = some (tyX3 k) := by decide +kernel
abbrev cX3_init : ByteArray := prog_5_method_1_code
def yX3_init : MethodName := ⟨RX3, "<init>", "()V"⟩
abbrev cX3_save : ByteArray := prog_5_method_2_code
def yX3_save : MethodName := ⟨RX3, "save", "(LSteppedSamples$State;)V"⟩
abbrev cX3_restore : ByteArray := prog_5_method_3_code
def yX3_restore : MethodName := ⟨RX3, "restore", "(LSteppedSamples$State;)V"⟩
abbrev cX3_dropOldest : ByteArray := prog_5_method_4_code
def yX3_dropOldest : MethodName := ⟨RX3, "dropOldest", "()V"⟩
def RX4 : String := "SteppedSamples$State"
def TX4 : u_T := fun k => match k with
  | 0 => ("SteppedSamples$State", "many", "I", false)
  | 1 => ("SteppedSamples$State", "values", "[I", true)
  | 2 => ("SteppedSamples$State", "settings", "[I", true)
  | 3 => ("SteppedSamples$State", "blocks", "I", false)
  | 4 => ("SteppedSamples$State", "firsts", "[I", true)
  | 5 => ("SteppedSamples$State", "starts", "[I", true)
  | 6 => ("SteppedSamples$State", "lost", "[Z", true)
  | 7 => ("SteppedSamples$State", "codes", "[I", true)
  | 8 => ("SteppedSamples$State", "guesses", "[I", true)
  | 9 => ("SteppedSamples$State", "codings", "I", false)
  | _ => ("SteppedSamples$State", "turned", "I", false)
def tyX4 : Nat → FieldType := fun k => match k with
  | 0 => .int
  | 1 => .array .int
  | 2 => .array .int
  | 3 => .int
  | 4 => .array .int
  | 5 => .array .int
  | 6 => .array .boolean
  | 7 => .array .int
  | 8 => .array .int
  | 9 => .int
  | _ => .int
abbrev wsX40 : List Cond := u_ws RX4 TX4 11
theorem nmX4 : ∀ a, a < 11 → ∀ b, b < 11 → a ≠ b → (TX4 a).2.1 ≠ (TX4 b).2.1 := by decide +kernel
theorem tyX4_ok : ∀ k, k < 11 → parseFieldDescriptor (TX4 k).2.2.1 = some (tyX4 k) := by decide +kernel
abbrev cX4_init : ByteArray := prog_6_method_1_code
def yX4_init : MethodName := ⟨RX4, "<init>", "()V"⟩
abbrev cX4_copyFrom : ByteArray := prog_6_method_2_code
def yX4_copyFrom : MethodName := ⟨RX4, "copyFrom", "(LSteppedSamples$State;)V"⟩
abbrev cX4_becomeSilence : ByteArray := prog_6_method_3_code
def yX4_becomeSilence : MethodName := ⟨RX4, "becomeSilence", "(I)V"⟩
abbrev cX4_forgetBlocks : ByteArray := prog_6_method_4_code
def yX4_forgetBlocks : MethodName := ⟨RX4, "forgetBlocks", "()V"⟩
abbrev cX4_isCoded : ByteArray := prog_6_method_5_code
def yX4_isCoded : MethodName := ⟨RX4, "isCoded", "()Z"⟩
abbrev cX4_hasSample : ByteArray := prog_6_method_6_code
def yX4_hasSample : MethodName := ⟨RX4, "hasSample", "(I)Z"⟩
abbrev cX4_hasBlock : ByteArray := prog_6_method_7_code
def yX4_hasBlock : MethodName := ⟨RX4, "hasBlock", "(I)Z"⟩
abbrev cX4_hasCode : ByteArray := prog_6_method_8_code
def yX4_hasCode : MethodName := ⟨RX4, "hasCode", "(I)Z"⟩
abbrev cX4_startOf : ByteArray := prog_6_method_9_code
def yX4_startOf : MethodName := ⟨RX4, "startOf", "(I)I"⟩
abbrev cX4_endOf : ByteArray := prog_6_method_10_code
def yX4_endOf : MethodName := ⟨RX4, "endOf", "(I)I"⟩
abbrev cX4_codesOf : ByteArray := prog_6_method_11_code
def yX4_codesOf : MethodName := ⟨RX4, "codesOf", "(I)I"⟩
abbrev cX4_lostBlocks : ByteArray := prog_6_method_12_code
def yX4_lostBlocks : MethodName := ⟨RX4, "lostBlocks", "()I"⟩
abbrev cX4_turnOver : ByteArray := prog_6_method_13_code
def yX4_turnOver : MethodName := ⟨RX4, "turnOver", "(II)V"⟩
abbrev cX4_putBlock : ByteArray := prog_6_method_14_code
def yX4_putBlock : MethodName := ⟨RX4, "putBlock", "(ILSteppedSamples$BlockText;)V"⟩
def RX5 : String := "SteppedSamples$Walk"
def TX5 : u_T := fun k => match k with
  | 0 => ("SteppedSamples$Walk", "guess", "I", false)
  | _ => ("SteppedSamples$Walk", "number", "I", false)
def tyX5 : Nat → FieldType := fun k => match k with
  | 0 => .int
  | _ => .int
abbrev wsX50 : List Cond := u_ws RX5 TX5 2
theorem nmX5 : ∀ a, a < 2 → ∀ b, b < 2 → a ≠ b → (TX5 a).2.1 ≠ (TX5 b).2.1 := by decide +kernel
theorem tyX5_ok : ∀ k, k < 2 → parseFieldDescriptor (TX5 k).2.2.1 = some (tyX5 k) := by decide +kernel
abbrev cX5_init : ByteArray := prog_7_method_1_code
def yX5_init : MethodName := ⟨RX5, "<init>", "()V"⟩
abbrev cX5_stepOf : ByteArray := prog_7_method_2_code
def yX5_stepOf : MethodName := ⟨RX5, "stepOf", "(I)I"⟩
abbrev cX5_begin : ByteArray := prog_7_method_3_code
def yX5_begin : MethodName := ⟨RX5, "begin", "(II)V"⟩
abbrev cX5_codeTowards : ByteArray := prog_7_method_4_code
def yX5_codeTowards : MethodName := ⟨RX5, "codeTowards", "(I)I"⟩
abbrev cX5_follow : ByteArray := prog_7_method_5_code
def yX5_follow : MethodName := ⟨RX5, "follow", "(I)V"⟩
abbrev cX5_changeBy : ByteArray := prog_7_method_6_code
def yX5_changeBy : MethodName := ⟨RX5, "changeBy", "(II)I"⟩
def RX6 : String := "SteppedSamples"
def TX6 : u_T := fun k => match k with
  | 0 => ("SteppedSamples", "now", "LSteppedSamples$State;", true)
  | 1 => ("SteppedSamples", "history", "LSteppedSamples$History;", true)
  | 2 => ("SteppedSamples", "slots", "[LSteppedSamples$State;", true)
  | 3 => ("SteppedSamples", "kept", "[Z", true)
  | 4 => ("SteppedSamples", "buffer", "LSteppedSamples$BlockText;", true)
  | 5 => ("SteppedSamples", "coder", "LSteppedSamples$Coder;", true)
  | 6 => ("SteppedSamples", "decoder", "LSteppedSamples$Decoder;", true)
  | 7 => ("SteppedSamples", "decoderAfter", "LSteppedSamples$Decoder;", true)
  | _ => ("SteppedSamples", "walk", "LSteppedSamples$Walk;", true)
def tyX6 : Nat → FieldType := fun k => match k with
  | 0 => .object "SteppedSamples$State"
  | 1 => .object "SteppedSamples$History"
  | 2 => .array (.object "SteppedSamples$State")
  | 3 => .array .boolean
  | 4 => .object "SteppedSamples$BlockText"
  | 5 => .object "SteppedSamples$Coder"
  | 6 => .object "SteppedSamples$Decoder"
  | 7 => .object "SteppedSamples$Decoder"
  | _ => .object "SteppedSamples$Walk"
abbrev wsX60 : List Cond := u_ws RX6 TX6 9
theorem nmX6 : ∀ a, a < 9 → ∀ b, b < 9 → a ≠ b → (TX6 a).2.1 ≠ (TX6 b).2.1 := by decide +kernel
theorem tyX6_ok : ∀ k, k < 9 → parseFieldDescriptor (TX6 k).2.2.1 = some (tyX6 k) := by decide +kernel
abbrev cX6_init : ByteArray := prog_1_method_1_code
def yX6_init : MethodName := ⟨RX6, "<init>", "()V"⟩
abbrev cX6_wave : ByteArray := prog_1_method_2_code
def yX6_wave : MethodName := ⟨RX6, "wave", "(I)I"⟩
abbrev cX6_sample : ByteArray := prog_1_method_3_code
def yX6_sample : MethodName := ⟨RX6, "sample", "(II)I"⟩
abbrev cX6_add : ByteArray := prog_1_method_4_code
def yX6_add : MethodName := ⟨RX6, "add", "(III)I"⟩
abbrev cX6_set : ByteArray := prog_1_method_6_code
def yX6_set : MethodName := ⟨RX6, "set", "(II)I"⟩
abbrev cX6_code : ByteArray := prog_1_method_7_code
def yX6_code : MethodName := ⟨RX6, "code", "()I"⟩
abbrev cX6_lose : ByteArray := prog_1_method_8_code
def yX6_lose : MethodName := ⟨RX6, "lose", "(I)I"⟩
abbrev cX6_spoil : ByteArray := prog_1_method_9_code
def yX6_spoil : MethodName := ⟨RX6, "spoil", "(II)I"⟩
abbrev cX6_clearBuffer : ByteArray := prog_1_method_11_code
def yX6_clearBuffer : MethodName := ⟨RX6, "clearBuffer", "()I"⟩
abbrev cX6_firstError : ByteArray := prog_1_method_12_code
def yX6_firstError : MethodName := ⟨RX6, "firstError", "()I"⟩
abbrev cX6_load : ByteArray := prog_1_method_13_code
def yX6_load : MethodName := ⟨RX6, "load", "(I)I"⟩
abbrev cX6_write : ByteArray := prog_1_method_14_code
def yX6_write : MethodName := ⟨RX6, "write", "(I)I"⟩
abbrev cX6_keep : ByteArray := prog_1_method_15_code
def yX6_keep : MethodName := ⟨RX6, "keep", "(I)I"⟩
abbrev cX6_goBack : ByteArray := prog_1_method_16_code
def yX6_goBack : MethodName := ⟨RX6, "goBack", "(I)I"⟩
abbrev cX6_undo : ByteArray := prog_1_method_17_code
def yX6_undo : MethodName := ⟨RX6, "undo", "()I"⟩
abbrev cX6_sampleOf : ByteArray := prog_1_method_19_code
def yX6_sampleOf : MethodName := ⟨RX6, "sampleOf", "(II)I"⟩
abbrev cX6_blockOf : ByteArray := prog_1_method_20_code
def yX6_blockOf : MethodName := ⟨RX6, "blockOf", "(II)I"⟩
abbrev cX6_count : ByteArray := prog_1_method_21_code
def yX6_count : MethodName := ⟨RX6, "count", "(I)I"⟩
abbrev cX6_setting : ByteArray := prog_1_method_22_code
def yX6_setting : MethodName := ⟨RX6, "setting", "(I)I"⟩
abbrev cX6_ifBlock : ByteArray := prog_1_method_24_code
def yX6_ifBlock : MethodName := ⟨RX6, "ifBlock", "(III)I"⟩
abbrev cX6_bestStep : ByteArray := prog_1_method_25_code
def yX6_bestStep : MethodName := ⟨RX6, "bestStep", "(II)I"⟩
abbrev cX6_ifSpoiled : ByteArray := prog_1_method_26_code
def yX6_ifSpoiled : MethodName := ⟨RX6, "ifSpoiled", "(II)I"⟩
abbrev cX6_meanSquare : ByteArray := prog_1_method_27_code
def yX6_meanSquare : MethodName := ⟨RX6, "meanSquare", "()D"⟩
abbrev cX6_loudness : ByteArray := prog_1_method_28_code
def yX6_loudness : MethodName := ⟨RX6, "loudness", "()F"⟩
abbrev cX6_beginChange : ByteArray := prog_1_method_30_code
def yX6_beginChange : MethodName := ⟨RX6, "beginChange", "()V"⟩
abbrev cX6_refuseUnlessBlock : ByteArray := prog_1_method_31_code
def yX6_refuseUnlessBlock : MethodName := ⟨RX6, "refuseUnlessBlock", "(I)V"⟩
abbrev cX6_refuseUnlessCodeBit : ByteArray := prog_1_method_32_code
def yX6_refuseUnlessCodeBit : MethodName := ⟨RX6, "refuseUnlessCodeBit", "(II)V"⟩
abbrev cX6_refuseUnlessSamples : ByteArray := prog_1_method_33_code
def yX6_refuseUnlessSamples : MethodName := ⟨RX6, "refuseUnlessSamples", "(II)V"⟩
abbrev cX6_refuseUnlessSlot : ByteArray := prog_1_method_34_code
def yX6_refuseUnlessSlot : MethodName := ⟨RX6, "refuseUnlessSlot", "(I)V"⟩
abbrev cX6_isValue : ByteArray := prog_1_method_35_code
def yX6_isValue : MethodName := ⟨RX6, "isValue", "(I)Z"⟩
abbrev cX6_isNumber : ByteArray := prog_1_method_36_code
def yX6_isNumber : MethodName := ⟨RX6, "isNumber", "(I)Z"⟩
abbrev cX6_isSetting : ByteArray := prog_1_method_37_code
def yX6_isSetting : MethodName := ⟨RX6, "isSetting", "(I)Z"⟩
abbrev cX6_leastOfSetting : ByteArray := prog_1_method_38_code
def yX6_leastOfSetting : MethodName := ⟨RX6, "leastOfSetting", "(I)I"⟩
abbrev cX6_mostOfSetting : ByteArray := prog_1_method_39_code
def yX6_mostOfSetting : MethodName := ⟨RX6, "mostOfSetting", "(I)I"⟩
abbrev cX6_clip : ByteArray := prog_1_method_40_code
def yX6_clip : MethodName := ⟨RX6, "clip", "(I)I"⟩
abbrev cX6_shape : ByteArray := prog_1_method_41_code
def yX6_shape : MethodName := ⟨RX6, "shape", "(IIII)I"⟩
abbrev cX6_copyRow : ByteArray := prog_1_method_42_code
def yX6_copyRow : MethodName := ⟨RX6, "copyRow", "([I[I)V"⟩
abbrev cX6_codedCount : ByteArray := prog_1_method_43_code
def yX6_codedCount : MethodName := ⟨RX6, "codedCount", "(I)I"⟩
abbrev cX6_wholeError : ByteArray := prog_1_method_44_code
def yX6_wholeError : MethodName := ⟨RX6, "wholeError", "()I"⟩
abbrev cX6_errorByBlocks : ByteArray := prog_1_method_45_code
def yX6_errorByBlocks : MethodName := ⟨RX6, "errorByBlocks", "()I"⟩
abbrev cX6_leadOf : ByteArray := prog_1_method_46_code
def yX6_leadOf : MethodName := ⟨RX6, "leadOf", "(I)I"⟩
def RX7 : String := "SteppedSamplesModel"
def TX7 : u_T := fun k => match k with
  | _ => ("", "", "", false)
def tyX7 : Nat → FieldType := fun k => match k with
  | _ => .int
abbrev wsX70 : List Cond := u_ws RX7 TX7 0
theorem nmX7 : ∀ a, a < 0 → ∀ b, b < 0 → a ≠ b → (TX7 a).2.1 ≠ (TX7 b).2.1 := by decide +kernel
theorem tyX7_ok : ∀ k, k < 0 → parseFieldDescriptor (TX7 k).2.2.1 = some (tyX7 k) := by decide +kernel
def RJ9 : String := "java/lang/Math"
def TJ9 : u_T := fun k => match k with
  | _ => ("", "", "", false)
def tyJ9 : Nat → FieldType := fun k => match k with
  | _ => .int
abbrev cJ9_abs_0f7a4 : ByteArray := prog_14_method_59_code
def yJ9_abs_0f7a4 : MethodName := ⟨RJ9, "abs", "(I)I"⟩
abbrev cJ9_max_7cf53 : ByteArray := prog_14_method_65_code
def yJ9_max_7cf53 : MethodName := ⟨RJ9, "max", "(II)I"⟩
abbrev cJ9_min_7cf53 : ByteArray := prog_14_method_69_code
def yJ9_min_7cf53 : MethodName := ⟨RJ9, "min", "(II)I"⟩
def RJ0 : String := "java/lang/String"
def TJ0 : u_T := fun k => match k with
  | _ => ("", "", "", false)
def tyJ0 : Nat → FieldType := fun k => match k with
  | _ => .int
def RJ10 : String := "java/lang/System"
def TJ10 : u_T := fun k => match k with
  | _ => ("", "", "", false)
def tyJ10 : Nat → FieldType := fun k => match k with
  | _ => .int
def RL : String := "SteppedSamplesLaw"
abbrev cL_cell : ByteArray := method_2_code
def yL_cell : MethodName := ⟨RL, "cell", "([II)I"⟩
abbrev cL_low : ByteArray := method_3_code
def yL_low : MethodName := ⟨RL, "low", "(II)I"⟩
abbrev cL_change : ByteArray := method_4_code
def yL_change : MethodName := ⟨RL, "change", "(LSteppedSamples;II)Z"⟩
abbrev cL_isSpoiled : ByteArray := method_5_code
def yL_isSpoiled : MethodName := ⟨RL, "isSpoiled", "(LSteppedSamples;II)Z"⟩
abbrev cL_loads : ByteArray := method_6_code
def yL_loads : MethodName := ⟨RL, "loads", "(LSteppedSamples;II)Z"⟩
abbrev cL_isAsGuessed : ByteArray := method_7_code
def yL_isAsGuessed : MethodName := ⟨RL, "isAsGuessed", "(LSteppedSamples;)Z"⟩
abbrev cL_holds : ByteArray := method_8_code
def yL_holds : MethodName := ⟨RL, "holds", "(LSteppedSamples;)Z"⟩
abbrev cL_law : ByteArray := code
def yL_law : MethodName := ⟨RL, "law", "([I)Z"⟩
abbrev vwCl : List vw_C := [(RX0, TX0, 10), (RX1, TX1, 1), (RX2, TX2, 4), (RX3, TX3, 2), (RX4, TX4, 11), (RX5, TX5, 2), (RX6, TX6, 9)]
end
section
theorem dX0_init_0 : decode cX0_init 0 = .ok (.aload_n 0, 1) := by decide +kernel
theorem dX0_init_1 : decode cX0_init 1 = .ok (.invokespecial 3, 3) := by decide +kernel
theorem dX0_init_4 : decode cX0_init 4 = .ok (.aload_n 0, 1) := by decide +kernel
theorem dX0_init_5 : decode cX0_init 5 = .ok (.bipush 40, 2) := by decide +kernel
theorem dX0_init_7 : decode cX0_init 7 = .ok (.newarray .int, 2) := by decide +kernel
theorem dX0_init_9 : decode cX0_init 9 = .ok (.putfield 9, 3) := by decide +kernel
theorem dX0_init_12 : decode cX0_init 12 = .ok (.aload_n 0, 1) := by decide +kernel
theorem dX0_init_13 : decode cX0_init 13 = .ok (.bipush 15, 2) := by decide +kernel
theorem dX0_init_15 : decode cX0_init 15 = .ok (.newarray .int, 2) := by decide +kernel
theorem dX0_init_17 : decode cX0_init 17 = .ok (.putfield 15, 3) := by decide +kernel
theorem dX0_init_20 : decode cX0_init 20 = .ok (.return_, 1) := by decide +kernel
theorem dX0_isFull_0 : decode cX0_isFull 0 = .ok (.aload_n 0, 1) := by decide +kernel
theorem dX0_isFull_1 : decode cX0_isFull 1 = .ok (.getfield 18, 3) := by decide +kernel
theorem dX0_isFull_4 : decode cX0_isFull 4 = .ok (.bipush 40, 2) := by decide +kernel
theorem dX0_isFull_6 : decode cX0_isFull 6 = .ok (.if_icmp .lt 7, 3) := by decide +kernel
theorem dX0_isFull_9 : decode cX0_isFull 9 = .ok (.iconst 1, 1) := by decide +kernel
theorem dX0_isFull_10 : decode cX0_isFull 10 = .ok (.goto 4, 3) := by decide +kernel
theorem dX0_isFull_13 : decode cX0_isFull 13 = .ok (.iconst 0, 1) := by decide +kernel
theorem dX0_isFull_14 : decode cX0_isFull 14 = .ok (.ireturn, 1) := by decide +kernel
theorem dX0_put_0 : decode cX0_put 0 = .ok (.aload_n 0, 1) := by decide +kernel
theorem dX0_put_1 : decode cX0_put 1 = .ok (.invokevirtual 22, 3) := by decide +kernel
theorem dX0_put_4 : decode cX0_put 4 = .ok (.ifCond .ne 23, 3) := by decide +kernel
theorem dX0_put_7 : decode cX0_put 7 = .ok (.aload_n 0, 1) := by decide +kernel
theorem dX0_put_8 : decode cX0_put 8 = .ok (.getfield 9, 3) := by decide +kernel
theorem dX0_put_11 : decode cX0_put 11 = .ok (.aload_n 0, 1) := by decide +kernel
theorem dX0_put_12 : decode cX0_put 12 = .ok (.getfield 18, 3) := by decide +kernel
theorem dX0_put_15 : decode cX0_put 15 = .ok (.iload_n 1, 1) := by decide +kernel
theorem dX0_put_16 : decode cX0_put 16 = .ok (.iastore, 1) := by decide +kernel
theorem dX0_put_17 : decode cX0_put 17 = .ok (.aload_n 0, 1) := by decide +kernel
theorem dX0_put_18 : decode cX0_put 18 = .ok (.dup, 1) := by decide +kernel
theorem dX0_put_19 : decode cX0_put 19 = .ok (.getfield 18, 3) := by decide +kernel
theorem dX0_put_22 : decode cX0_put 22 = .ok (.iconst 1, 1) := by decide +kernel
theorem dX0_put_23 : decode cX0_put 23 = .ok (.iadd, 1) := by decide +kernel
theorem dX0_put_24 : decode cX0_put 24 = .ok (.putfield 18, 3) := by decide +kernel
theorem dX0_put_27 : decode cX0_put 27 = .ok (.return_, 1) := by decide +kernel
theorem dX0_tell_0 : decode cX0_tell 0 = .ok (.aload_n 0, 1) := by decide +kernel
theorem dX0_tell_1 : decode cX0_tell 1 = .ok (.iconst 0, 1) := by decide +kernel
theorem dX0_tell_2 : decode cX0_tell 2 = .ok (.putfield 18, 3) := by decide +kernel
theorem dX0_tell_5 : decode cX0_tell 5 = .ok (.aload_n 0, 1) := by decide +kernel
theorem dX0_tell_6 : decode cX0_tell 6 = .ok (.aload_n 1, 1) := by decide +kernel
theorem dX0_tell_7 : decode cX0_tell 7 = .ok (.getfield 26, 3) := by decide +kernel
theorem dX0_tell_10 : decode cX0_tell 10 = .ok (.iload_n 2, 1) := by decide +kernel
theorem dX0_tell_11 : decode cX0_tell 11 = .ok (.iaload, 1) := by decide +kernel
theorem dX0_tell_12 : decode cX0_tell 12 = .ok (.invokevirtual 31, 3) := by decide +kernel
theorem dX0_tell_15 : decode cX0_tell 15 = .ok (.aload_n 0, 1) := by decide +kernel
theorem dX0_tell_16 : decode cX0_tell 16 = .ok (.bipush 44, 2) := by decide +kernel
theorem dX0_tell_18 : decode cX0_tell 18 = .ok (.invokevirtual 35, 3) := by decide +kernel
theorem dX0_tell_21 : decode cX0_tell 21 = .ok (.aload_n 0, 1) := by decide +kernel
theorem dX0_tell_22 : decode cX0_tell 22 = .ok (.aload_n 1, 1) := by decide +kernel
theorem dX0_tell_23 : decode cX0_tell 23 = .ok (.getfield 38, 3) := by decide +kernel
theorem dX0_tell_26 : decode cX0_tell 26 = .ok (.iload_n 2, 1) := by decide +kernel
theorem dX0_tell_27 : decode cX0_tell 27 = .ok (.iaload, 1) := by decide +kernel
theorem dX0_tell_28 : decode cX0_tell 28 = .ok (.invokevirtual 31, 3) := by decide +kernel
theorem dX0_tell_31 : decode cX0_tell 31 = .ok (.aload_n 0, 1) := by decide +kernel
theorem dX0_tell_32 : decode cX0_tell 32 = .ok (.bipush 58, 2) := by decide +kernel
theorem dX0_tell_34 : decode cX0_tell 34 = .ok (.invokevirtual 35, 3) := by decide +kernel
theorem dX0_tell_37 : decode cX0_tell 37 = .ok (.aload_n 1, 1) := by decide +kernel
theorem dX0_tell_38 : decode cX0_tell 38 = .ok (.iload_n 2, 1) := by decide +kernel
theorem dX0_tell_39 : decode cX0_tell 39 = .ok (.invokevirtual 41, 3) := by decide +kernel
theorem dX0_tell_42 : decode cX0_tell 42 = .ok (.iconst 1, 1) := by decide +kernel
theorem dX0_tell_43 : decode cX0_tell 43 = .ok (.iadd, 1) := by decide +kernel
theorem dX0_tell_44 : decode cX0_tell 44 = .ok (.istore_n 3, 1) := by decide +kernel
theorem dX0_tell_45 : decode cX0_tell 45 = .ok (.iload_n 3, 1) := by decide +kernel
theorem dX0_tell_46 : decode cX0_tell 46 = .ok (.aload_n 1, 1) := by decide +kernel
theorem dX0_tell_47 : decode cX0_tell 47 = .ok (.iload_n 2, 1) := by decide +kernel
theorem dX0_tell_48 : decode cX0_tell 48 = .ok (.invokevirtual 45, 3) := by decide +kernel
theorem dX0_tell_51 : decode cX0_tell 51 = .ok (.if_icmp .ge 44, 3) := by decide +kernel
theorem dX0_tell_54 : decode cX0_tell 54 = .ok (.aload_n 1, 1) := by decide +kernel
theorem dX0_tell_55 : decode cX0_tell 55 = .ok (.getfield 48, 3) := by decide +kernel
theorem dX0_tell_58 : decode cX0_tell 58 = .ok (.iload_n 3, 1) := by decide +kernel
theorem dX0_tell_59 : decode cX0_tell 59 = .ok (.iaload, 1) := by decide +kernel
theorem dX0_tell_60 : decode cX0_tell 60 = .ok (.istore 4, 2) := by decide +kernel
theorem dX0_tell_62 : decode cX0_tell 62 = .ok (.aload_n 0, 1) := by decide +kernel
theorem dX0_tell_63 : decode cX0_tell 63 = .ok (.iload 4, 2) := by decide +kernel
theorem dX0_tell_65 : decode cX0_tell 65 = .ok (.bipush 10, 2) := by decide +kernel
theorem dX0_tell_67 : decode cX0_tell 67 = .ok (.if_icmp .ge 11, 3) := by decide +kernel
theorem dX0_tell_70 : decode cX0_tell 70 = .ok (.bipush 48, 2) := by decide +kernel
theorem dX0_tell_72 : decode cX0_tell 72 = .ok (.iload 4, 2) := by decide +kernel
theorem dX0_tell_74 : decode cX0_tell 74 = .ok (.iadd, 1) := by decide +kernel
theorem dX0_tell_75 : decode cX0_tell 75 = .ok (.goto 11, 3) := by decide +kernel
theorem dX0_tell_78 : decode cX0_tell 78 = .ok (.bipush 97, 2) := by decide +kernel
theorem dX0_tell_80 : decode cX0_tell 80 = .ok (.iload 4, 2) := by decide +kernel
theorem dX0_tell_82 : decode cX0_tell 82 = .ok (.iadd, 1) := by decide +kernel
theorem dX0_tell_83 : decode cX0_tell 83 = .ok (.bipush 10, 2) := by decide +kernel
theorem dX0_tell_85 : decode cX0_tell 85 = .ok (.isub, 1) := by decide +kernel
theorem dX0_tell_86 : decode cX0_tell 86 = .ok (.invokevirtual 35, 3) := by decide +kernel
theorem dX0_tell_89 : decode cX0_tell 89 = .ok (.iinc 3 1, 3) := by decide +kernel
theorem dX0_tell_92 : decode cX0_tell 92 = .ok (.goto (-47), 3) := by decide +kernel
theorem dX0_tell_95 : decode cX0_tell 95 = .ok (.return_, 1) := by decide +kernel
theorem dX0_putNumber_0 : decode cX0_putNumber 0 = .ok (.iload_n 1, 1) := by decide +kernel
theorem dX0_putNumber_1 : decode cX0_putNumber 1 = .ok (.ifCond .ge 9, 3) := by decide +kernel
theorem dX0_putNumber_4 : decode cX0_putNumber 4 = .ok (.aload_n 0, 1) := by decide +kernel
theorem dX0_putNumber_5 : decode cX0_putNumber 5 = .ok (.bipush 45, 2) := by decide +kernel
theorem dX0_putNumber_7 : decode cX0_putNumber 7 = .ok (.invokevirtual 35, 3) := by decide +kernel
theorem dX0_putNumber_10 : decode cX0_putNumber 10 = .ok (.iload_n 1, 1) := by decide +kernel
theorem dX0_putNumber_11 : decode cX0_putNumber 11 = .ok (.invokestatic 49, 3) := by decide +kernel
theorem dX0_putNumber_14 : decode cX0_putNumber 14 = .ok (.istore_n 2, 1) := by decide +kernel
theorem dX0_putNumber_15 : decode cX0_putNumber 15 = .ok (.sipush 1000, 3) := by decide +kernel
theorem dX0_putNumber_18 : decode cX0_putNumber 18 = .ok (.istore_n 3, 1) := by decide +kernel
theorem dX0_putNumber_19 : decode cX0_putNumber 19 = .ok (.iload_n 3, 1) := by decide +kernel
theorem dX0_putNumber_20 : decode cX0_putNumber 20 = .ok (.ifCond .le 34, 3) := by decide +kernel
theorem dX0_putNumber_23 : decode cX0_putNumber 23 = .ok (.iload_n 2, 1) := by decide +kernel
theorem dX0_putNumber_24 : decode cX0_putNumber 24 = .ok (.iload_n 3, 1) := by decide +kernel
theorem dX0_putNumber_25 : decode cX0_putNumber 25 = .ok (.if_icmp .ge 8, 3) := by decide +kernel
theorem dX0_putNumber_28 : decode cX0_putNumber 28 = .ok (.iload_n 3, 1) := by decide +kernel
theorem dX0_putNumber_29 : decode cX0_putNumber 29 = .ok (.iconst 1, 1) := by decide +kernel
theorem dX0_putNumber_30 : decode cX0_putNumber 30 = .ok (.if_icmp .ne 16, 3) := by decide +kernel
theorem dX0_putNumber_33 : decode cX0_putNumber 33 = .ok (.aload_n 0, 1) := by decide +kernel
theorem dX0_putNumber_34 : decode cX0_putNumber 34 = .ok (.bipush 48, 2) := by decide +kernel
theorem dX0_putNumber_36 : decode cX0_putNumber 36 = .ok (.iload_n 2, 1) := by decide +kernel
theorem dX0_putNumber_37 : decode cX0_putNumber 37 = .ok (.iload_n 3, 1) := by decide +kernel
theorem dX0_putNumber_38 : decode cX0_putNumber 38 = .ok (.idiv, 1) := by decide +kernel
theorem dX0_putNumber_39 : decode cX0_putNumber 39 = .ok (.bipush 10, 2) := by decide +kernel
theorem dX0_putNumber_41 : decode cX0_putNumber 41 = .ok (.irem, 1) := by decide +kernel
theorem dX0_putNumber_42 : decode cX0_putNumber 42 = .ok (.iadd, 1) := by decide +kernel
theorem dX0_putNumber_43 : decode cX0_putNumber 43 = .ok (.invokevirtual 35, 3) := by decide +kernel
theorem dX0_putNumber_46 : decode cX0_putNumber 46 = .ok (.iload_n 3, 1) := by decide +kernel
theorem dX0_putNumber_47 : decode cX0_putNumber 47 = .ok (.bipush 10, 2) := by decide +kernel
theorem dX0_putNumber_49 : decode cX0_putNumber 49 = .ok (.idiv, 1) := by decide +kernel
theorem dX0_putNumber_50 : decode cX0_putNumber 50 = .ok (.istore_n 3, 1) := by decide +kernel
theorem dX0_putNumber_51 : decode cX0_putNumber 51 = .ok (.goto (-32), 3) := by decide +kernel
theorem dX0_putNumber_54 : decode cX0_putNumber 54 = .ok (.return_, 1) := by decide +kernel
theorem dX0_tellsBlock_0 : decode cX0_tellsBlock 0 = .ok (.aload_n 0, 1) := by decide +kernel
theorem dX0_tellsBlock_1 : decode cX0_tellsBlock 1 = .ok (.invokevirtual 54, 3) := by decide +kernel
theorem dX0_tellsBlock_4 : decode cX0_tellsBlock 4 = .ok (.aload_n 0, 1) := by decide +kernel
theorem dX0_tellsBlock_5 : decode cX0_tellsBlock 5 = .ok (.getfield 18, 3) := by decide +kernel
theorem dX0_tellsBlock_8 : decode cX0_tellsBlock 8 = .ok (.if_icmp .ne 15, 3) := by decide +kernel
theorem dX0_tellsBlock_11 : decode cX0_tellsBlock 11 = .ok (.aload_n 0, 1) := by decide +kernel
theorem dX0_tellsBlock_12 : decode cX0_tellsBlock 12 = .ok (.getfield 58, 3) := by decide +kernel
theorem dX0_tellsBlock_15 : decode cX0_tellsBlock 15 = .ok (.iconst 2, 1) := by decide +kernel
theorem dX0_tellsBlock_16 : decode cX0_tellsBlock 16 = .ok (.if_icmp .ne 7, 3) := by decide +kernel
theorem dX0_tellsBlock_19 : decode cX0_tellsBlock 19 = .ok (.iconst 1, 1) := by decide +kernel
theorem dX0_tellsBlock_20 : decode cX0_tellsBlock 20 = .ok (.goto 4, 3) := by decide +kernel
theorem dX0_tellsBlock_23 : decode cX0_tellsBlock 23 = .ok (.iconst 0, 1) := by decide +kernel
theorem dX0_tellsBlock_24 : decode cX0_tellsBlock 24 = .ok (.ireturn, 1) := by decide +kernel
theorem dX0_read_0 : decode cX0_read 0 = .ok (.aload_n 0, 1) := by decide +kernel
theorem dX0_read_1 : decode cX0_read 1 = .ok (.iconst 0, 1) := by decide +kernel
theorem dX0_read_2 : decode cX0_read 2 = .ok (.putfield 58, 3) := by decide +kernel
theorem dX0_read_5 : decode cX0_read 5 = .ok (.aload_n 0, 1) := by decide +kernel
theorem dX0_read_6 : decode cX0_read 6 = .ok (.iconst 0, 1) := by decide +kernel
theorem dX0_read_7 : decode cX0_read 7 = .ok (.putfield 61, 3) := by decide +kernel
theorem dX0_read_10 : decode cX0_read 10 = .ok (.aload_n 0, 1) := by decide +kernel
theorem dX0_read_11 : decode cX0_read 11 = .ok (.iconst 0, 1) := by decide +kernel
theorem dX0_read_12 : decode cX0_read 12 = .ok (.putfield 65, 3) := by decide +kernel
theorem dX0_read_15 : decode cX0_read 15 = .ok (.aload_n 0, 1) := by decide +kernel
theorem dX0_read_16 : decode cX0_read 16 = .ok (.invokevirtual 68, 3) := by decide +kernel
theorem dX0_read_19 : decode cX0_read 19 = .ok (.iconst 0, 1) := by decide +kernel
theorem dX0_read_20 : decode cX0_read 20 = .ok (.istore_n 1, 1) := by decide +kernel
theorem dX0_read_21 : decode cX0_read 21 = .ok (.iload_n 1, 1) := by decide +kernel
theorem dX0_read_22 : decode cX0_read 22 = .ok (.aload_n 0, 1) := by decide +kernel
theorem dX0_read_23 : decode cX0_read 23 = .ok (.getfield 18, 3) := by decide +kernel
theorem dX0_read_26 : decode cX0_read 26 = .ok (.if_icmp .ge 24, 3) := by decide +kernel
theorem dX0_read_29 : decode cX0_read 29 = .ok (.aload_n 0, 1) := by decide +kernel
theorem dX0_read_30 : decode cX0_read 30 = .ok (.aload_n 0, 1) := by decide +kernel
theorem dX0_read_31 : decode cX0_read 31 = .ok (.getfield 9, 3) := by decide +kernel
theorem dX0_read_34 : decode cX0_read 34 = .ok (.iload_n 1, 1) := by decide +kernel
theorem dX0_read_35 : decode cX0_read 35 = .ok (.iaload, 1) := by decide +kernel
theorem dX0_read_36 : decode cX0_read 36 = .ok (.invokevirtual 71, 3) := by decide +kernel
theorem dX0_read_39 : decode cX0_read 39 = .ok (.ifCond .ne 5, 3) := by decide +kernel
theorem dX0_read_42 : decode cX0_read 42 = .ok (.iload_n 1, 1) := by decide +kernel
theorem dX0_read_43 : decode cX0_read 43 = .ok (.ireturn, 1) := by decide +kernel
theorem dX0_read_44 : decode cX0_read 44 = .ok (.iinc 1 1, 3) := by decide +kernel
theorem dX0_read_47 : decode cX0_read 47 = .ok (.goto (-26), 3) := by decide +kernel
theorem dX0_read_50 : decode cX0_read 50 = .ok (.aload_n 0, 1) := by decide +kernel
theorem dX0_read_51 : decode cX0_read 51 = .ok (.getfield 18, 3) := by decide +kernel
theorem dX0_read_54 : decode cX0_read 54 = .ok (.ireturn, 1) := by decide +kernel
theorem dX0_readsOn_0 : decode cX0_readsOn 0 = .ok (.aload_n 0, 1) := by decide +kernel
theorem dX0_readsOn_1 : decode cX0_readsOn 1 = .ok (.getfield 58, 3) := by decide +kernel
theorem dX0_readsOn_4 : decode cX0_readsOn 4 = .ok (.lookupswitch 40 #[(0, 28), (1, 34)], 28) := by decide +kernel
theorem dX0_readsOn_32 : decode cX0_readsOn 32 = .ok (.aload_n 0, 1) := by decide +kernel
theorem dX0_readsOn_33 : decode cX0_readsOn 33 = .ok (.iload_n 1, 1) := by decide +kernel
theorem dX0_readsOn_34 : decode cX0_readsOn 34 = .ok (.invokevirtual 75, 3) := by decide +kernel
theorem dX0_readsOn_37 : decode cX0_readsOn 37 = .ok (.ireturn, 1) := by decide +kernel
theorem dX0_readsOn_38 : decode cX0_readsOn 38 = .ok (.aload_n 0, 1) := by decide +kernel
theorem dX0_readsOn_39 : decode cX0_readsOn 39 = .ok (.iload_n 1, 1) := by decide +kernel
theorem dX0_readsOn_40 : decode cX0_readsOn 40 = .ok (.invokevirtual 78, 3) := by decide +kernel
theorem dX0_readsOn_43 : decode cX0_readsOn 43 = .ok (.ireturn, 1) := by decide +kernel
theorem dX0_readsOn_44 : decode cX0_readsOn 44 = .ok (.aload_n 0, 1) := by decide +kernel
theorem dX0_readsOn_45 : decode cX0_readsOn 45 = .ok (.iload_n 1, 1) := by decide +kernel
theorem dX0_readsOn_46 : decode cX0_readsOn 46 = .ok (.invokevirtual 81, 3) := by decide +kernel
theorem dX0_readsOn_49 : decode cX0_readsOn 49 = .ok (.ireturn, 1) := by decide +kernel
theorem dX0_readsFirst_0 : decode cX0_readsFirst 0 = .ok (.iload_n 1, 1) := by decide +kernel
theorem dX0_readsFirst_1 : decode cX0_readsFirst 1 = .ok (.bipush 45, 2) := by decide +kernel
theorem dX0_readsFirst_3 : decode cX0_readsFirst 3 = .ok (.if_icmp .ne 24, 3) := by decide +kernel
theorem dX0_readsFirst_6 : decode cX0_readsFirst 6 = .ok (.aload_n 0, 1) := by decide +kernel
theorem dX0_readsFirst_7 : decode cX0_readsFirst 7 = .ok (.getfield 61, 3) := by decide +kernel
theorem dX0_readsFirst_10 : decode cX0_readsFirst 10 = .ok (.ifCond .ne 17, 3) := by decide +kernel
theorem dX0_readsFirst_13 : decode cX0_readsFirst 13 = .ok (.aload_n 0, 1) := by decide +kernel
theorem dX0_readsFirst_14 : decode cX0_readsFirst 14 = .ok (.getfield 84, 3) := by decide +kernel
theorem dX0_readsFirst_17 : decode cX0_readsFirst 17 = .ok (.ifCond .ne 10, 3) := by decide +kernel
theorem dX0_readsFirst_20 : decode cX0_readsFirst 20 = .ok (.aload_n 0, 1) := by decide +kernel
theorem dX0_readsFirst_21 : decode cX0_readsFirst 21 = .ok (.iconst 1, 1) := by decide +kernel
theorem dX0_readsFirst_22 : decode cX0_readsFirst 22 = .ok (.putfield 61, 3) := by decide +kernel
theorem dX0_readsFirst_25 : decode cX0_readsFirst 25 = .ok (.iconst 1, 1) := by decide +kernel
theorem dX0_readsFirst_26 : decode cX0_readsFirst 26 = .ok (.ireturn, 1) := by decide +kernel
theorem dX0_readsFirst_27 : decode cX0_readsFirst 27 = .ok (.iload_n 1, 1) := by decide +kernel
theorem dX0_readsFirst_28 : decode cX0_readsFirst 28 = .ok (.bipush 44, 2) := by decide +kernel
theorem dX0_readsFirst_30 : decode cX0_readsFirst 30 = .ok (.if_icmp .ne 44, 3) := by decide +kernel
theorem dX0_readsFirst_33 : decode cX0_readsFirst 33 = .ok (.aload_n 0, 1) := by decide +kernel
theorem dX0_readsFirst_34 : decode cX0_readsFirst 34 = .ok (.getfield 84, 3) := by decide +kernel
theorem dX0_readsFirst_37 : decode cX0_readsFirst 37 = .ok (.ifCond .eq 37, 3) := by decide +kernel
theorem dX0_readsFirst_40 : decode cX0_readsFirst 40 = .ok (.aload_n 0, 1) := by decide +kernel
theorem dX0_readsFirst_41 : decode cX0_readsFirst 41 = .ok (.aload_n 0, 1) := by decide +kernel
theorem dX0_readsFirst_42 : decode cX0_readsFirst 42 = .ok (.getfield 61, 3) := by decide +kernel
theorem dX0_readsFirst_45 : decode cX0_readsFirst 45 = .ok (.ifCond .eq 11, 3) := by decide +kernel
theorem dX0_readsFirst_48 : decode cX0_readsFirst 48 = .ok (.aload_n 0, 1) := by decide +kernel
theorem dX0_readsFirst_49 : decode cX0_readsFirst 49 = .ok (.getfield 87, 3) := by decide +kernel
theorem dX0_readsFirst_52 : decode cX0_readsFirst 52 = .ok (.ineg, 1) := by decide +kernel
theorem dX0_readsFirst_53 : decode cX0_readsFirst 53 = .ok (.goto 7, 3) := by decide +kernel
theorem dX0_readsFirst_56 : decode cX0_readsFirst 56 = .ok (.aload_n 0, 1) := by decide +kernel
theorem dX0_readsFirst_57 : decode cX0_readsFirst 57 = .ok (.getfield 87, 3) := by decide +kernel
theorem dX0_readsFirst_60 : decode cX0_readsFirst 60 = .ok (.putfield 90, 3) := by decide +kernel
theorem dX0_readsFirst_63 : decode cX0_readsFirst 63 = .ok (.aload_n 0, 1) := by decide +kernel
theorem dX0_readsFirst_64 : decode cX0_readsFirst 64 = .ok (.iconst 1, 1) := by decide +kernel
theorem dX0_readsFirst_65 : decode cX0_readsFirst 65 = .ok (.putfield 58, 3) := by decide +kernel
theorem dX0_readsFirst_68 : decode cX0_readsFirst 68 = .ok (.aload_n 0, 1) := by decide +kernel
theorem dX0_readsFirst_69 : decode cX0_readsFirst 69 = .ok (.invokevirtual 68, 3) := by decide +kernel
theorem dX0_readsFirst_72 : decode cX0_readsFirst 72 = .ok (.iconst 1, 1) := by decide +kernel
theorem dX0_readsFirst_73 : decode cX0_readsFirst 73 = .ok (.ireturn, 1) := by decide +kernel
theorem dX0_readsFirst_74 : decode cX0_readsFirst 74 = .ok (.aload_n 0, 1) := by decide +kernel
theorem dX0_readsFirst_75 : decode cX0_readsFirst 75 = .ok (.getfield 61, 3) := by decide +kernel
theorem dX0_readsFirst_78 : decode cX0_readsFirst 78 = .ok (.ifCond .eq 20, 3) := by decide +kernel
theorem dX0_readsFirst_81 : decode cX0_readsFirst 81 = .ok (.aload_n 0, 1) := by decide +kernel
theorem dX0_readsFirst_82 : decode cX0_readsFirst 82 = .ok (.getfield 84, 3) := by decide +kernel
theorem dX0_readsFirst_85 : decode cX0_readsFirst 85 = .ok (.ifCond .ne 13, 3) := by decide +kernel
theorem dX0_readsFirst_88 : decode cX0_readsFirst 88 = .ok (.iload_n 1, 1) := by decide +kernel
theorem dX0_readsFirst_89 : decode cX0_readsFirst 89 = .ok (.bipush 48, 2) := by decide +kernel
theorem dX0_readsFirst_91 : decode cX0_readsFirst 91 = .ok (.if_icmp .ne 7, 3) := by decide +kernel
theorem dX0_readsFirst_94 : decode cX0_readsFirst 94 = .ok (.iconst 1, 1) := by decide +kernel
theorem dX0_readsFirst_95 : decode cX0_readsFirst 95 = .ok (.goto 4, 3) := by decide +kernel
theorem dX0_readsFirst_98 : decode cX0_readsFirst 98 = .ok (.iconst 0, 1) := by decide +kernel
theorem dX0_readsFirst_99 : decode cX0_readsFirst 99 = .ok (.istore_n 2, 1) := by decide +kernel
theorem dX0_readsFirst_100 : decode cX0_readsFirst 100 = .ok (.iload_n 2, 1) := by decide +kernel
theorem dX0_readsFirst_101 : decode cX0_readsFirst 101 = .ok (.ifCond .ne 31, 3) := by decide +kernel
theorem dX0_readsFirst_104 : decode cX0_readsFirst 104 = .ok (.aload_n 0, 1) := by decide +kernel
theorem dX0_readsFirst_105 : decode cX0_readsFirst 105 = .ok (.iload_n 1, 1) := by decide +kernel
theorem dX0_readsFirst_106 : decode cX0_readsFirst 106 = .ok (.aload_n 0, 1) := by decide +kernel
theorem dX0_readsFirst_107 : decode cX0_readsFirst 107 = .ok (.getfield 61, 3) := by decide +kernel
theorem dX0_readsFirst_110 : decode cX0_readsFirst 110 = .ok (.ifCond .eq 9, 3) := by decide +kernel
theorem dX0_readsFirst_113 : decode cX0_readsFirst 113 = .ok (.sipush 2048, 3) := by decide +kernel
theorem dX0_readsFirst_116 : decode cX0_readsFirst 116 = .ok (.goto 6, 3) := by decide +kernel
theorem dX0_readsFirst_119 : decode cX0_readsFirst 119 = .ok (.sipush 2047, 3) := by decide +kernel
theorem dX0_readsFirst_122 : decode cX0_readsFirst 122 = .ok (.invokevirtual 93, 3) := by decide +kernel
theorem dX0_readsFirst_125 : decode cX0_readsFirst 125 = .ok (.ifCond .eq 7, 3) := by decide +kernel
theorem dX0_readsFirst_128 : decode cX0_readsFirst 128 = .ok (.iconst 1, 1) := by decide +kernel
theorem dX0_readsFirst_129 : decode cX0_readsFirst 129 = .ok (.goto 4, 3) := by decide +kernel
theorem dX0_readsFirst_132 : decode cX0_readsFirst 132 = .ok (.iconst 0, 1) := by decide +kernel
theorem dX0_readsFirst_133 : decode cX0_readsFirst 133 = .ok (.ireturn, 1) := by decide +kernel
theorem dX0_readsNumber_0 : decode cX0_readsNumber 0 = .ok (.iload_n 1, 1) := by decide +kernel
theorem dX0_readsNumber_1 : decode cX0_readsNumber 1 = .ok (.bipush 58, 2) := by decide +kernel
theorem dX0_readsNumber_3 : decode cX0_readsNumber 3 = .ok (.if_icmp .ne 25, 3) := by decide +kernel
theorem dX0_readsNumber_6 : decode cX0_readsNumber 6 = .ok (.aload_n 0, 1) := by decide +kernel
theorem dX0_readsNumber_7 : decode cX0_readsNumber 7 = .ok (.getfield 84, 3) := by decide +kernel
theorem dX0_readsNumber_10 : decode cX0_readsNumber 10 = .ok (.ifCond .eq 18, 3) := by decide +kernel
theorem dX0_readsNumber_13 : decode cX0_readsNumber 13 = .ok (.aload_n 0, 1) := by decide +kernel
theorem dX0_readsNumber_14 : decode cX0_readsNumber 14 = .ok (.aload_n 0, 1) := by decide +kernel
theorem dX0_readsNumber_15 : decode cX0_readsNumber 15 = .ok (.getfield 87, 3) := by decide +kernel
theorem dX0_readsNumber_18 : decode cX0_readsNumber 18 = .ok (.putfield 97, 3) := by decide +kernel
theorem dX0_readsNumber_21 : decode cX0_readsNumber 21 = .ok (.aload_n 0, 1) := by decide +kernel
theorem dX0_readsNumber_22 : decode cX0_readsNumber 22 = .ok (.iconst 2, 1) := by decide +kernel
theorem dX0_readsNumber_23 : decode cX0_readsNumber 23 = .ok (.putfield 58, 3) := by decide +kernel
theorem dX0_readsNumber_26 : decode cX0_readsNumber 26 = .ok (.iconst 1, 1) := by decide +kernel
theorem dX0_readsNumber_27 : decode cX0_readsNumber 27 = .ok (.ireturn, 1) := by decide +kernel
theorem dX0_readsNumber_28 : decode cX0_readsNumber 28 = .ok (.aload_n 0, 1) := by decide +kernel
theorem dX0_readsNumber_29 : decode cX0_readsNumber 29 = .ok (.iload_n 1, 1) := by decide +kernel
theorem dX0_readsNumber_30 : decode cX0_readsNumber 30 = .ok (.bipush 48, 2) := by decide +kernel
theorem dX0_readsNumber_32 : decode cX0_readsNumber 32 = .ok (.invokevirtual 93, 3) := by decide +kernel
theorem dX0_readsNumber_35 : decode cX0_readsNumber 35 = .ok (.ireturn, 1) := by decide +kernel
theorem dX0_readsCode_0 : decode cX0_readsCode 0 = .ok (.iconst (-1), 1) := by decide +kernel
theorem dX0_readsCode_1 : decode cX0_readsCode 1 = .ok (.istore_n 2, 1) := by decide +kernel
theorem dX0_readsCode_2 : decode cX0_readsCode 2 = .ok (.iload_n 1, 1) := by decide +kernel
theorem dX0_readsCode_3 : decode cX0_readsCode 3 = .ok (.bipush 48, 2) := by decide +kernel
theorem dX0_readsCode_5 : decode cX0_readsCode 5 = .ok (.if_icmp .lt 17, 3) := by decide +kernel
theorem dX0_readsCode_8 : decode cX0_readsCode 8 = .ok (.iload_n 1, 1) := by decide +kernel
theorem dX0_readsCode_9 : decode cX0_readsCode 9 = .ok (.bipush 57, 2) := by decide +kernel
theorem dX0_readsCode_11 : decode cX0_readsCode 11 = .ok (.if_icmp .gt 11, 3) := by decide +kernel
theorem dX0_readsCode_14 : decode cX0_readsCode 14 = .ok (.iload_n 1, 1) := by decide +kernel
theorem dX0_readsCode_15 : decode cX0_readsCode 15 = .ok (.bipush 48, 2) := by decide +kernel
theorem dX0_readsCode_17 : decode cX0_readsCode 17 = .ok (.isub, 1) := by decide +kernel
theorem dX0_readsCode_18 : decode cX0_readsCode 18 = .ok (.istore_n 2, 1) := by decide +kernel
theorem dX0_readsCode_19 : decode cX0_readsCode 19 = .ok (.goto 23, 3) := by decide +kernel
theorem dX0_readsCode_22 : decode cX0_readsCode 22 = .ok (.iload_n 1, 1) := by decide +kernel
theorem dX0_readsCode_23 : decode cX0_readsCode 23 = .ok (.bipush 97, 2) := by decide +kernel
theorem dX0_readsCode_25 : decode cX0_readsCode 25 = .ok (.if_icmp .lt 17, 3) := by decide +kernel
theorem dX0_readsCode_28 : decode cX0_readsCode 28 = .ok (.iload_n 1, 1) := by decide +kernel
theorem dX0_readsCode_29 : decode cX0_readsCode 29 = .ok (.bipush 102, 2) := by decide +kernel
theorem dX0_readsCode_31 : decode cX0_readsCode 31 = .ok (.if_icmp .gt 11, 3) := by decide +kernel
theorem dX0_readsCode_34 : decode cX0_readsCode 34 = .ok (.iload_n 1, 1) := by decide +kernel
theorem dX0_readsCode_35 : decode cX0_readsCode 35 = .ok (.bipush 97, 2) := by decide +kernel
theorem dX0_readsCode_37 : decode cX0_readsCode 37 = .ok (.isub, 1) := by decide +kernel
theorem dX0_readsCode_38 : decode cX0_readsCode 38 = .ok (.bipush 10, 2) := by decide +kernel
theorem dX0_readsCode_40 : decode cX0_readsCode 40 = .ok (.iadd, 1) := by decide +kernel
theorem dX0_readsCode_41 : decode cX0_readsCode 41 = .ok (.istore_n 2, 1) := by decide +kernel
theorem dX0_readsCode_42 : decode cX0_readsCode 42 = .ok (.iload_n 2, 1) := by decide +kernel
theorem dX0_readsCode_43 : decode cX0_readsCode 43 = .ok (.iconst (-1), 1) := by decide +kernel
theorem dX0_readsCode_44 : decode cX0_readsCode 44 = .ok (.if_icmp .eq 15, 3) := by decide +kernel
theorem dX0_readsCode_47 : decode cX0_readsCode 47 = .ok (.aload_n 0, 1) := by decide +kernel
theorem dX0_readsCode_48 : decode cX0_readsCode 48 = .ok (.getfield 65, 3) := by decide +kernel
theorem dX0_readsCode_51 : decode cX0_readsCode 51 = .ok (.aload_n 0, 1) := by decide +kernel
theorem dX0_readsCode_52 : decode cX0_readsCode 52 = .ok (.getfield 15, 3) := by decide +kernel
theorem dX0_readsCode_55 : decode cX0_readsCode 55 = .ok (.arraylength, 1) := by decide +kernel
theorem dX0_readsCode_56 : decode cX0_readsCode 56 = .ok (.if_icmp .lt 5, 3) := by decide +kernel
theorem dX0_readsCode_59 : decode cX0_readsCode 59 = .ok (.iconst 0, 1) := by decide +kernel
theorem dX0_readsCode_60 : decode cX0_readsCode 60 = .ok (.ireturn, 1) := by decide +kernel
theorem dX0_readsCode_61 : decode cX0_readsCode 61 = .ok (.aload_n 0, 1) := by decide +kernel
theorem dX0_readsCode_62 : decode cX0_readsCode 62 = .ok (.getfield 15, 3) := by decide +kernel
theorem dX0_readsCode_65 : decode cX0_readsCode 65 = .ok (.aload_n 0, 1) := by decide +kernel
theorem dX0_readsCode_66 : decode cX0_readsCode 66 = .ok (.getfield 65, 3) := by decide +kernel
theorem dX0_readsCode_69 : decode cX0_readsCode 69 = .ok (.iload_n 2, 1) := by decide +kernel
theorem dX0_readsCode_70 : decode cX0_readsCode 70 = .ok (.iastore, 1) := by decide +kernel
theorem dX0_readsCode_71 : decode cX0_readsCode 71 = .ok (.aload_n 0, 1) := by decide +kernel
theorem dX0_readsCode_72 : decode cX0_readsCode 72 = .ok (.dup, 1) := by decide +kernel
theorem dX0_readsCode_73 : decode cX0_readsCode 73 = .ok (.getfield 65, 3) := by decide +kernel
theorem dX0_readsCode_76 : decode cX0_readsCode 76 = .ok (.iconst 1, 1) := by decide +kernel
theorem dX0_readsCode_77 : decode cX0_readsCode 77 = .ok (.iadd, 1) := by decide +kernel
theorem dX0_readsCode_78 : decode cX0_readsCode 78 = .ok (.putfield 65, 3) := by decide +kernel
theorem dX0_readsCode_81 : decode cX0_readsCode 81 = .ok (.iconst 1, 1) := by decide +kernel
theorem dX0_readsCode_82 : decode cX0_readsCode 82 = .ok (.ireturn, 1) := by decide +kernel
theorem dX0_beginDigits_0 : decode cX0_beginDigits 0 = .ok (.aload_n 0, 1) := by decide +kernel
theorem dX0_beginDigits_1 : decode cX0_beginDigits 1 = .ok (.iconst 0, 1) := by decide +kernel
theorem dX0_beginDigits_2 : decode cX0_beginDigits 2 = .ok (.putfield 87, 3) := by decide +kernel
theorem dX0_beginDigits_5 : decode cX0_beginDigits 5 = .ok (.aload_n 0, 1) := by decide +kernel
theorem dX0_beginDigits_6 : decode cX0_beginDigits 6 = .ok (.iconst 0, 1) := by decide +kernel
theorem dX0_beginDigits_7 : decode cX0_beginDigits 7 = .ok (.putfield 84, 3) := by decide +kernel
theorem dX0_beginDigits_10 : decode cX0_beginDigits 10 = .ok (.return_, 1) := by decide +kernel
theorem dX0_readsDigit_0 : decode cX0_readsDigit 0 = .ok (.aload_n 0, 1) := by decide +kernel
theorem dX0_readsDigit_1 : decode cX0_readsDigit 1 = .ok (.getfield 84, 3) := by decide +kernel
theorem dX0_readsDigit_4 : decode cX0_readsDigit 4 = .ok (.ifCond .eq 14, 3) := by decide +kernel
theorem dX0_readsDigit_7 : decode cX0_readsDigit 7 = .ok (.aload_n 0, 1) := by decide +kernel
theorem dX0_readsDigit_8 : decode cX0_readsDigit 8 = .ok (.getfield 87, 3) := by decide +kernel
theorem dX0_readsDigit_11 : decode cX0_readsDigit 11 = .ok (.ifCond .ne 7, 3) := by decide +kernel
theorem dX0_readsDigit_14 : decode cX0_readsDigit 14 = .ok (.iconst 1, 1) := by decide +kernel
theorem dX0_readsDigit_15 : decode cX0_readsDigit 15 = .ok (.goto 4, 3) := by decide +kernel
theorem dX0_readsDigit_18 : decode cX0_readsDigit 18 = .ok (.iconst 0, 1) := by decide +kernel
theorem dX0_readsDigit_19 : decode cX0_readsDigit 19 = .ok (.istore_n 3, 1) := by decide +kernel
theorem dX0_readsDigit_20 : decode cX0_readsDigit 20 = .ok (.iload_n 1, 1) := by decide +kernel
theorem dX0_readsDigit_21 : decode cX0_readsDigit 21 = .ok (.bipush 48, 2) := by decide +kernel
theorem dX0_readsDigit_23 : decode cX0_readsDigit 23 = .ok (.if_icmp .lt 13, 3) := by decide +kernel
theorem dX0_readsDigit_26 : decode cX0_readsDigit 26 = .ok (.iload_n 1, 1) := by decide +kernel
theorem dX0_readsDigit_27 : decode cX0_readsDigit 27 = .ok (.bipush 57, 2) := by decide +kernel
theorem dX0_readsDigit_29 : decode cX0_readsDigit 29 = .ok (.if_icmp .gt 7, 3) := by decide +kernel
theorem dX0_readsDigit_32 : decode cX0_readsDigit 32 = .ok (.iload_n 3, 1) := by decide +kernel
theorem dX0_readsDigit_33 : decode cX0_readsDigit 33 = .ok (.ifCond .eq 5, 3) := by decide +kernel
theorem dX0_readsDigit_36 : decode cX0_readsDigit 36 = .ok (.iconst 0, 1) := by decide +kernel
theorem dX0_readsDigit_37 : decode cX0_readsDigit 37 = .ok (.ireturn, 1) := by decide +kernel
theorem dX0_readsDigit_38 : decode cX0_readsDigit 38 = .ok (.bipush 10, 2) := by decide +kernel
theorem dX0_readsDigit_40 : decode cX0_readsDigit 40 = .ok (.aload_n 0, 1) := by decide +kernel
theorem dX0_readsDigit_41 : decode cX0_readsDigit 41 = .ok (.getfield 87, 3) := by decide +kernel
theorem dX0_readsDigit_44 : decode cX0_readsDigit 44 = .ok (.imul, 1) := by decide +kernel
theorem dX0_readsDigit_45 : decode cX0_readsDigit 45 = .ok (.iload_n 1, 1) := by decide +kernel
theorem dX0_readsDigit_46 : decode cX0_readsDigit 46 = .ok (.iadd, 1) := by decide +kernel
theorem dX0_readsDigit_47 : decode cX0_readsDigit 47 = .ok (.bipush 48, 2) := by decide +kernel
theorem dX0_readsDigit_49 : decode cX0_readsDigit 49 = .ok (.isub, 1) := by decide +kernel
theorem dX0_readsDigit_50 : decode cX0_readsDigit 50 = .ok (.istore 4, 2) := by decide +kernel
theorem dX0_readsDigit_52 : decode cX0_readsDigit 52 = .ok (.iload 4, 2) := by decide +kernel
theorem dX0_readsDigit_54 : decode cX0_readsDigit 54 = .ok (.iload_n 2, 1) := by decide +kernel
theorem dX0_readsDigit_55 : decode cX0_readsDigit 55 = .ok (.if_icmp .le 5, 3) := by decide +kernel
theorem dX0_readsDigit_58 : decode cX0_readsDigit 58 = .ok (.iconst 0, 1) := by decide +kernel
theorem dX0_readsDigit_59 : decode cX0_readsDigit 59 = .ok (.ireturn, 1) := by decide +kernel
theorem dX0_readsDigit_60 : decode cX0_readsDigit 60 = .ok (.aload_n 0, 1) := by decide +kernel
theorem dX0_readsDigit_61 : decode cX0_readsDigit 61 = .ok (.iload 4, 2) := by decide +kernel
theorem dX0_readsDigit_63 : decode cX0_readsDigit 63 = .ok (.putfield 87, 3) := by decide +kernel
theorem dX0_readsDigit_66 : decode cX0_readsDigit 66 = .ok (.aload_n 0, 1) := by decide +kernel
theorem dX0_readsDigit_67 : decode cX0_readsDigit 67 = .ok (.iconst 1, 1) := by decide +kernel
theorem dX0_readsDigit_68 : decode cX0_readsDigit 68 = .ok (.putfield 84, 3) := by decide +kernel
theorem dX0_readsDigit_71 : decode cX0_readsDigit 71 = .ok (.iconst 1, 1) := by decide +kernel
theorem dX0_readsDigit_72 : decode cX0_readsDigit 72 = .ok (.ireturn, 1) := by decide +kernel
theorem dX1_init_0 : decode cX1_init 0 = .ok (.aload_n 0, 1) := by decide +kernel
theorem dX1_init_1 : decode cX1_init 1 = .ok (.invokespecial 3, 3) := by decide +kernel
theorem dX1_init_4 : decode cX1_init 4 = .ok (.aload_n 0, 1) := by decide +kernel
theorem dX1_init_5 : decode cX1_init 5 = .ok (.new 9, 3) := by decide +kernel
theorem dX1_init_8 : decode cX1_init 8 = .ok (.dup, 1) := by decide +kernel
theorem dX1_init_9 : decode cX1_init 9 = .ok (.invokespecial 11, 3) := by decide +kernel
theorem dX1_init_12 : decode cX1_init 12 = .ok (.putfield 12, 3) := by decide +kernel
theorem dX1_init_15 : decode cX1_init 15 = .ok (.return_, 1) := by decide +kernel
theorem dX1_codeWave_0 : decode cX1_codeWave 0 = .ok (.iconst 0, 1) := by decide +kernel
theorem dX1_codeWave_1 : decode cX1_codeWave 1 = .ok (.istore_n 2, 1) := by decide +kernel
theorem dX1_codeWave_2 : decode cX1_codeWave 2 = .ok (.iconst 0, 1) := by decide +kernel
theorem dX1_codeWave_3 : decode cX1_codeWave 3 = .ok (.istore_n 3, 1) := by decide +kernel
theorem dX1_codeWave_4 : decode cX1_codeWave 4 = .ok (.iload_n 3, 1) := by decide +kernel
theorem dX1_codeWave_5 : decode cX1_codeWave 5 = .ok (.bipush 32, 2) := by decide +kernel
theorem dX1_codeWave_7 : decode cX1_codeWave 7 = .ok (.if_icmp .ge 62, 3) := by decide +kernel
theorem dX1_codeWave_10 : decode cX1_codeWave 10 = .ok (.aload_n 1, 1) := by decide +kernel
theorem dX1_codeWave_11 : decode cX1_codeWave 11 = .ok (.iload_n 3, 1) := by decide +kernel
theorem dX1_codeWave_12 : decode cX1_codeWave 12 = .ok (.invokevirtual 18, 3) := by decide +kernel
theorem dX1_codeWave_15 : decode cX1_codeWave 15 = .ok (.aload_n 1, 1) := by decide +kernel
theorem dX1_codeWave_16 : decode cX1_codeWave 16 = .ok (.getfield 24, 3) := by decide +kernel
theorem dX1_codeWave_19 : decode cX1_codeWave 19 = .ok (.if_icmp .ge 50, 3) := by decide +kernel
theorem dX1_codeWave_22 : decode cX1_codeWave 22 = .ok (.aload_n 1, 1) := by decide +kernel
theorem dX1_codeWave_23 : decode cX1_codeWave 23 = .ok (.getfield 28, 3) := by decide +kernel
theorem dX1_codeWave_26 : decode cX1_codeWave 26 = .ok (.iconst 1, 1) := by decide +kernel
theorem dX1_codeWave_27 : decode cX1_codeWave 27 = .ok (.iaload, 1) := by decide +kernel
theorem dX1_codeWave_28 : decode cX1_codeWave 28 = .ok (.iconst 1, 1) := by decide +kernel
theorem dX1_codeWave_29 : decode cX1_codeWave 29 = .ok (.if_icmp .ne 19, 3) := by decide +kernel
theorem dX1_codeWave_32 : decode cX1_codeWave 32 = .ok (.aload_n 0, 1) := by decide +kernel
theorem dX1_codeWave_33 : decode cX1_codeWave 33 = .ok (.aload_n 1, 1) := by decide +kernel
theorem dX1_codeWave_34 : decode cX1_codeWave 34 = .ok (.aload_n 1, 1) := by decide +kernel
theorem dX1_codeWave_35 : decode cX1_codeWave 35 = .ok (.iload_n 3, 1) := by decide +kernel
theorem dX1_codeWave_36 : decode cX1_codeWave 36 = .ok (.invokevirtual 18, 3) := by decide +kernel
theorem dX1_codeWave_39 : decode cX1_codeWave 39 = .ok (.aload_n 1, 1) := by decide +kernel
theorem dX1_codeWave_40 : decode cX1_codeWave 40 = .ok (.iload_n 3, 1) := by decide +kernel
theorem dX1_codeWave_41 : decode cX1_codeWave 41 = .ok (.invokevirtual 32, 3) := by decide +kernel
theorem dX1_codeWave_44 : decode cX1_codeWave 44 = .ok (.invokevirtual 35, 3) := by decide +kernel
theorem dX1_codeWave_47 : decode cX1_codeWave 47 = .ok (.istore_n 2, 1) := by decide +kernel
theorem dX1_codeWave_48 : decode cX1_codeWave 48 = .ok (.aload_n 0, 1) := by decide +kernel
theorem dX1_codeWave_49 : decode cX1_codeWave 49 = .ok (.aload_n 1, 1) := by decide +kernel
theorem dX1_codeWave_50 : decode cX1_codeWave 50 = .ok (.iload_n 3, 1) := by decide +kernel
theorem dX1_codeWave_51 : decode cX1_codeWave 51 = .ok (.iload_n 2, 1) := by decide +kernel
theorem dX1_codeWave_52 : decode cX1_codeWave 52 = .ok (.invokevirtual 39, 3) := by decide +kernel
theorem dX1_codeWave_55 : decode cX1_codeWave 55 = .ok (.aload_n 0, 1) := by decide +kernel
theorem dX1_codeWave_56 : decode cX1_codeWave 56 = .ok (.getfield 12, 3) := by decide +kernel
theorem dX1_codeWave_59 : decode cX1_codeWave 59 = .ok (.getfield 43, 3) := by decide +kernel
theorem dX1_codeWave_62 : decode cX1_codeWave 62 = .ok (.istore_n 2, 1) := by decide +kernel
theorem dX1_codeWave_63 : decode cX1_codeWave 63 = .ok (.iinc 3 1, 3) := by decide +kernel
theorem dX1_codeWave_66 : decode cX1_codeWave 66 = .ok (.goto (-62), 3) := by decide +kernel
theorem dX1_codeWave_69 : decode cX1_codeWave 69 = .ok (.aload_n 1, 1) := by decide +kernel
theorem dX1_codeWave_70 : decode cX1_codeWave 70 = .ok (.iload_n 3, 1) := by decide +kernel
theorem dX1_codeWave_71 : decode cX1_codeWave 71 = .ok (.putfield 46, 3) := by decide +kernel
theorem dX1_codeWave_74 : decode cX1_codeWave 74 = .ok (.aload_n 1, 1) := by decide +kernel
theorem dX1_codeWave_75 : decode cX1_codeWave 75 = .ok (.dup, 1) := by decide +kernel
theorem dX1_codeWave_76 : decode cX1_codeWave 76 = .ok (.getfield 49, 3) := by decide +kernel
theorem dX1_codeWave_79 : decode cX1_codeWave 79 = .ok (.iconst 1, 1) := by decide +kernel
theorem dX1_codeWave_80 : decode cX1_codeWave 80 = .ok (.iadd, 1) := by decide +kernel
theorem dX1_codeWave_81 : decode cX1_codeWave 81 = .ok (.putfield 49, 3) := by decide +kernel
theorem dX1_codeWave_84 : decode cX1_codeWave 84 = .ok (.return_, 1) := by decide +kernel
theorem dX1_codeBlock_0 : decode cX1_codeBlock 0 = .ok (.aload_n 1, 1) := by decide +kernel
theorem dX1_codeBlock_1 : decode cX1_codeBlock 1 = .ok (.iload_n 2, 1) := by decide +kernel
theorem dX1_codeBlock_2 : decode cX1_codeBlock 2 = .ok (.invokevirtual 18, 3) := by decide +kernel
theorem dX1_codeBlock_5 : decode cX1_codeBlock 5 = .ok (.istore 4, 2) := by decide +kernel
theorem dX1_codeBlock_7 : decode cX1_codeBlock 7 = .ok (.aload_n 1, 1) := by decide +kernel
theorem dX1_codeBlock_8 : decode cX1_codeBlock 8 = .ok (.getfield 52, 3) := by decide +kernel
theorem dX1_codeBlock_11 : decode cX1_codeBlock 11 = .ok (.iload 4, 2) := by decide +kernel
theorem dX1_codeBlock_13 : decode cX1_codeBlock 13 = .ok (.iaload, 1) := by decide +kernel
theorem dX1_codeBlock_14 : decode cX1_codeBlock 14 = .ok (.istore 5, 2) := by decide +kernel
theorem dX1_codeBlock_16 : decode cX1_codeBlock 16 = .ok (.aload_n 1, 1) := by decide +kernel
theorem dX1_codeBlock_17 : decode cX1_codeBlock 17 = .ok (.getfield 55, 3) := by decide +kernel
theorem dX1_codeBlock_20 : decode cX1_codeBlock 20 = .ok (.iload_n 2, 1) := by decide +kernel
theorem dX1_codeBlock_21 : decode cX1_codeBlock 21 = .ok (.iload 5, 2) := by decide +kernel
theorem dX1_codeBlock_23 : decode cX1_codeBlock 23 = .ok (.iastore, 1) := by decide +kernel
theorem dX1_codeBlock_24 : decode cX1_codeBlock 24 = .ok (.aload_n 1, 1) := by decide +kernel
theorem dX1_codeBlock_25 : decode cX1_codeBlock 25 = .ok (.getfield 58, 3) := by decide +kernel
theorem dX1_codeBlock_28 : decode cX1_codeBlock 28 = .ok (.iload_n 2, 1) := by decide +kernel
theorem dX1_codeBlock_29 : decode cX1_codeBlock 29 = .ok (.iload_n 3, 1) := by decide +kernel
theorem dX1_codeBlock_30 : decode cX1_codeBlock 30 = .ok (.iastore, 1) := by decide +kernel
theorem dX1_codeBlock_31 : decode cX1_codeBlock 31 = .ok (.aload_n 1, 1) := by decide +kernel
theorem dX1_codeBlock_32 : decode cX1_codeBlock 32 = .ok (.getfield 61, 3) := by decide +kernel
theorem dX1_codeBlock_35 : decode cX1_codeBlock 35 = .ok (.iload_n 2, 1) := by decide +kernel
theorem dX1_codeBlock_36 : decode cX1_codeBlock 36 = .ok (.iconst 0, 1) := by decide +kernel
theorem dX1_codeBlock_37 : decode cX1_codeBlock 37 = .ok (.bastore, 1) := by decide +kernel
theorem dX1_codeBlock_38 : decode cX1_codeBlock 38 = .ok (.aload_n 1, 1) := by decide +kernel
theorem dX1_codeBlock_39 : decode cX1_codeBlock 39 = .ok (.getfield 65, 3) := by decide +kernel
theorem dX1_codeBlock_42 : decode cX1_codeBlock 42 = .ok (.iload 4, 2) := by decide +kernel
theorem dX1_codeBlock_44 : decode cX1_codeBlock 44 = .ok (.iconst (-1), 1) := by decide +kernel
theorem dX1_codeBlock_45 : decode cX1_codeBlock 45 = .ok (.iastore, 1) := by decide +kernel
theorem dX1_codeBlock_46 : decode cX1_codeBlock 46 = .ok (.aload_n 1, 1) := by decide +kernel
theorem dX1_codeBlock_47 : decode cX1_codeBlock 47 = .ok (.getfield 68, 3) := by decide +kernel
theorem dX1_codeBlock_50 : decode cX1_codeBlock 50 = .ok (.iload 4, 2) := by decide +kernel
theorem dX1_codeBlock_52 : decode cX1_codeBlock 52 = .ok (.iload 5, 2) := by decide +kernel
theorem dX1_codeBlock_54 : decode cX1_codeBlock 54 = .ok (.iastore, 1) := by decide +kernel
theorem dX1_codeBlock_55 : decode cX1_codeBlock 55 = .ok (.aload_n 0, 1) := by decide +kernel
theorem dX1_codeBlock_56 : decode cX1_codeBlock 56 = .ok (.getfield 12, 3) := by decide +kernel
theorem dX1_codeBlock_59 : decode cX1_codeBlock 59 = .ok (.iload 5, 2) := by decide +kernel
theorem dX1_codeBlock_61 : decode cX1_codeBlock 61 = .ok (.iload_n 3, 1) := by decide +kernel
theorem dX1_codeBlock_62 : decode cX1_codeBlock 62 = .ok (.invokevirtual 71, 3) := by decide +kernel
theorem dX1_codeBlock_65 : decode cX1_codeBlock 65 = .ok (.iload 4, 2) := by decide +kernel
theorem dX1_codeBlock_67 : decode cX1_codeBlock 67 = .ok (.iconst 1, 1) := by decide +kernel
theorem dX1_codeBlock_68 : decode cX1_codeBlock 68 = .ok (.iadd, 1) := by decide +kernel
theorem dX1_codeBlock_69 : decode cX1_codeBlock 69 = .ok (.istore 6, 2) := by decide +kernel
theorem dX1_codeBlock_71 : decode cX1_codeBlock 71 = .ok (.iload 6, 2) := by decide +kernel
theorem dX1_codeBlock_73 : decode cX1_codeBlock 73 = .ok (.aload_n 1, 1) := by decide +kernel
theorem dX1_codeBlock_74 : decode cX1_codeBlock 74 = .ok (.iload_n 2, 1) := by decide +kernel
theorem dX1_codeBlock_75 : decode cX1_codeBlock 75 = .ok (.invokevirtual 32, 3) := by decide +kernel
theorem dX1_codeBlock_78 : decode cX1_codeBlock 78 = .ok (.if_icmp .ge 57, 3) := by decide +kernel
theorem dX1_codeBlock_81 : decode cX1_codeBlock 81 = .ok (.aload_n 0, 1) := by decide +kernel
theorem dX1_codeBlock_82 : decode cX1_codeBlock 82 = .ok (.getfield 12, 3) := by decide +kernel
theorem dX1_codeBlock_85 : decode cX1_codeBlock 85 = .ok (.aload_n 1, 1) := by decide +kernel
theorem dX1_codeBlock_86 : decode cX1_codeBlock 86 = .ok (.getfield 52, 3) := by decide +kernel
theorem dX1_codeBlock_89 : decode cX1_codeBlock 89 = .ok (.iload 6, 2) := by decide +kernel
theorem dX1_codeBlock_91 : decode cX1_codeBlock 91 = .ok (.iaload, 1) := by decide +kernel
theorem dX1_codeBlock_92 : decode cX1_codeBlock 92 = .ok (.invokevirtual 75, 3) := by decide +kernel
theorem dX1_codeBlock_95 : decode cX1_codeBlock 95 = .ok (.istore 7, 2) := by decide +kernel
theorem dX1_codeBlock_97 : decode cX1_codeBlock 97 = .ok (.aload_n 0, 1) := by decide +kernel
theorem dX1_codeBlock_98 : decode cX1_codeBlock 98 = .ok (.getfield 12, 3) := by decide +kernel
theorem dX1_codeBlock_101 : decode cX1_codeBlock 101 = .ok (.iload 7, 2) := by decide +kernel
theorem dX1_codeBlock_103 : decode cX1_codeBlock 103 = .ok (.invokevirtual 78, 3) := by decide +kernel
theorem dX1_codeBlock_106 : decode cX1_codeBlock 106 = .ok (.aload_n 1, 1) := by decide +kernel
theorem dX1_codeBlock_107 : decode cX1_codeBlock 107 = .ok (.getfield 65, 3) := by decide +kernel
theorem dX1_codeBlock_110 : decode cX1_codeBlock 110 = .ok (.iload 6, 2) := by decide +kernel
theorem dX1_codeBlock_112 : decode cX1_codeBlock 112 = .ok (.iload 7, 2) := by decide +kernel
theorem dX1_codeBlock_114 : decode cX1_codeBlock 114 = .ok (.iastore, 1) := by decide +kernel
theorem dX1_codeBlock_115 : decode cX1_codeBlock 115 = .ok (.aload_n 1, 1) := by decide +kernel
theorem dX1_codeBlock_116 : decode cX1_codeBlock 116 = .ok (.getfield 68, 3) := by decide +kernel
theorem dX1_codeBlock_119 : decode cX1_codeBlock 119 = .ok (.iload 6, 2) := by decide +kernel
theorem dX1_codeBlock_121 : decode cX1_codeBlock 121 = .ok (.aload_n 0, 1) := by decide +kernel
theorem dX1_codeBlock_122 : decode cX1_codeBlock 122 = .ok (.getfield 12, 3) := by decide +kernel
theorem dX1_codeBlock_125 : decode cX1_codeBlock 125 = .ok (.getfield 82, 3) := by decide +kernel
theorem dX1_codeBlock_128 : decode cX1_codeBlock 128 = .ok (.iastore, 1) := by decide +kernel
theorem dX1_codeBlock_129 : decode cX1_codeBlock 129 = .ok (.iinc 6 1, 3) := by decide +kernel
theorem dX1_codeBlock_132 : decode cX1_codeBlock 132 = .ok (.goto (-61), 3) := by decide +kernel
theorem dX1_codeBlock_135 : decode cX1_codeBlock 135 = .ok (.return_, 1) := by decide +kernel
theorem dX1_errorAsBlock_0 : decode cX1_errorAsBlock 0 = .ok (.iconst 0, 1) := by decide +kernel
theorem dX1_errorAsBlock_1 : decode cX1_errorAsBlock 1 = .ok (.istore 5, 2) := by decide +kernel
theorem dX1_errorAsBlock_3 : decode cX1_errorAsBlock 3 = .ok (.aload_n 0, 1) := by decide +kernel
theorem dX1_errorAsBlock_4 : decode cX1_errorAsBlock 4 = .ok (.getfield 12, 3) := by decide +kernel
theorem dX1_errorAsBlock_7 : decode cX1_errorAsBlock 7 = .ok (.aload_n 1, 1) := by decide +kernel
theorem dX1_errorAsBlock_8 : decode cX1_errorAsBlock 8 = .ok (.getfield 52, 3) := by decide +kernel
theorem dX1_errorAsBlock_11 : decode cX1_errorAsBlock 11 = .ok (.iload_n 2, 1) := by decide +kernel
theorem dX1_errorAsBlock_12 : decode cX1_errorAsBlock 12 = .ok (.iaload, 1) := by decide +kernel
theorem dX1_errorAsBlock_13 : decode cX1_errorAsBlock 13 = .ok (.iload 4, 2) := by decide +kernel
theorem dX1_errorAsBlock_15 : decode cX1_errorAsBlock 15 = .ok (.invokevirtual 71, 3) := by decide +kernel
theorem dX1_errorAsBlock_18 : decode cX1_errorAsBlock 18 = .ok (.iload_n 2, 1) := by decide +kernel
theorem dX1_errorAsBlock_19 : decode cX1_errorAsBlock 19 = .ok (.iconst 1, 1) := by decide +kernel
theorem dX1_errorAsBlock_20 : decode cX1_errorAsBlock 20 = .ok (.iadd, 1) := by decide +kernel
theorem dX1_errorAsBlock_21 : decode cX1_errorAsBlock 21 = .ok (.istore 6, 2) := by decide +kernel
theorem dX1_errorAsBlock_23 : decode cX1_errorAsBlock 23 = .ok (.iload 6, 2) := by decide +kernel
theorem dX1_errorAsBlock_25 : decode cX1_errorAsBlock 25 = .ok (.iload_n 3, 1) := by decide +kernel
theorem dX1_errorAsBlock_26 : decode cX1_errorAsBlock 26 = .ok (.if_icmp .ge 57, 3) := by decide +kernel
theorem dX1_errorAsBlock_29 : decode cX1_errorAsBlock 29 = .ok (.aload_n 0, 1) := by decide +kernel
theorem dX1_errorAsBlock_30 : decode cX1_errorAsBlock 30 = .ok (.getfield 12, 3) := by decide +kernel
theorem dX1_errorAsBlock_33 : decode cX1_errorAsBlock 33 = .ok (.aload_n 0, 1) := by decide +kernel
theorem dX1_errorAsBlock_34 : decode cX1_errorAsBlock 34 = .ok (.getfield 12, 3) := by decide +kernel
theorem dX1_errorAsBlock_37 : decode cX1_errorAsBlock 37 = .ok (.aload_n 1, 1) := by decide +kernel
theorem dX1_errorAsBlock_38 : decode cX1_errorAsBlock 38 = .ok (.getfield 52, 3) := by decide +kernel
theorem dX1_errorAsBlock_41 : decode cX1_errorAsBlock 41 = .ok (.iload 6, 2) := by decide +kernel
theorem dX1_errorAsBlock_43 : decode cX1_errorAsBlock 43 = .ok (.iaload, 1) := by decide +kernel
theorem dX1_errorAsBlock_44 : decode cX1_errorAsBlock 44 = .ok (.invokevirtual 75, 3) := by decide +kernel
theorem dX1_errorAsBlock_47 : decode cX1_errorAsBlock 47 = .ok (.invokevirtual 78, 3) := by decide +kernel
theorem dX1_errorAsBlock_50 : decode cX1_errorAsBlock 50 = .ok (.aload_n 1, 1) := by decide +kernel
theorem dX1_errorAsBlock_51 : decode cX1_errorAsBlock 51 = .ok (.getfield 52, 3) := by decide +kernel
theorem dX1_errorAsBlock_54 : decode cX1_errorAsBlock 54 = .ok (.iload 6, 2) := by decide +kernel
theorem dX1_errorAsBlock_56 : decode cX1_errorAsBlock 56 = .ok (.iaload, 1) := by decide +kernel
theorem dX1_errorAsBlock_57 : decode cX1_errorAsBlock 57 = .ok (.aload_n 0, 1) := by decide +kernel
theorem dX1_errorAsBlock_58 : decode cX1_errorAsBlock 58 = .ok (.getfield 12, 3) := by decide +kernel
theorem dX1_errorAsBlock_61 : decode cX1_errorAsBlock 61 = .ok (.getfield 82, 3) := by decide +kernel
theorem dX1_errorAsBlock_64 : decode cX1_errorAsBlock 64 = .ok (.isub, 1) := by decide +kernel
theorem dX1_errorAsBlock_65 : decode cX1_errorAsBlock 65 = .ok (.istore 7, 2) := by decide +kernel
theorem dX1_errorAsBlock_67 : decode cX1_errorAsBlock 67 = .ok (.iload 5, 2) := by decide +kernel
theorem dX1_errorAsBlock_69 : decode cX1_errorAsBlock 69 = .ok (.iload 7, 2) := by decide +kernel
theorem dX1_errorAsBlock_71 : decode cX1_errorAsBlock 71 = .ok (.iload 7, 2) := by decide +kernel
theorem dX1_errorAsBlock_73 : decode cX1_errorAsBlock 73 = .ok (.imul, 1) := by decide +kernel
theorem dX1_errorAsBlock_74 : decode cX1_errorAsBlock 74 = .ok (.iadd, 1) := by decide +kernel
theorem dX1_errorAsBlock_75 : decode cX1_errorAsBlock 75 = .ok (.istore 5, 2) := by decide +kernel
theorem dX1_errorAsBlock_77 : decode cX1_errorAsBlock 77 = .ok (.iinc 6 1, 3) := by decide +kernel
theorem dX1_errorAsBlock_80 : decode cX1_errorAsBlock 80 = .ok (.goto (-57), 3) := by decide +kernel
theorem dX1_errorAsBlock_83 : decode cX1_errorAsBlock 83 = .ok (.iload 5, 2) := by decide +kernel
theorem dX1_errorAsBlock_85 : decode cX1_errorAsBlock 85 = .ok (.ireturn, 1) := by decide +kernel
theorem dX1_bestStart_0 : decode cX1_bestStart 0 = .ok (.iconst 0, 1) := by decide +kernel
theorem dX1_bestStart_1 : decode cX1_bestStart 1 = .ok (.istore 4, 2) := by decide +kernel
theorem dX1_bestStart_3 : decode cX1_bestStart 3 = .ok (.aload_n 0, 1) := by decide +kernel
theorem dX1_bestStart_4 : decode cX1_bestStart 4 = .ok (.aload_n 1, 1) := by decide +kernel
theorem dX1_bestStart_5 : decode cX1_bestStart 5 = .ok (.iload_n 2, 1) := by decide +kernel
theorem dX1_bestStart_6 : decode cX1_bestStart 6 = .ok (.iload_n 3, 1) := by decide +kernel
theorem dX1_bestStart_7 : decode cX1_bestStart 7 = .ok (.iconst 0, 1) := by decide +kernel
theorem dX1_bestStart_8 : decode cX1_bestStart 8 = .ok (.invokevirtual 85, 3) := by decide +kernel
theorem dX1_bestStart_11 : decode cX1_bestStart 11 = .ok (.istore 5, 2) := by decide +kernel
theorem dX1_bestStart_13 : decode cX1_bestStart 13 = .ok (.iconst 1, 1) := by decide +kernel
theorem dX1_bestStart_14 : decode cX1_bestStart 14 = .ok (.istore 6, 2) := by decide +kernel
theorem dX1_bestStart_16 : decode cX1_bestStart 16 = .ok (.iload 6, 2) := by decide +kernel
theorem dX1_bestStart_18 : decode cX1_bestStart 18 = .ok (.bipush 48, 2) := by decide +kernel
theorem dX1_bestStart_20 : decode cX1_bestStart 20 = .ok (.if_icmp .gt 35, 3) := by decide +kernel
theorem dX1_bestStart_23 : decode cX1_bestStart 23 = .ok (.aload_n 0, 1) := by decide +kernel
theorem dX1_bestStart_24 : decode cX1_bestStart 24 = .ok (.aload_n 1, 1) := by decide +kernel
theorem dX1_bestStart_25 : decode cX1_bestStart 25 = .ok (.iload_n 2, 1) := by decide +kernel
theorem dX1_bestStart_26 : decode cX1_bestStart 26 = .ok (.iload_n 3, 1) := by decide +kernel
theorem dX1_bestStart_27 : decode cX1_bestStart 27 = .ok (.iload 6, 2) := by decide +kernel
theorem dX1_bestStart_29 : decode cX1_bestStart 29 = .ok (.invokevirtual 85, 3) := by decide +kernel
theorem dX1_bestStart_32 : decode cX1_bestStart 32 = .ok (.istore 7, 2) := by decide +kernel
theorem dX1_bestStart_34 : decode cX1_bestStart 34 = .ok (.iload 7, 2) := by decide +kernel
theorem dX1_bestStart_36 : decode cX1_bestStart 36 = .ok (.iload 5, 2) := by decide +kernel
theorem dX1_bestStart_38 : decode cX1_bestStart 38 = .ok (.if_icmp .ge 11, 3) := by decide +kernel
theorem dX1_bestStart_41 : decode cX1_bestStart 41 = .ok (.iload 7, 2) := by decide +kernel
theorem dX1_bestStart_43 : decode cX1_bestStart 43 = .ok (.istore 5, 2) := by decide +kernel
theorem dX1_bestStart_45 : decode cX1_bestStart 45 = .ok (.iload 6, 2) := by decide +kernel
theorem dX1_bestStart_47 : decode cX1_bestStart 47 = .ok (.istore 4, 2) := by decide +kernel
theorem dX1_bestStart_49 : decode cX1_bestStart 49 = .ok (.iinc 6 1, 3) := by decide +kernel
theorem dX1_bestStart_52 : decode cX1_bestStart 52 = .ok (.goto (-36), 3) := by decide +kernel
theorem dX1_bestStart_55 : decode cX1_bestStart 55 = .ok (.iload 4, 2) := by decide +kernel
theorem dX1_bestStart_57 : decode cX1_bestStart 57 = .ok (.ireturn, 1) := by decide +kernel
theorem dX2_init_0 : decode cX2_init 0 = .ok (.aload_n 0, 1) := by decide +kernel
theorem dX2_init_1 : decode cX2_init 1 = .ok (.invokespecial 3, 3) := by decide +kernel
theorem dX2_init_4 : decode cX2_init 4 = .ok (.aload_n 0, 1) := by decide +kernel
theorem dX2_init_5 : decode cX2_init 5 = .ok (.bipush 64, 2) := by decide +kernel
theorem dX2_init_7 : decode cX2_init 7 = .ok (.newarray .int, 2) := by decide +kernel
theorem dX2_init_9 : decode cX2_init 9 = .ok (.putfield 9, 3) := by decide +kernel
theorem dX2_init_12 : decode cX2_init 12 = .ok (.aload_n 0, 1) := by decide +kernel
theorem dX2_init_13 : decode cX2_init 13 = .ok (.bipush 64, 2) := by decide +kernel
theorem dX2_init_15 : decode cX2_init 15 = .ok (.newarray .int, 2) := by decide +kernel
theorem dX2_init_17 : decode cX2_init 17 = .ok (.putfield 15, 3) := by decide +kernel
theorem dX2_init_20 : decode cX2_init 20 = .ok (.aload_n 0, 1) := by decide +kernel
theorem dX2_init_21 : decode cX2_init 21 = .ok (.new 18, 3) := by decide +kernel
theorem dX2_init_24 : decode cX2_init 24 = .ok (.dup, 1) := by decide +kernel
theorem dX2_init_25 : decode cX2_init 25 = .ok (.invokespecial 20, 3) := by decide +kernel
theorem dX2_init_28 : decode cX2_init 28 = .ok (.putfield 21, 3) := by decide +kernel
theorem dX2_init_31 : decode cX2_init 31 = .ok (.return_, 1) := by decide +kernel
theorem dX2_decode_0 : decode cX2_decode 0 = .ok (.aload_n 0, 1) := by decide +kernel
theorem dX2_decode_1 : decode cX2_decode 1 = .ok (.getfield 25, 3) := by decide +kernel
theorem dX2_decode_4 : decode cX2_decode 4 = .ok (.ifCond .eq 4, 3) := by decide +kernel
theorem dX2_decode_7 : decode cX2_decode 7 = .ok (.return_, 1) := by decide +kernel
theorem dX2_decode_8 : decode cX2_decode 8 = .ok (.iconst 0, 1) := by decide +kernel
theorem dX2_decode_9 : decode cX2_decode 9 = .ok (.istore_n 2, 1) := by decide +kernel
theorem dX2_decode_10 : decode cX2_decode 10 = .ok (.iload_n 2, 1) := by decide +kernel
theorem dX2_decode_11 : decode cX2_decode 11 = .ok (.aload_n 1, 1) := by decide +kernel
theorem dX2_decode_12 : decode cX2_decode 12 = .ok (.getfield 29, 3) := by decide +kernel
theorem dX2_decode_15 : decode cX2_decode 15 = .ok (.if_icmp .ge 33, 3) := by decide +kernel
theorem dX2_decode_18 : decode cX2_decode 18 = .ok (.aload_n 1, 1) := by decide +kernel
theorem dX2_decode_19 : decode cX2_decode 19 = .ok (.getfield 35, 3) := by decide +kernel
theorem dX2_decode_22 : decode cX2_decode 22 = .ok (.iload_n 2, 1) := by decide +kernel
theorem dX2_decode_23 : decode cX2_decode 23 = .ok (.baload, 1) := by decide +kernel
theorem dX2_decode_24 : decode cX2_decode 24 = .ok (.ifCond .eq 12, 3) := by decide +kernel
theorem dX2_decode_27 : decode cX2_decode 27 = .ok (.aload_n 0, 1) := by decide +kernel
theorem dX2_decode_28 : decode cX2_decode 28 = .ok (.aload_n 1, 1) := by decide +kernel
theorem dX2_decode_29 : decode cX2_decode 29 = .ok (.iload_n 2, 1) := by decide +kernel
theorem dX2_decode_30 : decode cX2_decode 30 = .ok (.invokevirtual 39, 3) := by decide +kernel
theorem dX2_decode_33 : decode cX2_decode 33 = .ok (.goto 9, 3) := by decide +kernel
theorem dX2_decode_36 : decode cX2_decode 36 = .ok (.aload_n 0, 1) := by decide +kernel
theorem dX2_decode_37 : decode cX2_decode 37 = .ok (.aload_n 1, 1) := by decide +kernel
theorem dX2_decode_38 : decode cX2_decode 38 = .ok (.iload_n 2, 1) := by decide +kernel
theorem dX2_decode_39 : decode cX2_decode 39 = .ok (.invokevirtual 43, 3) := by decide +kernel
theorem dX2_decode_42 : decode cX2_decode 42 = .ok (.iinc 2 1, 3) := by decide +kernel
theorem dX2_decode_45 : decode cX2_decode 45 = .ok (.goto (-35), 3) := by decide +kernel
theorem dX2_decode_48 : decode cX2_decode 48 = .ok (.aload_n 0, 1) := by decide +kernel
theorem dX2_decode_49 : decode cX2_decode 49 = .ok (.iconst 1, 1) := by decide +kernel
theorem dX2_decode_50 : decode cX2_decode 50 = .ok (.putfield 25, 3) := by decide +kernel
theorem dX2_decode_53 : decode cX2_decode 53 = .ok (.return_, 1) := by decide +kernel
theorem dX2_decodeBlock_0 : decode cX2_decodeBlock 0 = .ok (.aload_n 1, 1) := by decide +kernel
theorem dX2_decodeBlock_1 : decode cX2_decodeBlock 1 = .ok (.iload_n 2, 1) := by decide +kernel
theorem dX2_decodeBlock_2 : decode cX2_decodeBlock 2 = .ok (.invokevirtual 46, 3) := by decide +kernel
theorem dX2_decodeBlock_5 : decode cX2_decodeBlock 5 = .ok (.istore_n 3, 1) := by decide +kernel
theorem dX2_decodeBlock_6 : decode cX2_decodeBlock 6 = .ok (.aload_n 0, 1) := by decide +kernel
theorem dX2_decodeBlock_7 : decode cX2_decodeBlock 7 = .ok (.getfield 21, 3) := by decide +kernel
theorem dX2_decodeBlock_10 : decode cX2_decodeBlock 10 = .ok (.aload_n 1, 1) := by decide +kernel
theorem dX2_decodeBlock_11 : decode cX2_decodeBlock 11 = .ok (.getfield 50, 3) := by decide +kernel
theorem dX2_decodeBlock_14 : decode cX2_decodeBlock 14 = .ok (.iload_n 2, 1) := by decide +kernel
theorem dX2_decodeBlock_15 : decode cX2_decodeBlock 15 = .ok (.iaload, 1) := by decide +kernel
theorem dX2_decodeBlock_16 : decode cX2_decodeBlock 16 = .ok (.aload_n 1, 1) := by decide +kernel
theorem dX2_decodeBlock_17 : decode cX2_decodeBlock 17 = .ok (.getfield 53, 3) := by decide +kernel
theorem dX2_decodeBlock_20 : decode cX2_decodeBlock 20 = .ok (.iload_n 2, 1) := by decide +kernel
theorem dX2_decodeBlock_21 : decode cX2_decodeBlock 21 = .ok (.iaload, 1) := by decide +kernel
theorem dX2_decodeBlock_22 : decode cX2_decodeBlock 22 = .ok (.invokevirtual 56, 3) := by decide +kernel
theorem dX2_decodeBlock_25 : decode cX2_decodeBlock 25 = .ok (.iload_n 3, 1) := by decide +kernel
theorem dX2_decodeBlock_26 : decode cX2_decodeBlock 26 = .ok (.istore 4, 2) := by decide +kernel
theorem dX2_decodeBlock_28 : decode cX2_decodeBlock 28 = .ok (.iload 4, 2) := by decide +kernel
theorem dX2_decodeBlock_30 : decode cX2_decodeBlock 30 = .ok (.aload_n 1, 1) := by decide +kernel
theorem dX2_decodeBlock_31 : decode cX2_decodeBlock 31 = .ok (.iload_n 2, 1) := by decide +kernel
theorem dX2_decodeBlock_32 : decode cX2_decodeBlock 32 = .ok (.invokevirtual 60, 3) := by decide +kernel
theorem dX2_decodeBlock_35 : decode cX2_decodeBlock 35 = .ok (.if_icmp .ge 57, 3) := by decide +kernel
theorem dX2_decodeBlock_38 : decode cX2_decodeBlock 38 = .ok (.iload 4, 2) := by decide +kernel
theorem dX2_decodeBlock_40 : decode cX2_decodeBlock 40 = .ok (.iload_n 3, 1) := by decide +kernel
theorem dX2_decodeBlock_41 : decode cX2_decodeBlock 41 = .ok (.if_icmp .le 17, 3) := by decide +kernel
theorem dX2_decodeBlock_44 : decode cX2_decodeBlock 44 = .ok (.aload_n 0, 1) := by decide +kernel
theorem dX2_decodeBlock_45 : decode cX2_decodeBlock 45 = .ok (.getfield 21, 3) := by decide +kernel
theorem dX2_decodeBlock_48 : decode cX2_decodeBlock 48 = .ok (.aload_n 1, 1) := by decide +kernel
theorem dX2_decodeBlock_49 : decode cX2_decodeBlock 49 = .ok (.getfield 63, 3) := by decide +kernel
theorem dX2_decodeBlock_52 : decode cX2_decodeBlock 52 = .ok (.iload 4, 2) := by decide +kernel
theorem dX2_decodeBlock_54 : decode cX2_decodeBlock 54 = .ok (.iaload, 1) := by decide +kernel
theorem dX2_decodeBlock_55 : decode cX2_decodeBlock 55 = .ok (.invokevirtual 66, 3) := by decide +kernel
theorem dX2_decodeBlock_58 : decode cX2_decodeBlock 58 = .ok (.aload_n 0, 1) := by decide +kernel
theorem dX2_decodeBlock_59 : decode cX2_decodeBlock 59 = .ok (.getfield 9, 3) := by decide +kernel
theorem dX2_decodeBlock_62 : decode cX2_decodeBlock 62 = .ok (.iload 4, 2) := by decide +kernel
theorem dX2_decodeBlock_64 : decode cX2_decodeBlock 64 = .ok (.aload_n 0, 1) := by decide +kernel
theorem dX2_decodeBlock_65 : decode cX2_decodeBlock 65 = .ok (.getfield 21, 3) := by decide +kernel
theorem dX2_decodeBlock_68 : decode cX2_decodeBlock 68 = .ok (.getfield 70, 3) := by decide +kernel
theorem dX2_decodeBlock_71 : decode cX2_decodeBlock 71 = .ok (.iastore, 1) := by decide +kernel
theorem dX2_decodeBlock_72 : decode cX2_decodeBlock 72 = .ok (.aload_n 0, 1) := by decide +kernel
theorem dX2_decodeBlock_73 : decode cX2_decodeBlock 73 = .ok (.getfield 15, 3) := by decide +kernel
theorem dX2_decodeBlock_76 : decode cX2_decodeBlock 76 = .ok (.iload 4, 2) := by decide +kernel
theorem dX2_decodeBlock_78 : decode cX2_decodeBlock 78 = .ok (.aload_n 0, 1) := by decide +kernel
theorem dX2_decodeBlock_79 : decode cX2_decodeBlock 79 = .ok (.getfield 21, 3) := by decide +kernel
theorem dX2_decodeBlock_82 : decode cX2_decodeBlock 82 = .ok (.getfield 73, 3) := by decide +kernel
theorem dX2_decodeBlock_85 : decode cX2_decodeBlock 85 = .ok (.iastore, 1) := by decide +kernel
theorem dX2_decodeBlock_86 : decode cX2_decodeBlock 86 = .ok (.iinc 4 1, 3) := by decide +kernel
theorem dX2_decodeBlock_89 : decode cX2_decodeBlock 89 = .ok (.goto (-61), 3) := by decide +kernel
theorem dX2_decodeBlock_92 : decode cX2_decodeBlock 92 = .ok (.return_, 1) := by decide +kernel
theorem dX2_fillBlock_0 : decode cX2_fillBlock 0 = .ok (.aload_n 1, 1) := by decide +kernel
theorem dX2_fillBlock_1 : decode cX2_fillBlock 1 = .ok (.iload_n 2, 1) := by decide +kernel
theorem dX2_fillBlock_2 : decode cX2_fillBlock 2 = .ok (.invokevirtual 46, 3) := by decide +kernel
theorem dX2_fillBlock_5 : decode cX2_fillBlock 5 = .ok (.istore_n 3, 1) := by decide +kernel
theorem dX2_fillBlock_6 : decode cX2_fillBlock 6 = .ok (.iload_n 3, 1) := by decide +kernel
theorem dX2_fillBlock_7 : decode cX2_fillBlock 7 = .ok (.aload_n 1, 1) := by decide +kernel
theorem dX2_fillBlock_8 : decode cX2_fillBlock 8 = .ok (.iload_n 2, 1) := by decide +kernel
theorem dX2_fillBlock_9 : decode cX2_fillBlock 9 = .ok (.invokevirtual 60, 3) := by decide +kernel
theorem dX2_fillBlock_12 : decode cX2_fillBlock 12 = .ok (.if_icmp .ge 29, 3) := by decide +kernel
theorem dX2_fillBlock_15 : decode cX2_fillBlock 15 = .ok (.aload_n 0, 1) := by decide +kernel
theorem dX2_fillBlock_16 : decode cX2_fillBlock 16 = .ok (.getfield 9, 3) := by decide +kernel
theorem dX2_fillBlock_19 : decode cX2_fillBlock 19 = .ok (.iload_n 3, 1) := by decide +kernel
theorem dX2_fillBlock_20 : decode cX2_fillBlock 20 = .ok (.aload_n 0, 1) := by decide +kernel
theorem dX2_fillBlock_21 : decode cX2_fillBlock 21 = .ok (.aload_n 1, 1) := by decide +kernel
theorem dX2_fillBlock_22 : decode cX2_fillBlock 22 = .ok (.iload_n 2, 1) := by decide +kernel
theorem dX2_fillBlock_23 : decode cX2_fillBlock 23 = .ok (.iload_n 3, 1) := by decide +kernel
theorem dX2_fillBlock_24 : decode cX2_fillBlock 24 = .ok (.invokevirtual 76, 3) := by decide +kernel
theorem dX2_fillBlock_27 : decode cX2_fillBlock 27 = .ok (.iastore, 1) := by decide +kernel
theorem dX2_fillBlock_28 : decode cX2_fillBlock 28 = .ok (.aload_n 0, 1) := by decide +kernel
theorem dX2_fillBlock_29 : decode cX2_fillBlock 29 = .ok (.getfield 15, 3) := by decide +kernel
theorem dX2_fillBlock_32 : decode cX2_fillBlock 32 = .ok (.iload_n 3, 1) := by decide +kernel
theorem dX2_fillBlock_33 : decode cX2_fillBlock 33 = .ok (.iconst (-1), 1) := by decide +kernel
theorem dX2_fillBlock_34 : decode cX2_fillBlock 34 = .ok (.iastore, 1) := by decide +kernel
theorem dX2_fillBlock_35 : decode cX2_fillBlock 35 = .ok (.iinc 3 1, 3) := by decide +kernel
theorem dX2_fillBlock_38 : decode cX2_fillBlock 38 = .ok (.goto (-32), 3) := by decide +kernel
theorem dX2_fillBlock_41 : decode cX2_fillBlock 41 = .ok (.return_, 1) := by decide +kernel
theorem dX2_fillingOf_0 : decode cX2_fillingOf 0 = .ok (.aload_n 1, 1) := by decide +kernel
theorem dX2_fillingOf_1 : decode cX2_fillingOf 1 = .ok (.getfield 80, 3) := by decide +kernel
theorem dX2_fillingOf_4 : decode cX2_fillingOf 4 = .ok (.iconst 2, 1) := by decide +kernel
theorem dX2_fillingOf_5 : decode cX2_fillingOf 5 = .ok (.iaload, 1) := by decide +kernel
theorem dX2_fillingOf_6 : decode cX2_fillingOf 6 = .ok (.istore 4, 2) := by decide +kernel
theorem dX2_fillingOf_8 : decode cX2_fillingOf 8 = .ok (.iload_n 2, 1) := by decide +kernel
theorem dX2_fillingOf_9 : decode cX2_fillingOf 9 = .ok (.ifCond .eq 9, 3) := by decide +kernel
theorem dX2_fillingOf_12 : decode cX2_fillingOf 12 = .ok (.iload 4, 2) := by decide +kernel
theorem dX2_fillingOf_14 : decode cX2_fillingOf 14 = .ok (.iconst 1, 1) := by decide +kernel
theorem dX2_fillingOf_15 : decode cX2_fillingOf 15 = .ok (.if_icmp .ne 5, 3) := by decide +kernel
theorem dX2_fillingOf_18 : decode cX2_fillingOf 18 = .ok (.iconst 0, 1) := by decide +kernel
theorem dX2_fillingOf_19 : decode cX2_fillingOf 19 = .ok (.ireturn, 1) := by decide +kernel
theorem dX2_fillingOf_20 : decode cX2_fillingOf 20 = .ok (.iload 4, 2) := by decide +kernel
theorem dX2_fillingOf_22 : decode cX2_fillingOf 22 = .ok (.ifCond .ne 16, 3) := by decide +kernel
theorem dX2_fillingOf_25 : decode cX2_fillingOf 25 = .ok (.aload_n 0, 1) := by decide +kernel
theorem dX2_fillingOf_26 : decode cX2_fillingOf 26 = .ok (.getfield 9, 3) := by decide +kernel
theorem dX2_fillingOf_29 : decode cX2_fillingOf 29 = .ok (.aload_n 1, 1) := by decide +kernel
theorem dX2_fillingOf_30 : decode cX2_fillingOf 30 = .ok (.iload_n 2, 1) := by decide +kernel
theorem dX2_fillingOf_31 : decode cX2_fillingOf 31 = .ok (.invokevirtual 46, 3) := by decide +kernel
theorem dX2_fillingOf_34 : decode cX2_fillingOf 34 = .ok (.iconst 1, 1) := by decide +kernel
theorem dX2_fillingOf_35 : decode cX2_fillingOf 35 = .ok (.isub, 1) := by decide +kernel
theorem dX2_fillingOf_36 : decode cX2_fillingOf 36 = .ok (.iaload, 1) := by decide +kernel
theorem dX2_fillingOf_37 : decode cX2_fillingOf 37 = .ok (.ireturn, 1) := by decide +kernel
theorem dX2_fillingOf_38 : decode cX2_fillingOf 38 = .ok (.aload_n 0, 1) := by decide +kernel
theorem dX2_fillingOf_39 : decode cX2_fillingOf 39 = .ok (.getfield 9, 3) := by decide +kernel
theorem dX2_fillingOf_42 : decode cX2_fillingOf 42 = .ok (.iload_n 3, 1) := by decide +kernel
theorem dX2_fillingOf_43 : decode cX2_fillingOf 43 = .ok (.aload_n 1, 1) := by decide +kernel
theorem dX2_fillingOf_44 : decode cX2_fillingOf 44 = .ok (.getfield 80, 3) := by decide +kernel
theorem dX2_fillingOf_47 : decode cX2_fillingOf 47 = .ok (.iconst 0, 1) := by decide +kernel
theorem dX2_fillingOf_48 : decode cX2_fillingOf 48 = .ok (.iaload, 1) := by decide +kernel
theorem dX2_fillingOf_49 : decode cX2_fillingOf 49 = .ok (.isub, 1) := by decide +kernel
theorem dX2_fillingOf_50 : decode cX2_fillingOf 50 = .ok (.iaload, 1) := by decide +kernel
theorem dX2_fillingOf_51 : decode cX2_fillingOf 51 = .ok (.ireturn, 1) := by decide +kernel
theorem dX2_errorOf_0 : decode cX2_errorOf 0 = .ok (.iconst 0, 1) := by decide +kernel
theorem dX2_errorOf_1 : decode cX2_errorOf 1 = .ok (.istore 4, 2) := by decide +kernel
theorem dX2_errorOf_3 : decode cX2_errorOf 3 = .ok (.iload_n 2, 1) := by decide +kernel
theorem dX2_errorOf_4 : decode cX2_errorOf 4 = .ok (.istore 5, 2) := by decide +kernel
theorem dX2_errorOf_6 : decode cX2_errorOf 6 = .ok (.iload 5, 2) := by decide +kernel
theorem dX2_errorOf_8 : decode cX2_errorOf 8 = .ok (.iload_n 3, 1) := by decide +kernel
theorem dX2_errorOf_9 : decode cX2_errorOf 9 = .ok (.if_icmp .ge 36, 3) := by decide +kernel
theorem dX2_errorOf_12 : decode cX2_errorOf 12 = .ok (.aload_n 1, 1) := by decide +kernel
theorem dX2_errorOf_13 : decode cX2_errorOf 13 = .ok (.getfield 83, 3) := by decide +kernel
theorem dX2_errorOf_16 : decode cX2_errorOf 16 = .ok (.iload 5, 2) := by decide +kernel
theorem dX2_errorOf_18 : decode cX2_errorOf 18 = .ok (.iaload, 1) := by decide +kernel
theorem dX2_errorOf_19 : decode cX2_errorOf 19 = .ok (.aload_n 0, 1) := by decide +kernel
theorem dX2_errorOf_20 : decode cX2_errorOf 20 = .ok (.getfield 9, 3) := by decide +kernel
theorem dX2_errorOf_23 : decode cX2_errorOf 23 = .ok (.iload 5, 2) := by decide +kernel
theorem dX2_errorOf_25 : decode cX2_errorOf 25 = .ok (.iaload, 1) := by decide +kernel
theorem dX2_errorOf_26 : decode cX2_errorOf 26 = .ok (.isub, 1) := by decide +kernel
theorem dX2_errorOf_27 : decode cX2_errorOf 27 = .ok (.istore 6, 2) := by decide +kernel
theorem dX2_errorOf_29 : decode cX2_errorOf 29 = .ok (.iload 4, 2) := by decide +kernel
theorem dX2_errorOf_31 : decode cX2_errorOf 31 = .ok (.iload 6, 2) := by decide +kernel
theorem dX2_errorOf_33 : decode cX2_errorOf 33 = .ok (.iload 6, 2) := by decide +kernel
theorem dX2_errorOf_35 : decode cX2_errorOf 35 = .ok (.imul, 1) := by decide +kernel
theorem dX2_errorOf_36 : decode cX2_errorOf 36 = .ok (.iadd, 1) := by decide +kernel
theorem dX2_errorOf_37 : decode cX2_errorOf 37 = .ok (.istore 4, 2) := by decide +kernel
theorem dX2_errorOf_39 : decode cX2_errorOf 39 = .ok (.iinc 5 1, 3) := by decide +kernel
theorem dX2_errorOf_42 : decode cX2_errorOf 42 = .ok (.goto (-36), 3) := by decide +kernel
theorem dX2_errorOf_45 : decode cX2_errorOf 45 = .ok (.iload 4, 2) := by decide +kernel
theorem dX2_errorOf_47 : decode cX2_errorOf 47 = .ok (.ireturn, 1) := by decide +kernel
theorem dX2_greatestDifference_0 : decode cX2_greatestDifference 0 = .ok (.iconst 0, 1) := by decide +kernel
theorem dX2_greatestDifference_1 : decode cX2_greatestDifference 1 = .ok (.istore_n 2, 1) := by decide +kernel
theorem dX2_greatestDifference_2 : decode cX2_greatestDifference 2 = .ok (.iconst 0, 1) := by decide +kernel
theorem dX2_greatestDifference_3 : decode cX2_greatestDifference 3 = .ok (.istore_n 3, 1) := by decide +kernel
theorem dX2_greatestDifference_4 : decode cX2_greatestDifference 4 = .ok (.iload_n 3, 1) := by decide +kernel
theorem dX2_greatestDifference_5 : decode cX2_greatestDifference 5 = .ok (.aload_n 1, 1) := by decide +kernel
theorem dX2_greatestDifference_6 : decode cX2_greatestDifference 6 = .ok (.getfield 86, 3) := by decide +kernel
theorem dX2_greatestDifference_9 : decode cX2_greatestDifference 9 = .ok (.if_icmp .ge 30, 3) := by decide +kernel
theorem dX2_greatestDifference_12 : decode cX2_greatestDifference 12 = .ok (.iload_n 2, 1) := by decide +kernel
theorem dX2_greatestDifference_13 : decode cX2_greatestDifference 13 = .ok (.aload_n 1, 1) := by decide +kernel
theorem dX2_greatestDifference_14 : decode cX2_greatestDifference 14 = .ok (.getfield 83, 3) := by decide +kernel
theorem dX2_greatestDifference_17 : decode cX2_greatestDifference 17 = .ok (.iload_n 3, 1) := by decide +kernel
theorem dX2_greatestDifference_18 : decode cX2_greatestDifference 18 = .ok (.iaload, 1) := by decide +kernel
theorem dX2_greatestDifference_19 : decode cX2_greatestDifference 19 = .ok (.aload_n 0, 1) := by decide +kernel
theorem dX2_greatestDifference_20 : decode cX2_greatestDifference 20 = .ok (.getfield 9, 3) := by decide +kernel
theorem dX2_greatestDifference_23 : decode cX2_greatestDifference 23 = .ok (.iload_n 3, 1) := by decide +kernel
theorem dX2_greatestDifference_24 : decode cX2_greatestDifference 24 = .ok (.iaload, 1) := by decide +kernel
theorem dX2_greatestDifference_25 : decode cX2_greatestDifference 25 = .ok (.isub, 1) := by decide +kernel
theorem dX2_greatestDifference_26 : decode cX2_greatestDifference 26 = .ok (.invokestatic 89, 3) := by decide +kernel
theorem dX2_greatestDifference_29 : decode cX2_greatestDifference 29 = .ok (.invokestatic 94, 3) := by decide +kernel
theorem dX2_greatestDifference_32 : decode cX2_greatestDifference 32 = .ok (.istore_n 2, 1) := by decide +kernel
theorem dX2_greatestDifference_33 : decode cX2_greatestDifference 33 = .ok (.iinc 3 1, 3) := by decide +kernel
theorem dX2_greatestDifference_36 : decode cX2_greatestDifference 36 = .ok (.goto (-32), 3) := by decide +kernel
theorem dX2_greatestDifference_39 : decode cX2_greatestDifference 39 = .ok (.iload_n 2, 1) := by decide +kernel
theorem dX2_greatestDifference_40 : decode cX2_greatestDifference 40 = .ok (.ireturn, 1) := by decide +kernel
theorem dX2_justAsTheyAre_0 : decode cX2_justAsTheyAre 0 = .ok (.iconst 0, 1) := by decide +kernel
theorem dX2_justAsTheyAre_1 : decode cX2_justAsTheyAre 1 = .ok (.istore_n 2, 1) := by decide +kernel
theorem dX2_justAsTheyAre_2 : decode cX2_justAsTheyAre 2 = .ok (.iconst 0, 1) := by decide +kernel
theorem dX2_justAsTheyAre_3 : decode cX2_justAsTheyAre 3 = .ok (.istore_n 3, 1) := by decide +kernel
theorem dX2_justAsTheyAre_4 : decode cX2_justAsTheyAre 4 = .ok (.iload_n 3, 1) := by decide +kernel
theorem dX2_justAsTheyAre_5 : decode cX2_justAsTheyAre 5 = .ok (.aload_n 1, 1) := by decide +kernel
theorem dX2_justAsTheyAre_6 : decode cX2_justAsTheyAre 6 = .ok (.getfield 86, 3) := by decide +kernel
theorem dX2_justAsTheyAre_9 : decode cX2_justAsTheyAre 9 = .ok (.if_icmp .ge 27, 3) := by decide +kernel
theorem dX2_justAsTheyAre_12 : decode cX2_justAsTheyAre 12 = .ok (.aload_n 1, 1) := by decide +kernel
theorem dX2_justAsTheyAre_13 : decode cX2_justAsTheyAre 13 = .ok (.getfield 83, 3) := by decide +kernel
theorem dX2_justAsTheyAre_16 : decode cX2_justAsTheyAre 16 = .ok (.iload_n 3, 1) := by decide +kernel
theorem dX2_justAsTheyAre_17 : decode cX2_justAsTheyAre 17 = .ok (.iaload, 1) := by decide +kernel
theorem dX2_justAsTheyAre_18 : decode cX2_justAsTheyAre 18 = .ok (.aload_n 0, 1) := by decide +kernel
theorem dX2_justAsTheyAre_19 : decode cX2_justAsTheyAre 19 = .ok (.getfield 9, 3) := by decide +kernel
theorem dX2_justAsTheyAre_22 : decode cX2_justAsTheyAre 22 = .ok (.iload_n 3, 1) := by decide +kernel
theorem dX2_justAsTheyAre_23 : decode cX2_justAsTheyAre 23 = .ok (.iaload, 1) := by decide +kernel
theorem dX2_justAsTheyAre_24 : decode cX2_justAsTheyAre 24 = .ok (.if_icmp .ne 6, 3) := by decide +kernel
theorem dX2_justAsTheyAre_27 : decode cX2_justAsTheyAre 27 = .ok (.iinc 2 1, 3) := by decide +kernel
theorem dX2_justAsTheyAre_30 : decode cX2_justAsTheyAre 30 = .ok (.iinc 3 1, 3) := by decide +kernel
theorem dX2_justAsTheyAre_33 : decode cX2_justAsTheyAre 33 = .ok (.goto (-29), 3) := by decide +kernel
theorem dX2_justAsTheyAre_36 : decode cX2_justAsTheyAre 36 = .ok (.iload_n 2, 1) := by decide +kernel
theorem dX2_justAsTheyAre_37 : decode cX2_justAsTheyAre 37 = .ok (.ireturn, 1) := by decide +kernel
theorem dX2_othersThan_0 : decode cX2_othersThan 0 = .ok (.iconst 0, 1) := by decide +kernel
theorem dX2_othersThan_1 : decode cX2_othersThan 1 = .ok (.istore_n 3, 1) := by decide +kernel
theorem dX2_othersThan_2 : decode cX2_othersThan 2 = .ok (.iconst 0, 1) := by decide +kernel
theorem dX2_othersThan_3 : decode cX2_othersThan 3 = .ok (.istore 4, 2) := by decide +kernel
theorem dX2_othersThan_5 : decode cX2_othersThan 5 = .ok (.iload 4, 2) := by decide +kernel
theorem dX2_othersThan_7 : decode cX2_othersThan 7 = .ok (.iload_n 2, 1) := by decide +kernel
theorem dX2_othersThan_8 : decode cX2_othersThan 8 = .ok (.if_icmp .ge 29, 3) := by decide +kernel
theorem dX2_othersThan_11 : decode cX2_othersThan 11 = .ok (.aload_n 0, 1) := by decide +kernel
theorem dX2_othersThan_12 : decode cX2_othersThan 12 = .ok (.getfield 9, 3) := by decide +kernel
theorem dX2_othersThan_15 : decode cX2_othersThan 15 = .ok (.iload 4, 2) := by decide +kernel
theorem dX2_othersThan_17 : decode cX2_othersThan 17 = .ok (.iaload, 1) := by decide +kernel
theorem dX2_othersThan_18 : decode cX2_othersThan 18 = .ok (.aload_n 1, 1) := by decide +kernel
theorem dX2_othersThan_19 : decode cX2_othersThan 19 = .ok (.getfield 9, 3) := by decide +kernel
theorem dX2_othersThan_22 : decode cX2_othersThan 22 = .ok (.iload 4, 2) := by decide +kernel
theorem dX2_othersThan_24 : decode cX2_othersThan 24 = .ok (.iaload, 1) := by decide +kernel
theorem dX2_othersThan_25 : decode cX2_othersThan 25 = .ok (.if_icmp .eq 6, 3) := by decide +kernel
theorem dX2_othersThan_28 : decode cX2_othersThan 28 = .ok (.iinc 3 1, 3) := by decide +kernel
theorem dX2_othersThan_31 : decode cX2_othersThan 31 = .ok (.iinc 4 1, 3) := by decide +kernel
theorem dX2_othersThan_34 : decode cX2_othersThan 34 = .ok (.goto (-29), 3) := by decide +kernel
theorem dX2_othersThan_37 : decode cX2_othersThan 37 = .ok (.iload_n 3, 1) := by decide +kernel
theorem dX2_othersThan_38 : decode cX2_othersThan 38 = .ok (.ireturn, 1) := by decide +kernel
theorem dX3_init_0 : decode cX3_init 0 = .ok (.aload_n 0, 1) := by decide +kernel
theorem dX3_init_1 : decode cX3_init 1 = .ok (.invokespecial 3, 3) := by decide +kernel
theorem dX3_init_4 : decode cX3_init 4 = .ok (.aload_n 0, 1) := by decide +kernel
theorem dX3_init_5 : decode cX3_init 5 = .ok (.bipush 6, 2) := by decide +kernel
theorem dX3_init_7 : decode cX3_init 7 = .ok (.anewarray 9, 3) := by decide +kernel
theorem dX3_init_10 : decode cX3_init 10 = .ok (.dup, 1) := by decide +kernel
theorem dX3_init_11 : decode cX3_init 11 = .ok (.iconst 0, 1) := by decide +kernel
theorem dX3_init_12 : decode cX3_init 12 = .ok (.new 9, 3) := by decide +kernel
theorem dX3_init_15 : decode cX3_init 15 = .ok (.dup, 1) := by decide +kernel
theorem dX3_init_16 : decode cX3_init 16 = .ok (.invokespecial 11, 3) := by decide +kernel
theorem dX3_init_19 : decode cX3_init 19 = .ok (.aastore, 1) := by decide +kernel
theorem dX3_init_20 : decode cX3_init 20 = .ok (.dup, 1) := by decide +kernel
theorem dX3_init_21 : decode cX3_init 21 = .ok (.iconst 1, 1) := by decide +kernel
theorem dX3_init_22 : decode cX3_init 22 = .ok (.new 9, 3) := by decide +kernel
theorem dX3_init_25 : decode cX3_init 25 = .ok (.dup, 1) := by decide +kernel
theorem dX3_init_26 : decode cX3_init 26 = .ok (.invokespecial 11, 3) := by decide +kernel
theorem dX3_init_29 : decode cX3_init 29 = .ok (.aastore, 1) := by decide +kernel
theorem dX3_init_30 : decode cX3_init 30 = .ok (.dup, 1) := by decide +kernel
theorem dX3_init_31 : decode cX3_init 31 = .ok (.iconst 2, 1) := by decide +kernel
theorem dX3_init_32 : decode cX3_init 32 = .ok (.new 9, 3) := by decide +kernel
theorem dX3_init_35 : decode cX3_init 35 = .ok (.dup, 1) := by decide +kernel
theorem dX3_init_36 : decode cX3_init 36 = .ok (.invokespecial 11, 3) := by decide +kernel
theorem dX3_init_39 : decode cX3_init 39 = .ok (.aastore, 1) := by decide +kernel
theorem dX3_init_40 : decode cX3_init 40 = .ok (.dup, 1) := by decide +kernel
theorem dX3_init_41 : decode cX3_init 41 = .ok (.iconst 3, 1) := by decide +kernel
theorem dX3_init_42 : decode cX3_init 42 = .ok (.new 9, 3) := by decide +kernel
theorem dX3_init_45 : decode cX3_init 45 = .ok (.dup, 1) := by decide +kernel
theorem dX3_init_46 : decode cX3_init 46 = .ok (.invokespecial 11, 3) := by decide +kernel
theorem dX3_init_49 : decode cX3_init 49 = .ok (.aastore, 1) := by decide +kernel
theorem dX3_init_50 : decode cX3_init 50 = .ok (.dup, 1) := by decide +kernel
theorem dX3_init_51 : decode cX3_init 51 = .ok (.iconst 4, 1) := by decide +kernel
theorem dX3_init_52 : decode cX3_init 52 = .ok (.new 9, 3) := by decide +kernel
theorem dX3_init_55 : decode cX3_init 55 = .ok (.dup, 1) := by decide +kernel
theorem dX3_init_56 : decode cX3_init 56 = .ok (.invokespecial 11, 3) := by decide +kernel
theorem dX3_init_59 : decode cX3_init 59 = .ok (.aastore, 1) := by decide +kernel
theorem dX3_init_60 : decode cX3_init 60 = .ok (.dup, 1) := by decide +kernel
theorem dX3_init_61 : decode cX3_init 61 = .ok (.iconst 5, 1) := by decide +kernel
theorem dX3_init_62 : decode cX3_init 62 = .ok (.new 9, 3) := by decide +kernel
theorem dX3_init_65 : decode cX3_init 65 = .ok (.dup, 1) := by decide +kernel
theorem dX3_init_66 : decode cX3_init 66 = .ok (.invokespecial 11, 3) := by decide +kernel
theorem dX3_init_69 : decode cX3_init 69 = .ok (.aastore, 1) := by decide +kernel
theorem dX3_init_70 : decode cX3_init 70 = .ok (.putfield 12, 3) := by decide +kernel
theorem dX3_init_73 : decode cX3_init 73 = .ok (.return_, 1) := by decide +kernel
theorem dX3_save_0 : decode cX3_save 0 = .ok (.aload_n 0, 1) := by decide +kernel
theorem dX3_save_1 : decode cX3_save 1 = .ok (.getfield 18, 3) := by decide +kernel
theorem dX3_save_4 : decode cX3_save 4 = .ok (.bipush 6, 2) := by decide +kernel
theorem dX3_save_6 : decode cX3_save 6 = .ok (.if_icmp .ne 7, 3) := by decide +kernel
theorem dX3_save_9 : decode cX3_save 9 = .ok (.aload_n 0, 1) := by decide +kernel
theorem dX3_save_10 : decode cX3_save 10 = .ok (.invokevirtual 22, 3) := by decide +kernel
theorem dX3_save_13 : decode cX3_save 13 = .ok (.aload_n 0, 1) := by decide +kernel
theorem dX3_save_14 : decode cX3_save 14 = .ok (.getfield 12, 3) := by decide +kernel
theorem dX3_save_17 : decode cX3_save 17 = .ok (.aload_n 0, 1) := by decide +kernel
theorem dX3_save_18 : decode cX3_save 18 = .ok (.getfield 18, 3) := by decide +kernel
theorem dX3_save_21 : decode cX3_save 21 = .ok (.aaload, 1) := by decide +kernel
theorem dX3_save_22 : decode cX3_save 22 = .ok (.aload_n 1, 1) := by decide +kernel
theorem dX3_save_23 : decode cX3_save 23 = .ok (.invokevirtual 25, 3) := by decide +kernel
theorem dX3_save_26 : decode cX3_save 26 = .ok (.aload_n 0, 1) := by decide +kernel
theorem dX3_save_27 : decode cX3_save 27 = .ok (.dup, 1) := by decide +kernel
theorem dX3_save_28 : decode cX3_save 28 = .ok (.getfield 18, 3) := by decide +kernel
theorem dX3_save_31 : decode cX3_save 31 = .ok (.iconst 1, 1) := by decide +kernel
theorem dX3_save_32 : decode cX3_save 32 = .ok (.iadd, 1) := by decide +kernel
theorem dX3_save_33 : decode cX3_save 33 = .ok (.putfield 18, 3) := by decide +kernel
theorem dX3_save_36 : decode cX3_save 36 = .ok (.return_, 1) := by decide +kernel
theorem dX3_restore_0 : decode cX3_restore 0 = .ok (.aload_n 0, 1) := by decide +kernel
theorem dX3_restore_1 : decode cX3_restore 1 = .ok (.dup, 1) := by decide +kernel
theorem dX3_restore_2 : decode cX3_restore 2 = .ok (.getfield 18, 3) := by decide +kernel
theorem dX3_restore_5 : decode cX3_restore 5 = .ok (.iconst 1, 1) := by decide +kernel
theorem dX3_restore_6 : decode cX3_restore 6 = .ok (.isub, 1) := by decide +kernel
theorem dX3_restore_7 : decode cX3_restore 7 = .ok (.putfield 18, 3) := by decide +kernel
theorem dX3_restore_10 : decode cX3_restore 10 = .ok (.aload_n 1, 1) := by decide +kernel
theorem dX3_restore_11 : decode cX3_restore 11 = .ok (.aload_n 0, 1) := by decide +kernel
theorem dX3_restore_12 : decode cX3_restore 12 = .ok (.getfield 12, 3) := by decide +kernel
theorem dX3_restore_15 : decode cX3_restore 15 = .ok (.aload_n 0, 1) := by decide +kernel
theorem dX3_restore_16 : decode cX3_restore 16 = .ok (.getfield 18, 3) := by decide +kernel
theorem dX3_restore_19 : decode cX3_restore 19 = .ok (.aaload, 1) := by decide +kernel
theorem dX3_restore_20 : decode cX3_restore 20 = .ok (.invokevirtual 25, 3) := by decide +kernel
theorem dX3_restore_23 : decode cX3_restore 23 = .ok (.return_, 1) := by decide +kernel
theorem dX3_dropOldest_0 : decode cX3_dropOldest 0 = .ok (.aload_n 0, 1) := by decide +kernel
theorem dX3_dropOldest_1 : decode cX3_dropOldest 1 = .ok (.getfield 12, 3) := by decide +kernel
theorem dX3_dropOldest_4 : decode cX3_dropOldest 4 = .ok (.iconst 0, 1) := by decide +kernel
theorem dX3_dropOldest_5 : decode cX3_dropOldest 5 = .ok (.aaload, 1) := by decide +kernel
theorem dX3_dropOldest_6 : decode cX3_dropOldest 6 = .ok (.astore_n 1, 1) := by decide +kernel
theorem dX3_dropOldest_7 : decode cX3_dropOldest 7 = .ok (.iconst 1, 1) := by decide +kernel
theorem dX3_dropOldest_8 : decode cX3_dropOldest 8 = .ok (.istore_n 2, 1) := by decide +kernel
theorem dX3_dropOldest_9 : decode cX3_dropOldest 9 = .ok (.iload_n 2, 1) := by decide +kernel
theorem dX3_dropOldest_10 : decode cX3_dropOldest 10 = .ok (.bipush 6, 2) := by decide +kernel
theorem dX3_dropOldest_12 : decode cX3_dropOldest 12 = .ok (.if_icmp .ge 23, 3) := by decide +kernel
theorem dX3_dropOldest_15 : decode cX3_dropOldest 15 = .ok (.aload_n 0, 1) := by decide +kernel
theorem dX3_dropOldest_16 : decode cX3_dropOldest 16 = .ok (.getfield 12, 3) := by decide +kernel
theorem dX3_dropOldest_19 : decode cX3_dropOldest 19 = .ok (.iload_n 2, 1) := by decide +kernel
theorem dX3_dropOldest_20 : decode cX3_dropOldest 20 = .ok (.iconst 1, 1) := by decide +kernel
theorem dX3_dropOldest_21 : decode cX3_dropOldest 21 = .ok (.isub, 1) := by decide +kernel
theorem dX3_dropOldest_22 : decode cX3_dropOldest 22 = .ok (.aload_n 0, 1) := by decide +kernel
theorem dX3_dropOldest_23 : decode cX3_dropOldest 23 = .ok (.getfield 12, 3) := by decide +kernel
theorem dX3_dropOldest_26 : decode cX3_dropOldest 26 = .ok (.iload_n 2, 1) := by decide +kernel
theorem dX3_dropOldest_27 : decode cX3_dropOldest 27 = .ok (.aaload, 1) := by decide +kernel
theorem dX3_dropOldest_28 : decode cX3_dropOldest 28 = .ok (.aastore, 1) := by decide +kernel
theorem dX3_dropOldest_29 : decode cX3_dropOldest 29 = .ok (.iinc 2 1, 3) := by decide +kernel
theorem dX3_dropOldest_32 : decode cX3_dropOldest 32 = .ok (.goto (-23), 3) := by decide +kernel
theorem dX3_dropOldest_35 : decode cX3_dropOldest 35 = .ok (.aload_n 0, 1) := by decide +kernel
theorem dX3_dropOldest_36 : decode cX3_dropOldest 36 = .ok (.getfield 12, 3) := by decide +kernel
theorem dX3_dropOldest_39 : decode cX3_dropOldest 39 = .ok (.iconst 5, 1) := by decide +kernel
theorem dX3_dropOldest_40 : decode cX3_dropOldest 40 = .ok (.aload_n 1, 1) := by decide +kernel
theorem dX3_dropOldest_41 : decode cX3_dropOldest 41 = .ok (.aastore, 1) := by decide +kernel
theorem dX3_dropOldest_42 : decode cX3_dropOldest 42 = .ok (.aload_n 0, 1) := by decide +kernel
theorem dX3_dropOldest_43 : decode cX3_dropOldest 43 = .ok (.dup, 1) := by decide +kernel
theorem dX3_dropOldest_44 : decode cX3_dropOldest 44 = .ok (.getfield 18, 3) := by decide +kernel
theorem dX3_dropOldest_47 : decode cX3_dropOldest 47 = .ok (.iconst 1, 1) := by decide +kernel
theorem dX3_dropOldest_48 : decode cX3_dropOldest 48 = .ok (.isub, 1) := by decide +kernel
theorem dX3_dropOldest_49 : decode cX3_dropOldest 49 = .ok (.putfield 18, 3) := by decide +kernel
theorem dX3_dropOldest_52 : decode cX3_dropOldest 52 = .ok (.return_, 1) := by decide +kernel
theorem dX4_init_0 : decode cX4_init 0 = .ok (.aload_n 0, 1) := by decide +kernel
theorem dX4_init_1 : decode cX4_init 1 = .ok (.invokespecial 3, 3) := by decide +kernel
theorem dX4_init_4 : decode cX4_init 4 = .ok (.aload_n 0, 1) := by decide +kernel
theorem dX4_init_5 : decode cX4_init 5 = .ok (.bipush 32, 2) := by decide +kernel
theorem dX4_init_7 : decode cX4_init 7 = .ok (.putfield 9, 3) := by decide +kernel
theorem dX4_init_10 : decode cX4_init 10 = .ok (.aload_n 0, 1) := by decide +kernel
theorem dX4_init_11 : decode cX4_init 11 = .ok (.bipush 64, 2) := by decide +kernel
theorem dX4_init_13 : decode cX4_init 13 = .ok (.newarray .int, 2) := by decide +kernel
theorem dX4_init_15 : decode cX4_init 15 = .ok (.putfield 15, 3) := by decide +kernel
theorem dX4_init_18 : decode cX4_init 18 = .ok (.aload_n 0, 1) := by decide +kernel
theorem dX4_init_19 : decode cX4_init 19 = .ok (.iconst 3, 1) := by decide +kernel
theorem dX4_init_20 : decode cX4_init 20 = .ok (.newarray .int, 2) := by decide +kernel
theorem dX4_init_22 : decode cX4_init 22 = .ok (.dup, 1) := by decide +kernel
theorem dX4_init_23 : decode cX4_init 23 = .ok (.iconst 0, 1) := by decide +kernel
theorem dX4_init_24 : decode cX4_init 24 = .ok (.bipush 8, 2) := by decide +kernel
theorem dX4_init_26 : decode cX4_init 26 = .ok (.iastore, 1) := by decide +kernel
theorem dX4_init_27 : decode cX4_init 27 = .ok (.dup, 1) := by decide +kernel
theorem dX4_init_28 : decode cX4_init 28 = .ok (.iconst 1, 1) := by decide +kernel
theorem dX4_init_29 : decode cX4_init 29 = .ok (.iconst 0, 1) := by decide +kernel
theorem dX4_init_30 : decode cX4_init 30 = .ok (.iastore, 1) := by decide +kernel
theorem dX4_init_31 : decode cX4_init 31 = .ok (.dup, 1) := by decide +kernel
theorem dX4_init_32 : decode cX4_init 32 = .ok (.iconst 2, 1) := by decide +kernel
theorem dX4_init_33 : decode cX4_init 33 = .ok (.iconst 0, 1) := by decide +kernel
theorem dX4_init_34 : decode cX4_init 34 = .ok (.iastore, 1) := by decide +kernel
theorem dX4_init_35 : decode cX4_init 35 = .ok (.putfield 19, 3) := by decide +kernel
theorem dX4_init_38 : decode cX4_init 38 = .ok (.aload_n 0, 1) := by decide +kernel
theorem dX4_init_39 : decode cX4_init 39 = .ok (.bipush 32, 2) := by decide +kernel
theorem dX4_init_41 : decode cX4_init 41 = .ok (.newarray .int, 2) := by decide +kernel
theorem dX4_init_43 : decode cX4_init 43 = .ok (.putfield 22, 3) := by decide +kernel
theorem dX4_init_46 : decode cX4_init 46 = .ok (.aload_n 0, 1) := by decide +kernel
theorem dX4_init_47 : decode cX4_init 47 = .ok (.bipush 32, 2) := by decide +kernel
theorem dX4_init_49 : decode cX4_init 49 = .ok (.newarray .int, 2) := by decide +kernel
theorem dX4_init_51 : decode cX4_init 51 = .ok (.putfield 25, 3) := by decide +kernel
theorem dX4_init_54 : decode cX4_init 54 = .ok (.aload_n 0, 1) := by decide +kernel
theorem dX4_init_55 : decode cX4_init 55 = .ok (.bipush 32, 2) := by decide +kernel
theorem dX4_init_57 : decode cX4_init 57 = .ok (.newarray .boolean, 2) := by decide +kernel
theorem dX4_init_59 : decode cX4_init 59 = .ok (.putfield 28, 3) := by decide +kernel
theorem dX4_init_62 : decode cX4_init 62 = .ok (.aload_n 0, 1) := by decide +kernel
theorem dX4_init_63 : decode cX4_init 63 = .ok (.bipush 64, 2) := by decide +kernel
theorem dX4_init_65 : decode cX4_init 65 = .ok (.newarray .int, 2) := by decide +kernel
theorem dX4_init_67 : decode cX4_init 67 = .ok (.putfield 32, 3) := by decide +kernel
theorem dX4_init_70 : decode cX4_init 70 = .ok (.aload_n 0, 1) := by decide +kernel
theorem dX4_init_71 : decode cX4_init 71 = .ok (.bipush 64, 2) := by decide +kernel
theorem dX4_init_73 : decode cX4_init 73 = .ok (.newarray .int, 2) := by decide +kernel
theorem dX4_init_75 : decode cX4_init 75 = .ok (.putfield 35, 3) := by decide +kernel
theorem dX4_init_78 : decode cX4_init 78 = .ok (.return_, 1) := by decide +kernel
theorem dX4_copyFrom_0 : decode cX4_copyFrom 0 = .ok (.aload_n 0, 1) := by decide +kernel
theorem dX4_copyFrom_1 : decode cX4_copyFrom 1 = .ok (.aload_n 1, 1) := by decide +kernel
theorem dX4_copyFrom_2 : decode cX4_copyFrom 2 = .ok (.getfield 9, 3) := by decide +kernel
theorem dX4_copyFrom_5 : decode cX4_copyFrom 5 = .ok (.putfield 9, 3) := by decide +kernel
theorem dX4_copyFrom_8 : decode cX4_copyFrom 8 = .ok (.aload_n 0, 1) := by decide +kernel
theorem dX4_copyFrom_9 : decode cX4_copyFrom 9 = .ok (.aload_n 1, 1) := by decide +kernel
theorem dX4_copyFrom_10 : decode cX4_copyFrom 10 = .ok (.getfield 38, 3) := by decide +kernel
theorem dX4_copyFrom_13 : decode cX4_copyFrom 13 = .ok (.putfield 38, 3) := by decide +kernel
theorem dX4_copyFrom_16 : decode cX4_copyFrom 16 = .ok (.aload_n 0, 1) := by decide +kernel
theorem dX4_copyFrom_17 : decode cX4_copyFrom 17 = .ok (.aload_n 1, 1) := by decide +kernel
theorem dX4_copyFrom_18 : decode cX4_copyFrom 18 = .ok (.getfield 41, 3) := by decide +kernel
theorem dX4_copyFrom_21 : decode cX4_copyFrom 21 = .ok (.putfield 41, 3) := by decide +kernel
theorem dX4_copyFrom_24 : decode cX4_copyFrom 24 = .ok (.aload_n 0, 1) := by decide +kernel
theorem dX4_copyFrom_25 : decode cX4_copyFrom 25 = .ok (.aload_n 1, 1) := by decide +kernel
theorem dX4_copyFrom_26 : decode cX4_copyFrom 26 = .ok (.getfield 44, 3) := by decide +kernel
theorem dX4_copyFrom_29 : decode cX4_copyFrom 29 = .ok (.putfield 44, 3) := by decide +kernel
theorem dX4_copyFrom_32 : decode cX4_copyFrom 32 = .ok (.aload_n 1, 1) := by decide +kernel
theorem dX4_copyFrom_33 : decode cX4_copyFrom 33 = .ok (.getfield 15, 3) := by decide +kernel
theorem dX4_copyFrom_36 : decode cX4_copyFrom 36 = .ok (.aload_n 0, 1) := by decide +kernel
theorem dX4_copyFrom_37 : decode cX4_copyFrom 37 = .ok (.getfield 15, 3) := by decide +kernel
theorem dX4_copyFrom_40 : decode cX4_copyFrom 40 = .ok (.invokestatic 47, 3) := by decide +kernel
theorem dX4_copyFrom_43 : decode cX4_copyFrom 43 = .ok (.aload_n 1, 1) := by decide +kernel
theorem dX4_copyFrom_44 : decode cX4_copyFrom 44 = .ok (.getfield 19, 3) := by decide +kernel
theorem dX4_copyFrom_47 : decode cX4_copyFrom 47 = .ok (.aload_n 0, 1) := by decide +kernel
theorem dX4_copyFrom_48 : decode cX4_copyFrom 48 = .ok (.getfield 19, 3) := by decide +kernel
theorem dX4_copyFrom_51 : decode cX4_copyFrom 51 = .ok (.invokestatic 47, 3) := by decide +kernel
theorem dX4_copyFrom_54 : decode cX4_copyFrom 54 = .ok (.aload_n 1, 1) := by decide +kernel
theorem dX4_copyFrom_55 : decode cX4_copyFrom 55 = .ok (.getfield 22, 3) := by decide +kernel
theorem dX4_copyFrom_58 : decode cX4_copyFrom 58 = .ok (.aload_n 0, 1) := by decide +kernel
theorem dX4_copyFrom_59 : decode cX4_copyFrom 59 = .ok (.getfield 22, 3) := by decide +kernel
theorem dX4_copyFrom_62 : decode cX4_copyFrom 62 = .ok (.invokestatic 47, 3) := by decide +kernel
theorem dX4_copyFrom_65 : decode cX4_copyFrom 65 = .ok (.aload_n 1, 1) := by decide +kernel
theorem dX4_copyFrom_66 : decode cX4_copyFrom 66 = .ok (.getfield 25, 3) := by decide +kernel
theorem dX4_copyFrom_69 : decode cX4_copyFrom 69 = .ok (.aload_n 0, 1) := by decide +kernel
theorem dX4_copyFrom_70 : decode cX4_copyFrom 70 = .ok (.getfield 25, 3) := by decide +kernel
theorem dX4_copyFrom_73 : decode cX4_copyFrom 73 = .ok (.invokestatic 47, 3) := by decide +kernel
theorem dX4_copyFrom_76 : decode cX4_copyFrom 76 = .ok (.aload_n 1, 1) := by decide +kernel
theorem dX4_copyFrom_77 : decode cX4_copyFrom 77 = .ok (.getfield 32, 3) := by decide +kernel
theorem dX4_copyFrom_80 : decode cX4_copyFrom 80 = .ok (.aload_n 0, 1) := by decide +kernel
theorem dX4_copyFrom_81 : decode cX4_copyFrom 81 = .ok (.getfield 32, 3) := by decide +kernel
theorem dX4_copyFrom_84 : decode cX4_copyFrom 84 = .ok (.invokestatic 47, 3) := by decide +kernel
theorem dX4_copyFrom_87 : decode cX4_copyFrom 87 = .ok (.aload_n 1, 1) := by decide +kernel
theorem dX4_copyFrom_88 : decode cX4_copyFrom 88 = .ok (.getfield 35, 3) := by decide +kernel
theorem dX4_copyFrom_91 : decode cX4_copyFrom 91 = .ok (.aload_n 0, 1) := by decide +kernel
theorem dX4_copyFrom_92 : decode cX4_copyFrom 92 = .ok (.getfield 35, 3) := by decide +kernel
theorem dX4_copyFrom_95 : decode cX4_copyFrom 95 = .ok (.invokestatic 47, 3) := by decide +kernel
theorem dX4_copyFrom_98 : decode cX4_copyFrom 98 = .ok (.iconst 0, 1) := by decide +kernel
theorem dX4_copyFrom_99 : decode cX4_copyFrom 99 = .ok (.istore_n 2, 1) := by decide +kernel
theorem dX4_copyFrom_100 : decode cX4_copyFrom 100 = .ok (.iload_n 2, 1) := by decide +kernel
theorem dX4_copyFrom_101 : decode cX4_copyFrom 101 = .ok (.bipush 32, 2) := by decide +kernel
theorem dX4_copyFrom_103 : decode cX4_copyFrom 103 = .ok (.if_icmp .ge 21, 3) := by decide +kernel
theorem dX4_copyFrom_106 : decode cX4_copyFrom 106 = .ok (.aload_n 0, 1) := by decide +kernel
theorem dX4_copyFrom_107 : decode cX4_copyFrom 107 = .ok (.getfield 28, 3) := by decide +kernel
theorem dX4_copyFrom_110 : decode cX4_copyFrom 110 = .ok (.iload_n 2, 1) := by decide +kernel
theorem dX4_copyFrom_111 : decode cX4_copyFrom 111 = .ok (.aload_n 1, 1) := by decide +kernel
theorem dX4_copyFrom_112 : decode cX4_copyFrom 112 = .ok (.getfield 28, 3) := by decide +kernel
theorem dX4_copyFrom_115 : decode cX4_copyFrom 115 = .ok (.iload_n 2, 1) := by decide +kernel
theorem dX4_copyFrom_116 : decode cX4_copyFrom 116 = .ok (.baload, 1) := by decide +kernel
theorem dX4_copyFrom_117 : decode cX4_copyFrom 117 = .ok (.bastore, 1) := by decide +kernel
theorem dX4_copyFrom_118 : decode cX4_copyFrom 118 = .ok (.iinc 2 1, 3) := by decide +kernel
theorem dX4_copyFrom_121 : decode cX4_copyFrom 121 = .ok (.goto (-21), 3) := by decide +kernel
theorem dX4_copyFrom_124 : decode cX4_copyFrom 124 = .ok (.return_, 1) := by decide +kernel
theorem dX4_becomeSilence_0 : decode cX4_becomeSilence 0 = .ok (.aload_n 0, 1) := by decide +kernel
theorem dX4_becomeSilence_1 : decode cX4_becomeSilence 1 = .ok (.iload_n 1, 1) := by decide +kernel
theorem dX4_becomeSilence_2 : decode cX4_becomeSilence 2 = .ok (.putfield 9, 3) := by decide +kernel
theorem dX4_becomeSilence_5 : decode cX4_becomeSilence 5 = .ok (.iconst 0, 1) := by decide +kernel
theorem dX4_becomeSilence_6 : decode cX4_becomeSilence 6 = .ok (.istore_n 2, 1) := by decide +kernel
theorem dX4_becomeSilence_7 : decode cX4_becomeSilence 7 = .ok (.iload_n 2, 1) := by decide +kernel
theorem dX4_becomeSilence_8 : decode cX4_becomeSilence 8 = .ok (.bipush 64, 2) := by decide +kernel
theorem dX4_becomeSilence_10 : decode cX4_becomeSilence 10 = .ok (.if_icmp .ge 16, 3) := by decide +kernel
theorem dX4_becomeSilence_13 : decode cX4_becomeSilence 13 = .ok (.aload_n 0, 1) := by decide +kernel
theorem dX4_becomeSilence_14 : decode cX4_becomeSilence 14 = .ok (.getfield 15, 3) := by decide +kernel
theorem dX4_becomeSilence_17 : decode cX4_becomeSilence 17 = .ok (.iload_n 2, 1) := by decide +kernel
theorem dX4_becomeSilence_18 : decode cX4_becomeSilence 18 = .ok (.iconst 0, 1) := by decide +kernel
theorem dX4_becomeSilence_19 : decode cX4_becomeSilence 19 = .ok (.iastore, 1) := by decide +kernel
theorem dX4_becomeSilence_20 : decode cX4_becomeSilence 20 = .ok (.iinc 2 1, 3) := by decide +kernel
theorem dX4_becomeSilence_23 : decode cX4_becomeSilence 23 = .ok (.goto (-16), 3) := by decide +kernel
theorem dX4_becomeSilence_26 : decode cX4_becomeSilence 26 = .ok (.aload_n 0, 1) := by decide +kernel
theorem dX4_becomeSilence_27 : decode cX4_becomeSilence 27 = .ok (.invokevirtual 51, 3) := by decide +kernel
theorem dX4_becomeSilence_30 : decode cX4_becomeSilence 30 = .ok (.return_, 1) := by decide +kernel
theorem dX4_forgetBlocks_0 : decode cX4_forgetBlocks 0 = .ok (.aload_n 0, 1) := by decide +kernel
theorem dX4_forgetBlocks_1 : decode cX4_forgetBlocks 1 = .ok (.iconst 0, 1) := by decide +kernel
theorem dX4_forgetBlocks_2 : decode cX4_forgetBlocks 2 = .ok (.putfield 38, 3) := by decide +kernel
theorem dX4_forgetBlocks_5 : decode cX4_forgetBlocks 5 = .ok (.return_, 1) := by decide +kernel
theorem dX4_isCoded_0 : decode cX4_isCoded 0 = .ok (.aload_n 0, 1) := by decide +kernel
theorem dX4_isCoded_1 : decode cX4_isCoded 1 = .ok (.getfield 38, 3) := by decide +kernel
theorem dX4_isCoded_4 : decode cX4_isCoded 4 = .ok (.ifCond .le 7, 3) := by decide +kernel
theorem dX4_isCoded_7 : decode cX4_isCoded 7 = .ok (.iconst 1, 1) := by decide +kernel
theorem dX4_isCoded_8 : decode cX4_isCoded 8 = .ok (.goto 4, 3) := by decide +kernel
theorem dX4_isCoded_11 : decode cX4_isCoded 11 = .ok (.iconst 0, 1) := by decide +kernel
theorem dX4_isCoded_12 : decode cX4_isCoded 12 = .ok (.ireturn, 1) := by decide +kernel
theorem dX4_hasSample_0 : decode cX4_hasSample 0 = .ok (.iload_n 1, 1) := by decide +kernel
theorem dX4_hasSample_1 : decode cX4_hasSample 1 = .ok (.ifCond .lt 15, 3) := by decide +kernel
theorem dX4_hasSample_4 : decode cX4_hasSample 4 = .ok (.iload_n 1, 1) := by decide +kernel
theorem dX4_hasSample_5 : decode cX4_hasSample 5 = .ok (.aload_n 0, 1) := by decide +kernel
theorem dX4_hasSample_6 : decode cX4_hasSample 6 = .ok (.getfield 9, 3) := by decide +kernel
theorem dX4_hasSample_9 : decode cX4_hasSample 9 = .ok (.if_icmp .ge 7, 3) := by decide +kernel
theorem dX4_hasSample_12 : decode cX4_hasSample 12 = .ok (.iconst 1, 1) := by decide +kernel
theorem dX4_hasSample_13 : decode cX4_hasSample 13 = .ok (.goto 4, 3) := by decide +kernel
theorem dX4_hasSample_16 : decode cX4_hasSample 16 = .ok (.iconst 0, 1) := by decide +kernel
theorem dX4_hasSample_17 : decode cX4_hasSample 17 = .ok (.ireturn, 1) := by decide +kernel
theorem dX4_hasBlock_0 : decode cX4_hasBlock 0 = .ok (.iload_n 1, 1) := by decide +kernel
theorem dX4_hasBlock_1 : decode cX4_hasBlock 1 = .ok (.ifCond .lt 15, 3) := by decide +kernel
theorem dX4_hasBlock_4 : decode cX4_hasBlock 4 = .ok (.iload_n 1, 1) := by decide +kernel
theorem dX4_hasBlock_5 : decode cX4_hasBlock 5 = .ok (.aload_n 0, 1) := by decide +kernel
theorem dX4_hasBlock_6 : decode cX4_hasBlock 6 = .ok (.getfield 38, 3) := by decide +kernel
theorem dX4_hasBlock_9 : decode cX4_hasBlock 9 = .ok (.if_icmp .ge 7, 3) := by decide +kernel
theorem dX4_hasBlock_12 : decode cX4_hasBlock 12 = .ok (.iconst 1, 1) := by decide +kernel
theorem dX4_hasBlock_13 : decode cX4_hasBlock 13 = .ok (.goto 4, 3) := by decide +kernel
theorem dX4_hasBlock_16 : decode cX4_hasBlock 16 = .ok (.iconst 0, 1) := by decide +kernel
theorem dX4_hasBlock_17 : decode cX4_hasBlock 17 = .ok (.ireturn, 1) := by decide +kernel
theorem dX4_hasCode_0 : decode cX4_hasCode 0 = .ok (.aload_n 0, 1) := by decide +kernel
theorem dX4_hasCode_1 : decode cX4_hasCode 1 = .ok (.invokevirtual 54, 3) := by decide +kernel
theorem dX4_hasCode_4 : decode cX4_hasCode 4 = .ok (.ifCond .eq 25, 3) := by decide +kernel
theorem dX4_hasCode_7 : decode cX4_hasCode 7 = .ok (.aload_n 0, 1) := by decide +kernel
theorem dX4_hasCode_8 : decode cX4_hasCode 8 = .ok (.iload_n 1, 1) := by decide +kernel
theorem dX4_hasCode_9 : decode cX4_hasCode 9 = .ok (.invokevirtual 58, 3) := by decide +kernel
theorem dX4_hasCode_12 : decode cX4_hasCode 12 = .ok (.ifCond .eq 17, 3) := by decide +kernel
theorem dX4_hasCode_15 : decode cX4_hasCode 15 = .ok (.aload_n 0, 1) := by decide +kernel
theorem dX4_hasCode_16 : decode cX4_hasCode 16 = .ok (.getfield 32, 3) := by decide +kernel
theorem dX4_hasCode_19 : decode cX4_hasCode 19 = .ok (.iload_n 1, 1) := by decide +kernel
theorem dX4_hasCode_20 : decode cX4_hasCode 20 = .ok (.iaload, 1) := by decide +kernel
theorem dX4_hasCode_21 : decode cX4_hasCode 21 = .ok (.iconst (-1), 1) := by decide +kernel
theorem dX4_hasCode_22 : decode cX4_hasCode 22 = .ok (.if_icmp .eq 7, 3) := by decide +kernel
theorem dX4_hasCode_25 : decode cX4_hasCode 25 = .ok (.iconst 1, 1) := by decide +kernel
theorem dX4_hasCode_26 : decode cX4_hasCode 26 = .ok (.goto 4, 3) := by decide +kernel
theorem dX4_hasCode_29 : decode cX4_hasCode 29 = .ok (.iconst 0, 1) := by decide +kernel
theorem dX4_hasCode_30 : decode cX4_hasCode 30 = .ok (.ireturn, 1) := by decide +kernel
theorem dX4_startOf_0 : decode cX4_startOf 0 = .ok (.iload_n 1, 1) := by decide +kernel
theorem dX4_startOf_1 : decode cX4_startOf 1 = .ok (.aload_n 0, 1) := by decide +kernel
theorem dX4_startOf_2 : decode cX4_startOf 2 = .ok (.getfield 19, 3) := by decide +kernel
theorem dX4_startOf_5 : decode cX4_startOf 5 = .ok (.iconst 0, 1) := by decide +kernel
theorem dX4_startOf_6 : decode cX4_startOf 6 = .ok (.iaload, 1) := by decide +kernel
theorem dX4_startOf_7 : decode cX4_startOf 7 = .ok (.imul, 1) := by decide +kernel
theorem dX4_startOf_8 : decode cX4_startOf 8 = .ok (.ireturn, 1) := by decide +kernel
theorem dX4_endOf_0 : decode cX4_endOf 0 = .ok (.aload_n 0, 1) := by decide +kernel
theorem dX4_endOf_1 : decode cX4_endOf 1 = .ok (.getfield 9, 3) := by decide +kernel
theorem dX4_endOf_4 : decode cX4_endOf 4 = .ok (.aload_n 0, 1) := by decide +kernel
theorem dX4_endOf_5 : decode cX4_endOf 5 = .ok (.iload_n 1, 1) := by decide +kernel
theorem dX4_endOf_6 : decode cX4_endOf 6 = .ok (.invokevirtual 62, 3) := by decide +kernel
theorem dX4_endOf_9 : decode cX4_endOf 9 = .ok (.aload_n 0, 1) := by decide +kernel
theorem dX4_endOf_10 : decode cX4_endOf 10 = .ok (.getfield 19, 3) := by decide +kernel
theorem dX4_endOf_13 : decode cX4_endOf 13 = .ok (.iconst 0, 1) := by decide +kernel
theorem dX4_endOf_14 : decode cX4_endOf 14 = .ok (.iaload, 1) := by decide +kernel
theorem dX4_endOf_15 : decode cX4_endOf 15 = .ok (.iadd, 1) := by decide +kernel
theorem dX4_endOf_16 : decode cX4_endOf 16 = .ok (.invokestatic 66, 3) := by decide +kernel
theorem dX4_endOf_19 : decode cX4_endOf 19 = .ok (.ireturn, 1) := by decide +kernel
theorem dX4_codesOf_0 : decode cX4_codesOf 0 = .ok (.aload_n 0, 1) := by decide +kernel
theorem dX4_codesOf_1 : decode cX4_codesOf 1 = .ok (.iload_n 1, 1) := by decide +kernel
theorem dX4_codesOf_2 : decode cX4_codesOf 2 = .ok (.invokevirtual 72, 3) := by decide +kernel
theorem dX4_codesOf_5 : decode cX4_codesOf 5 = .ok (.aload_n 0, 1) := by decide +kernel
theorem dX4_codesOf_6 : decode cX4_codesOf 6 = .ok (.iload_n 1, 1) := by decide +kernel
theorem dX4_codesOf_7 : decode cX4_codesOf 7 = .ok (.invokevirtual 62, 3) := by decide +kernel
theorem dX4_codesOf_10 : decode cX4_codesOf 10 = .ok (.isub, 1) := by decide +kernel
theorem dX4_codesOf_11 : decode cX4_codesOf 11 = .ok (.iconst 1, 1) := by decide +kernel
theorem dX4_codesOf_12 : decode cX4_codesOf 12 = .ok (.isub, 1) := by decide +kernel
theorem dX4_codesOf_13 : decode cX4_codesOf 13 = .ok (.ireturn, 1) := by decide +kernel
theorem dX4_lostBlocks_0 : decode cX4_lostBlocks 0 = .ok (.iconst 0, 1) := by decide +kernel
theorem dX4_lostBlocks_1 : decode cX4_lostBlocks 1 = .ok (.istore_n 1, 1) := by decide +kernel
theorem dX4_lostBlocks_2 : decode cX4_lostBlocks 2 = .ok (.iconst 0, 1) := by decide +kernel
theorem dX4_lostBlocks_3 : decode cX4_lostBlocks 3 = .ok (.istore_n 2, 1) := by decide +kernel
theorem dX4_lostBlocks_4 : decode cX4_lostBlocks 4 = .ok (.iload_n 2, 1) := by decide +kernel
theorem dX4_lostBlocks_5 : decode cX4_lostBlocks 5 = .ok (.aload_n 0, 1) := by decide +kernel
theorem dX4_lostBlocks_6 : decode cX4_lostBlocks 6 = .ok (.getfield 38, 3) := by decide +kernel
theorem dX4_lostBlocks_9 : decode cX4_lostBlocks 9 = .ok (.if_icmp .ge 21, 3) := by decide +kernel
theorem dX4_lostBlocks_12 : decode cX4_lostBlocks 12 = .ok (.aload_n 0, 1) := by decide +kernel
theorem dX4_lostBlocks_13 : decode cX4_lostBlocks 13 = .ok (.getfield 28, 3) := by decide +kernel
theorem dX4_lostBlocks_16 : decode cX4_lostBlocks 16 = .ok (.iload_n 2, 1) := by decide +kernel
theorem dX4_lostBlocks_17 : decode cX4_lostBlocks 17 = .ok (.baload, 1) := by decide +kernel
theorem dX4_lostBlocks_18 : decode cX4_lostBlocks 18 = .ok (.ifCond .eq 6, 3) := by decide +kernel
theorem dX4_lostBlocks_21 : decode cX4_lostBlocks 21 = .ok (.iinc 1 1, 3) := by decide +kernel
theorem dX4_lostBlocks_24 : decode cX4_lostBlocks 24 = .ok (.iinc 2 1, 3) := by decide +kernel
theorem dX4_lostBlocks_27 : decode cX4_lostBlocks 27 = .ok (.goto (-23), 3) := by decide +kernel
theorem dX4_lostBlocks_30 : decode cX4_lostBlocks 30 = .ok (.iload_n 1, 1) := by decide +kernel
theorem dX4_lostBlocks_31 : decode cX4_lostBlocks 31 = .ok (.ireturn, 1) := by decide +kernel
theorem dX4_turnOver_0 : decode cX4_turnOver 0 = .ok (.aload_n 0, 1) := by decide +kernel
theorem dX4_turnOver_1 : decode cX4_turnOver 1 = .ok (.getfield 32, 3) := by decide +kernel
theorem dX4_turnOver_4 : decode cX4_turnOver 4 = .ok (.iload_n 1, 1) := by decide +kernel
theorem dX4_turnOver_5 : decode cX4_turnOver 5 = .ok (.dup2, 1) := by decide +kernel
theorem dX4_turnOver_6 : decode cX4_turnOver 6 = .ok (.iaload, 1) := by decide +kernel
theorem dX4_turnOver_7 : decode cX4_turnOver 7 = .ok (.iconst 1, 1) := by decide +kernel
theorem dX4_turnOver_8 : decode cX4_turnOver 8 = .ok (.iload_n 2, 1) := by decide +kernel
theorem dX4_turnOver_9 : decode cX4_turnOver 9 = .ok (.ishl, 1) := by decide +kernel
theorem dX4_turnOver_10 : decode cX4_turnOver 10 = .ok (.ixor, 1) := by decide +kernel
theorem dX4_turnOver_11 : decode cX4_turnOver 11 = .ok (.iastore, 1) := by decide +kernel
theorem dX4_turnOver_12 : decode cX4_turnOver 12 = .ok (.return_, 1) := by decide +kernel
theorem dX4_putBlock_0 : decode cX4_putBlock 0 = .ok (.aload_n 0, 1) := by decide +kernel
theorem dX4_putBlock_1 : decode cX4_putBlock 1 = .ok (.getfield 22, 3) := by decide +kernel
theorem dX4_putBlock_4 : decode cX4_putBlock 4 = .ok (.iload_n 1, 1) := by decide +kernel
theorem dX4_putBlock_5 : decode cX4_putBlock 5 = .ok (.aload_n 2, 1) := by decide +kernel
theorem dX4_putBlock_6 : decode cX4_putBlock 6 = .ok (.getfield 75, 3) := by decide +kernel
theorem dX4_putBlock_9 : decode cX4_putBlock 9 = .ok (.iastore, 1) := by decide +kernel
theorem dX4_putBlock_10 : decode cX4_putBlock 10 = .ok (.aload_n 0, 1) := by decide +kernel
theorem dX4_putBlock_11 : decode cX4_putBlock 11 = .ok (.getfield 25, 3) := by decide +kernel
theorem dX4_putBlock_14 : decode cX4_putBlock 14 = .ok (.iload_n 1, 1) := by decide +kernel
theorem dX4_putBlock_15 : decode cX4_putBlock 15 = .ok (.aload_n 2, 1) := by decide +kernel
theorem dX4_putBlock_16 : decode cX4_putBlock 16 = .ok (.getfield 80, 3) := by decide +kernel
theorem dX4_putBlock_19 : decode cX4_putBlock 19 = .ok (.iastore, 1) := by decide +kernel
theorem dX4_putBlock_20 : decode cX4_putBlock 20 = .ok (.aload_n 0, 1) := by decide +kernel
theorem dX4_putBlock_21 : decode cX4_putBlock 21 = .ok (.getfield 28, 3) := by decide +kernel
theorem dX4_putBlock_24 : decode cX4_putBlock 24 = .ok (.iload_n 1, 1) := by decide +kernel
theorem dX4_putBlock_25 : decode cX4_putBlock 25 = .ok (.iconst 0, 1) := by decide +kernel
theorem dX4_putBlock_26 : decode cX4_putBlock 26 = .ok (.bastore, 1) := by decide +kernel
theorem dX4_putBlock_27 : decode cX4_putBlock 27 = .ok (.aload_n 0, 1) := by decide +kernel
theorem dX4_putBlock_28 : decode cX4_putBlock 28 = .ok (.iload_n 1, 1) := by decide +kernel
theorem dX4_putBlock_29 : decode cX4_putBlock 29 = .ok (.invokevirtual 62, 3) := by decide +kernel
theorem dX4_putBlock_32 : decode cX4_putBlock 32 = .ok (.istore_n 3, 1) := by decide +kernel
theorem dX4_putBlock_33 : decode cX4_putBlock 33 = .ok (.iconst 0, 1) := by decide +kernel
theorem dX4_putBlock_34 : decode cX4_putBlock 34 = .ok (.istore 4, 2) := by decide +kernel
theorem dX4_putBlock_36 : decode cX4_putBlock 36 = .ok (.iload 4, 2) := by decide +kernel
theorem dX4_putBlock_38 : decode cX4_putBlock 38 = .ok (.aload_n 0, 1) := by decide +kernel
theorem dX4_putBlock_39 : decode cX4_putBlock 39 = .ok (.iload_n 1, 1) := by decide +kernel
theorem dX4_putBlock_40 : decode cX4_putBlock 40 = .ok (.invokevirtual 83, 3) := by decide +kernel
theorem dX4_putBlock_43 : decode cX4_putBlock 43 = .ok (.if_icmp .ge 37, 3) := by decide +kernel
theorem dX4_putBlock_46 : decode cX4_putBlock 46 = .ok (.iload 4, 2) := by decide +kernel
theorem dX4_putBlock_48 : decode cX4_putBlock 48 = .ok (.aload_n 2, 1) := by decide +kernel
theorem dX4_putBlock_49 : decode cX4_putBlock 49 = .ok (.getfield 86, 3) := by decide +kernel
theorem dX4_putBlock_52 : decode cX4_putBlock 52 = .ok (.arraylength, 1) := by decide +kernel
theorem dX4_putBlock_53 : decode cX4_putBlock 53 = .ok (.if_icmp .ge 27, 3) := by decide +kernel
theorem dX4_putBlock_56 : decode cX4_putBlock 56 = .ok (.aload_n 0, 1) := by decide +kernel
theorem dX4_putBlock_57 : decode cX4_putBlock 57 = .ok (.getfield 32, 3) := by decide +kernel
theorem dX4_putBlock_60 : decode cX4_putBlock 60 = .ok (.iload_n 3, 1) := by decide +kernel
theorem dX4_putBlock_61 : decode cX4_putBlock 61 = .ok (.iconst 1, 1) := by decide +kernel
theorem dX4_putBlock_62 : decode cX4_putBlock 62 = .ok (.iadd, 1) := by decide +kernel
theorem dX4_putBlock_63 : decode cX4_putBlock 63 = .ok (.iload 4, 2) := by decide +kernel
theorem dX4_putBlock_65 : decode cX4_putBlock 65 = .ok (.iadd, 1) := by decide +kernel
theorem dX4_putBlock_66 : decode cX4_putBlock 66 = .ok (.aload_n 2, 1) := by decide +kernel
theorem dX4_putBlock_67 : decode cX4_putBlock 67 = .ok (.getfield 86, 3) := by decide +kernel
theorem dX4_putBlock_70 : decode cX4_putBlock 70 = .ok (.iload 4, 2) := by decide +kernel
theorem dX4_putBlock_72 : decode cX4_putBlock 72 = .ok (.iaload, 1) := by decide +kernel
theorem dX4_putBlock_73 : decode cX4_putBlock 73 = .ok (.iastore, 1) := by decide +kernel
theorem dX4_putBlock_74 : decode cX4_putBlock 74 = .ok (.iinc 4 1, 3) := by decide +kernel
theorem dX4_putBlock_77 : decode cX4_putBlock 77 = .ok (.goto (-41), 3) := by decide +kernel
theorem dX4_putBlock_80 : decode cX4_putBlock 80 = .ok (.return_, 1) := by decide +kernel
theorem dX5_init_0 : decode cX5_init 0 = .ok (.aload_n 0, 1) := by decide +kernel
theorem dX5_init_1 : decode cX5_init 1 = .ok (.invokespecial 3, 3) := by decide +kernel
theorem dX5_init_4 : decode cX5_init 4 = .ok (.return_, 1) := by decide +kernel
theorem dX5_stepOf_0 : decode cX5_stepOf 0 = .ok (.iload_n 0, 1) := by decide +kernel
theorem dX5_stepOf_1 : decode cX5_stepOf 1 = .ok (.ifCond .lt 19, 3) := by decide +kernel
theorem dX5_stepOf_4 : decode cX5_stepOf 4 = .ok (.iload_n 0, 1) := by decide +kernel
theorem dX5_stepOf_5 : decode cX5_stepOf 5 = .ok (.getstatic 9, 3) := by decide +kernel
theorem dX5_stepOf_8 : decode cX5_stepOf 8 = .ok (.arraylength, 1) := by decide +kernel
theorem dX5_stepOf_9 : decode cX5_stepOf 9 = .ok (.if_icmp .ge 11, 3) := by decide +kernel
theorem dX5_stepOf_12 : decode cX5_stepOf 12 = .ok (.getstatic 9, 3) := by decide +kernel
theorem dX5_stepOf_15 : decode cX5_stepOf 15 = .ok (.iload_n 0, 1) := by decide +kernel
theorem dX5_stepOf_16 : decode cX5_stepOf 16 = .ok (.iaload, 1) := by decide +kernel
theorem dX5_stepOf_17 : decode cX5_stepOf 17 = .ok (.goto 4, 3) := by decide +kernel
theorem dX5_stepOf_20 : decode cX5_stepOf 20 = .ok (.iconst 0, 1) := by decide +kernel
theorem dX5_stepOf_21 : decode cX5_stepOf 21 = .ok (.ireturn, 1) := by decide +kernel
theorem dX5_begin_0 : decode cX5_begin 0 = .ok (.aload_n 0, 1) := by decide +kernel
theorem dX5_begin_1 : decode cX5_begin 1 = .ok (.iload_n 1, 1) := by decide +kernel
theorem dX5_begin_2 : decode cX5_begin 2 = .ok (.putfield 15, 3) := by decide +kernel
theorem dX5_begin_5 : decode cX5_begin 5 = .ok (.aload_n 0, 1) := by decide +kernel
theorem dX5_begin_6 : decode cX5_begin 6 = .ok (.iload_n 2, 1) := by decide +kernel
theorem dX5_begin_7 : decode cX5_begin 7 = .ok (.putfield 19, 3) := by decide +kernel
theorem dX5_begin_10 : decode cX5_begin 10 = .ok (.return_, 1) := by decide +kernel
theorem dX5_codeTowards_0 : decode cX5_codeTowards 0 = .ok (.aload_n 0, 1) := by decide +kernel
theorem dX5_codeTowards_1 : decode cX5_codeTowards 1 = .ok (.getfield 19, 3) := by decide +kernel
theorem dX5_codeTowards_4 : decode cX5_codeTowards 4 = .ok (.invokestatic 22, 3) := by decide +kernel
theorem dX5_codeTowards_7 : decode cX5_codeTowards 7 = .ok (.istore_n 2, 1) := by decide +kernel
theorem dX5_codeTowards_8 : decode cX5_codeTowards 8 = .ok (.iload_n 1, 1) := by decide +kernel
theorem dX5_codeTowards_9 : decode cX5_codeTowards 9 = .ok (.aload_n 0, 1) := by decide +kernel
theorem dX5_codeTowards_10 : decode cX5_codeTowards 10 = .ok (.getfield 15, 3) := by decide +kernel
theorem dX5_codeTowards_13 : decode cX5_codeTowards 13 = .ok (.isub, 1) := by decide +kernel
theorem dX5_codeTowards_14 : decode cX5_codeTowards 14 = .ok (.invokestatic 26, 3) := by decide +kernel
theorem dX5_codeTowards_17 : decode cX5_codeTowards 17 = .ok (.istore_n 3, 1) := by decide +kernel
theorem dX5_codeTowards_18 : decode cX5_codeTowards 18 = .ok (.iload_n 1, 1) := by decide +kernel
theorem dX5_codeTowards_19 : decode cX5_codeTowards 19 = .ok (.aload_n 0, 1) := by decide +kernel
theorem dX5_codeTowards_20 : decode cX5_codeTowards 20 = .ok (.getfield 15, 3) := by decide +kernel
theorem dX5_codeTowards_23 : decode cX5_codeTowards 23 = .ok (.if_icmp .ge 8, 3) := by decide +kernel
theorem dX5_codeTowards_26 : decode cX5_codeTowards 26 = .ok (.bipush 8, 2) := by decide +kernel
theorem dX5_codeTowards_28 : decode cX5_codeTowards 28 = .ok (.goto 4, 3) := by decide +kernel
theorem dX5_codeTowards_31 : decode cX5_codeTowards 31 = .ok (.iconst 0, 1) := by decide +kernel
theorem dX5_codeTowards_32 : decode cX5_codeTowards 32 = .ok (.istore 4, 2) := by decide +kernel
theorem dX5_codeTowards_34 : decode cX5_codeTowards 34 = .ok (.iload_n 3, 1) := by decide +kernel
theorem dX5_codeTowards_35 : decode cX5_codeTowards 35 = .ok (.iload_n 2, 1) := by decide +kernel
theorem dX5_codeTowards_36 : decode cX5_codeTowards 36 = .ok (.if_icmp .lt 13, 3) := by decide +kernel
theorem dX5_codeTowards_39 : decode cX5_codeTowards 39 = .ok (.iload 4, 2) := by decide +kernel
theorem dX5_codeTowards_41 : decode cX5_codeTowards 41 = .ok (.iconst 4, 1) := by decide +kernel
theorem dX5_codeTowards_42 : decode cX5_codeTowards 42 = .ok (.ior, 1) := by decide +kernel
theorem dX5_codeTowards_43 : decode cX5_codeTowards 43 = .ok (.istore 4, 2) := by decide +kernel
theorem dX5_codeTowards_45 : decode cX5_codeTowards 45 = .ok (.iload_n 3, 1) := by decide +kernel
theorem dX5_codeTowards_46 : decode cX5_codeTowards 46 = .ok (.iload_n 2, 1) := by decide +kernel
theorem dX5_codeTowards_47 : decode cX5_codeTowards 47 = .ok (.isub, 1) := by decide +kernel
theorem dX5_codeTowards_48 : decode cX5_codeTowards 48 = .ok (.istore_n 3, 1) := by decide +kernel
theorem dX5_codeTowards_49 : decode cX5_codeTowards 49 = .ok (.iload_n 3, 1) := by decide +kernel
theorem dX5_codeTowards_50 : decode cX5_codeTowards 50 = .ok (.iload_n 2, 1) := by decide +kernel
theorem dX5_codeTowards_51 : decode cX5_codeTowards 51 = .ok (.iconst 2, 1) := by decide +kernel
theorem dX5_codeTowards_52 : decode cX5_codeTowards 52 = .ok (.idiv, 1) := by decide +kernel
theorem dX5_codeTowards_53 : decode cX5_codeTowards 53 = .ok (.if_icmp .lt 15, 3) := by decide +kernel
theorem dX5_codeTowards_56 : decode cX5_codeTowards 56 = .ok (.iload 4, 2) := by decide +kernel
theorem dX5_codeTowards_58 : decode cX5_codeTowards 58 = .ok (.iconst 2, 1) := by decide +kernel
theorem dX5_codeTowards_59 : decode cX5_codeTowards 59 = .ok (.ior, 1) := by decide +kernel
theorem dX5_codeTowards_60 : decode cX5_codeTowards 60 = .ok (.istore 4, 2) := by decide +kernel
theorem dX5_codeTowards_62 : decode cX5_codeTowards 62 = .ok (.iload_n 3, 1) := by decide +kernel
theorem dX5_codeTowards_63 : decode cX5_codeTowards 63 = .ok (.iload_n 2, 1) := by decide +kernel
theorem dX5_codeTowards_64 : decode cX5_codeTowards 64 = .ok (.iconst 2, 1) := by decide +kernel
theorem dX5_codeTowards_65 : decode cX5_codeTowards 65 = .ok (.idiv, 1) := by decide +kernel
theorem dX5_codeTowards_66 : decode cX5_codeTowards 66 = .ok (.isub, 1) := by decide +kernel
theorem dX5_codeTowards_67 : decode cX5_codeTowards 67 = .ok (.istore_n 3, 1) := by decide +kernel
theorem dX5_codeTowards_68 : decode cX5_codeTowards 68 = .ok (.iload_n 3, 1) := by decide +kernel
theorem dX5_codeTowards_69 : decode cX5_codeTowards 69 = .ok (.iload_n 2, 1) := by decide +kernel
theorem dX5_codeTowards_70 : decode cX5_codeTowards 70 = .ok (.iconst 4, 1) := by decide +kernel
theorem dX5_codeTowards_71 : decode cX5_codeTowards 71 = .ok (.idiv, 1) := by decide +kernel
theorem dX5_codeTowards_72 : decode cX5_codeTowards 72 = .ok (.if_icmp .lt 9, 3) := by decide +kernel
theorem dX5_codeTowards_75 : decode cX5_codeTowards 75 = .ok (.iload 4, 2) := by decide +kernel
theorem dX5_codeTowards_77 : decode cX5_codeTowards 77 = .ok (.iconst 1, 1) := by decide +kernel
theorem dX5_codeTowards_78 : decode cX5_codeTowards 78 = .ok (.ior, 1) := by decide +kernel
theorem dX5_codeTowards_79 : decode cX5_codeTowards 79 = .ok (.istore 4, 2) := by decide +kernel
theorem dX5_codeTowards_81 : decode cX5_codeTowards 81 = .ok (.iload 4, 2) := by decide +kernel
theorem dX5_codeTowards_83 : decode cX5_codeTowards 83 = .ok (.ireturn, 1) := by decide +kernel
theorem dX5_follow_0 : decode cX5_follow 0 = .ok (.aload_n 0, 1) := by decide +kernel
theorem dX5_follow_1 : decode cX5_follow 1 = .ok (.getfield 19, 3) := by decide +kernel
theorem dX5_follow_4 : decode cX5_follow 4 = .ok (.invokestatic 22, 3) := by decide +kernel
theorem dX5_follow_7 : decode cX5_follow 7 = .ok (.iload_n 1, 1) := by decide +kernel
theorem dX5_follow_8 : decode cX5_follow 8 = .ok (.invokestatic 31, 3) := by decide +kernel
theorem dX5_follow_11 : decode cX5_follow 11 = .ok (.istore_n 2, 1) := by decide +kernel
theorem dX5_follow_12 : decode cX5_follow 12 = .ok (.aload_n 0, 1) := by decide +kernel
theorem dX5_follow_13 : decode cX5_follow 13 = .ok (.iload_n 1, 1) := by decide +kernel
theorem dX5_follow_14 : decode cX5_follow 14 = .ok (.bipush 8, 2) := by decide +kernel
theorem dX5_follow_16 : decode cX5_follow 16 = .ok (.iand, 1) := by decide +kernel
theorem dX5_follow_17 : decode cX5_follow 17 = .ok (.ifCond .eq 12, 3) := by decide +kernel
theorem dX5_follow_20 : decode cX5_follow 20 = .ok (.aload_n 0, 1) := by decide +kernel
theorem dX5_follow_21 : decode cX5_follow 21 = .ok (.getfield 15, 3) := by decide +kernel
theorem dX5_follow_24 : decode cX5_follow 24 = .ok (.iload_n 2, 1) := by decide +kernel
theorem dX5_follow_25 : decode cX5_follow 25 = .ok (.isub, 1) := by decide +kernel
theorem dX5_follow_26 : decode cX5_follow 26 = .ok (.goto 9, 3) := by decide +kernel
theorem dX5_follow_29 : decode cX5_follow 29 = .ok (.aload_n 0, 1) := by decide +kernel
theorem dX5_follow_30 : decode cX5_follow 30 = .ok (.getfield 15, 3) := by decide +kernel
theorem dX5_follow_33 : decode cX5_follow 33 = .ok (.iload_n 2, 1) := by decide +kernel
theorem dX5_follow_34 : decode cX5_follow 34 = .ok (.iadd, 1) := by decide +kernel
theorem dX5_follow_35 : decode cX5_follow 35 = .ok (.invokestatic 35, 3) := by decide +kernel
theorem dX5_follow_38 : decode cX5_follow 38 = .ok (.putfield 15, 3) := by decide +kernel
theorem dX5_follow_41 : decode cX5_follow 41 = .ok (.iload_n 1, 1) := by decide +kernel
theorem dX5_follow_42 : decode cX5_follow 42 = .ok (.bipush 7, 2) := by decide +kernel
theorem dX5_follow_44 : decode cX5_follow 44 = .ok (.iand, 1) := by decide +kernel
theorem dX5_follow_45 : decode cX5_follow 45 = .ok (.istore_n 3, 1) := by decide +kernel
theorem dX5_follow_46 : decode cX5_follow 46 = .ok (.iload_n 3, 1) := by decide +kernel
theorem dX5_follow_47 : decode cX5_follow 47 = .ok (.iconst 4, 1) := by decide +kernel
theorem dX5_follow_48 : decode cX5_follow 48 = .ok (.if_icmp .ge 12, 3) := by decide +kernel
theorem dX5_follow_51 : decode cX5_follow 51 = .ok (.aload_n 0, 1) := by decide +kernel
theorem dX5_follow_52 : decode cX5_follow 52 = .ok (.getfield 19, 3) := by decide +kernel
theorem dX5_follow_55 : decode cX5_follow 55 = .ok (.iconst 1, 1) := by decide +kernel
theorem dX5_follow_56 : decode cX5_follow 56 = .ok (.isub, 1) := by decide +kernel
theorem dX5_follow_57 : decode cX5_follow 57 = .ok (.goto 15, 3) := by decide +kernel
theorem dX5_follow_60 : decode cX5_follow 60 = .ok (.aload_n 0, 1) := by decide +kernel
theorem dX5_follow_61 : decode cX5_follow 61 = .ok (.getfield 19, 3) := by decide +kernel
theorem dX5_follow_64 : decode cX5_follow 64 = .ok (.iconst 2, 1) := by decide +kernel
theorem dX5_follow_65 : decode cX5_follow 65 = .ok (.iload_n 3, 1) := by decide +kernel
theorem dX5_follow_66 : decode cX5_follow 66 = .ok (.iconst 4, 1) := by decide +kernel
theorem dX5_follow_67 : decode cX5_follow 67 = .ok (.isub, 1) := by decide +kernel
theorem dX5_follow_68 : decode cX5_follow 68 = .ok (.iconst 1, 1) := by decide +kernel
theorem dX5_follow_69 : decode cX5_follow 69 = .ok (.iadd, 1) := by decide +kernel
theorem dX5_follow_70 : decode cX5_follow 70 = .ok (.imul, 1) := by decide +kernel
theorem dX5_follow_71 : decode cX5_follow 71 = .ok (.iadd, 1) := by decide +kernel
theorem dX5_follow_72 : decode cX5_follow 72 = .ok (.istore 4, 2) := by decide +kernel
theorem dX5_follow_74 : decode cX5_follow 74 = .ok (.aload_n 0, 1) := by decide +kernel
theorem dX5_follow_75 : decode cX5_follow 75 = .ok (.iconst 0, 1) := by decide +kernel
theorem dX5_follow_76 : decode cX5_follow 76 = .ok (.bipush 48, 2) := by decide +kernel
theorem dX5_follow_78 : decode cX5_follow 78 = .ok (.iload 4, 2) := by decide +kernel
theorem dX5_follow_80 : decode cX5_follow 80 = .ok (.invokestatic 38, 3) := by decide +kernel
theorem dX5_follow_83 : decode cX5_follow 83 = .ok (.invokestatic 41, 3) := by decide +kernel
theorem dX5_follow_86 : decode cX5_follow 86 = .ok (.putfield 19, 3) := by decide +kernel
theorem dX5_follow_89 : decode cX5_follow 89 = .ok (.return_, 1) := by decide +kernel
theorem dX5_changeBy_0 : decode cX5_changeBy 0 = .ok (.iload_n 0, 1) := by decide +kernel
theorem dX5_changeBy_1 : decode cX5_changeBy 1 = .ok (.bipush 8, 2) := by decide +kernel
theorem dX5_changeBy_3 : decode cX5_changeBy 3 = .ok (.idiv, 1) := by decide +kernel
theorem dX5_changeBy_4 : decode cX5_changeBy 4 = .ok (.istore_n 2, 1) := by decide +kernel
theorem dX5_changeBy_5 : decode cX5_changeBy 5 = .ok (.iload_n 1, 1) := by decide +kernel
theorem dX5_changeBy_6 : decode cX5_changeBy 6 = .ok (.iconst 4, 1) := by decide +kernel
theorem dX5_changeBy_7 : decode cX5_changeBy 7 = .ok (.iand, 1) := by decide +kernel
theorem dX5_changeBy_8 : decode cX5_changeBy 8 = .ok (.ifCond .eq 7, 3) := by decide +kernel
theorem dX5_changeBy_11 : decode cX5_changeBy 11 = .ok (.iload_n 2, 1) := by decide +kernel
theorem dX5_changeBy_12 : decode cX5_changeBy 12 = .ok (.iload_n 0, 1) := by decide +kernel
theorem dX5_changeBy_13 : decode cX5_changeBy 13 = .ok (.iadd, 1) := by decide +kernel
theorem dX5_changeBy_14 : decode cX5_changeBy 14 = .ok (.istore_n 2, 1) := by decide +kernel
theorem dX5_changeBy_15 : decode cX5_changeBy 15 = .ok (.iload_n 1, 1) := by decide +kernel
theorem dX5_changeBy_16 : decode cX5_changeBy 16 = .ok (.iconst 2, 1) := by decide +kernel
theorem dX5_changeBy_17 : decode cX5_changeBy 17 = .ok (.iand, 1) := by decide +kernel
theorem dX5_changeBy_18 : decode cX5_changeBy 18 = .ok (.ifCond .eq 9, 3) := by decide +kernel
theorem dX5_changeBy_21 : decode cX5_changeBy 21 = .ok (.iload_n 2, 1) := by decide +kernel
theorem dX5_changeBy_22 : decode cX5_changeBy 22 = .ok (.iload_n 0, 1) := by decide +kernel
theorem dX5_changeBy_23 : decode cX5_changeBy 23 = .ok (.iconst 2, 1) := by decide +kernel
theorem dX5_changeBy_24 : decode cX5_changeBy 24 = .ok (.idiv, 1) := by decide +kernel
theorem dX5_changeBy_25 : decode cX5_changeBy 25 = .ok (.iadd, 1) := by decide +kernel
theorem dX5_changeBy_26 : decode cX5_changeBy 26 = .ok (.istore_n 2, 1) := by decide +kernel
theorem dX5_changeBy_27 : decode cX5_changeBy 27 = .ok (.iload_n 1, 1) := by decide +kernel
theorem dX5_changeBy_28 : decode cX5_changeBy 28 = .ok (.iconst 1, 1) := by decide +kernel
theorem dX5_changeBy_29 : decode cX5_changeBy 29 = .ok (.iand, 1) := by decide +kernel
theorem dX5_changeBy_30 : decode cX5_changeBy 30 = .ok (.ifCond .eq 9, 3) := by decide +kernel
theorem dX5_changeBy_33 : decode cX5_changeBy 33 = .ok (.iload_n 2, 1) := by decide +kernel
theorem dX5_changeBy_34 : decode cX5_changeBy 34 = .ok (.iload_n 0, 1) := by decide +kernel
theorem dX5_changeBy_35 : decode cX5_changeBy 35 = .ok (.iconst 4, 1) := by decide +kernel
theorem dX5_changeBy_36 : decode cX5_changeBy 36 = .ok (.idiv, 1) := by decide +kernel
theorem dX5_changeBy_37 : decode cX5_changeBy 37 = .ok (.iadd, 1) := by decide +kernel
theorem dX5_changeBy_38 : decode cX5_changeBy 38 = .ok (.istore_n 2, 1) := by decide +kernel
theorem dX5_changeBy_39 : decode cX5_changeBy 39 = .ok (.iload_n 2, 1) := by decide +kernel
theorem dX5_changeBy_40 : decode cX5_changeBy 40 = .ok (.ireturn, 1) := by decide +kernel
theorem dX6_init_0 : decode cX6_init 0 = .ok (.aload_n 0, 1) := by decide +kernel
theorem dX6_init_1 : decode cX6_init 1 = .ok (.invokespecial 3, 3) := by decide +kernel
theorem dX6_init_4 : decode cX6_init 4 = .ok (.aload_n 0, 1) := by decide +kernel
theorem dX6_init_5 : decode cX6_init 5 = .ok (.new 9, 3) := by decide +kernel
theorem dX6_init_8 : decode cX6_init 8 = .ok (.dup, 1) := by decide +kernel
theorem dX6_init_9 : decode cX6_init 9 = .ok (.invokespecial 11, 3) := by decide +kernel
theorem dX6_init_12 : decode cX6_init 12 = .ok (.putfield 12, 3) := by decide +kernel
theorem dX6_init_15 : decode cX6_init 15 = .ok (.aload_n 0, 1) := by decide +kernel
theorem dX6_init_16 : decode cX6_init 16 = .ok (.new 16, 3) := by decide +kernel
theorem dX6_init_19 : decode cX6_init 19 = .ok (.dup, 1) := by decide +kernel
theorem dX6_init_20 : decode cX6_init 20 = .ok (.invokespecial 18, 3) := by decide +kernel
theorem dX6_init_23 : decode cX6_init 23 = .ok (.putfield 19, 3) := by decide +kernel
theorem dX6_init_26 : decode cX6_init 26 = .ok (.aload_n 0, 1) := by decide +kernel
theorem dX6_init_27 : decode cX6_init 27 = .ok (.iconst 2, 1) := by decide +kernel
theorem dX6_init_28 : decode cX6_init 28 = .ok (.anewarray 9, 3) := by decide +kernel
theorem dX6_init_31 : decode cX6_init 31 = .ok (.dup, 1) := by decide +kernel
theorem dX6_init_32 : decode cX6_init 32 = .ok (.iconst 0, 1) := by decide +kernel
theorem dX6_init_33 : decode cX6_init 33 = .ok (.new 9, 3) := by decide +kernel
theorem dX6_init_36 : decode cX6_init 36 = .ok (.dup, 1) := by decide +kernel
theorem dX6_init_37 : decode cX6_init 37 = .ok (.invokespecial 11, 3) := by decide +kernel
theorem dX6_init_40 : decode cX6_init 40 = .ok (.aastore, 1) := by decide +kernel
theorem dX6_init_41 : decode cX6_init 41 = .ok (.dup, 1) := by decide +kernel
theorem dX6_init_42 : decode cX6_init 42 = .ok (.iconst 1, 1) := by decide +kernel
theorem dX6_init_43 : decode cX6_init 43 = .ok (.new 9, 3) := by decide +kernel
theorem dX6_init_46 : decode cX6_init 46 = .ok (.dup, 1) := by decide +kernel
theorem dX6_init_47 : decode cX6_init 47 = .ok (.invokespecial 11, 3) := by decide +kernel
theorem dX6_init_50 : decode cX6_init 50 = .ok (.aastore, 1) := by decide +kernel
theorem dX6_init_51 : decode cX6_init 51 = .ok (.putfield 23, 3) := by decide +kernel
theorem dX6_init_54 : decode cX6_init 54 = .ok (.aload_n 0, 1) := by decide +kernel
theorem dX6_init_55 : decode cX6_init 55 = .ok (.iconst 2, 1) := by decide +kernel
theorem dX6_init_56 : decode cX6_init 56 = .ok (.newarray .boolean, 2) := by decide +kernel
theorem dX6_init_58 : decode cX6_init 58 = .ok (.putfield 27, 3) := by decide +kernel
theorem dX6_init_61 : decode cX6_init 61 = .ok (.aload_n 0, 1) := by decide +kernel
theorem dX6_init_62 : decode cX6_init 62 = .ok (.new 31, 3) := by decide +kernel
theorem dX6_init_65 : decode cX6_init 65 = .ok (.dup, 1) := by decide +kernel
theorem dX6_init_66 : decode cX6_init 66 = .ok (.invokespecial 33, 3) := by decide +kernel
theorem dX6_init_69 : decode cX6_init 69 = .ok (.putfield 34, 3) := by decide +kernel
theorem dX6_init_72 : decode cX6_init 72 = .ok (.aload_n 0, 1) := by decide +kernel
theorem dX6_init_73 : decode cX6_init 73 = .ok (.new 38, 3) := by decide +kernel
theorem dX6_init_76 : decode cX6_init 76 = .ok (.dup, 1) := by decide +kernel
theorem dX6_init_77 : decode cX6_init 77 = .ok (.invokespecial 40, 3) := by decide +kernel
theorem dX6_init_80 : decode cX6_init 80 = .ok (.putfield 41, 3) := by decide +kernel
theorem dX6_init_83 : decode cX6_init 83 = .ok (.aload_n 0, 1) := by decide +kernel
theorem dX6_init_84 : decode cX6_init 84 = .ok (.new 45, 3) := by decide +kernel
theorem dX6_init_87 : decode cX6_init 87 = .ok (.dup, 1) := by decide +kernel
theorem dX6_init_88 : decode cX6_init 88 = .ok (.invokespecial 47, 3) := by decide +kernel
theorem dX6_init_91 : decode cX6_init 91 = .ok (.putfield 48, 3) := by decide +kernel
theorem dX6_init_94 : decode cX6_init 94 = .ok (.aload_n 0, 1) := by decide +kernel
theorem dX6_init_95 : decode cX6_init 95 = .ok (.new 45, 3) := by decide +kernel
theorem dX6_init_98 : decode cX6_init 98 = .ok (.dup, 1) := by decide +kernel
theorem dX6_init_99 : decode cX6_init 99 = .ok (.invokespecial 47, 3) := by decide +kernel
theorem dX6_init_102 : decode cX6_init 102 = .ok (.putfield 52, 3) := by decide +kernel
theorem dX6_init_105 : decode cX6_init 105 = .ok (.aload_n 0, 1) := by decide +kernel
theorem dX6_init_106 : decode cX6_init 106 = .ok (.new 55, 3) := by decide +kernel
theorem dX6_init_109 : decode cX6_init 109 = .ok (.dup, 1) := by decide +kernel
theorem dX6_init_110 : decode cX6_init 110 = .ok (.invokespecial 57, 3) := by decide +kernel
theorem dX6_init_113 : decode cX6_init 113 = .ok (.putfield 58, 3) := by decide +kernel
theorem dX6_init_116 : decode cX6_init 116 = .ok (.return_, 1) := by decide +kernel
theorem dX6_wave_0 : decode cX6_wave 0 = .ok (.iload_n 1, 1) := by decide +kernel
theorem dX6_wave_1 : decode cX6_wave 1 = .ok (.iconst 1, 1) := by decide +kernel
theorem dX6_wave_2 : decode cX6_wave 2 = .ok (.if_icmp .lt 9, 3) := by decide +kernel
theorem dX6_wave_5 : decode cX6_wave 5 = .ok (.iload_n 1, 1) := by decide +kernel
theorem dX6_wave_6 : decode cX6_wave 6 = .ok (.bipush 64, 2) := by decide +kernel
theorem dX6_wave_8 : decode cX6_wave 8 = .ok (.if_icmp .le 13, 3) := by decide +kernel
theorem dX6_wave_11 : decode cX6_wave 11 = .ok (.new 62, 3) := by decide +kernel
theorem dX6_wave_14 : decode cX6_wave 14 = .ok (.dup, 1) := by decide +kernel
theorem dX6_wave_15 : decode cX6_wave 15 = .ok (.ldc 64, 2) := by decide +kernel
theorem dX6_wave_17 : decode cX6_wave 17 = .ok (.invokespecial 66, 3) := by decide +kernel
theorem dX6_wave_20 : decode cX6_wave 20 = .ok (.athrow, 1) := by decide +kernel
theorem dX6_wave_21 : decode cX6_wave 21 = .ok (.aload_n 0, 1) := by decide +kernel
theorem dX6_wave_22 : decode cX6_wave 22 = .ok (.invokevirtual 69, 3) := by decide +kernel
theorem dX6_wave_25 : decode cX6_wave 25 = .ok (.aload_n 0, 1) := by decide +kernel
theorem dX6_wave_26 : decode cX6_wave 26 = .ok (.getfield 12, 3) := by decide +kernel
theorem dX6_wave_29 : decode cX6_wave 29 = .ok (.getfield 72, 3) := by decide +kernel
theorem dX6_wave_32 : decode cX6_wave 32 = .ok (.istore_n 2, 1) := by decide +kernel
theorem dX6_wave_33 : decode cX6_wave 33 = .ok (.aload_n 0, 1) := by decide +kernel
theorem dX6_wave_34 : decode cX6_wave 34 = .ok (.getfield 12, 3) := by decide +kernel
theorem dX6_wave_37 : decode cX6_wave 37 = .ok (.iload_n 1, 1) := by decide +kernel
theorem dX6_wave_38 : decode cX6_wave 38 = .ok (.invokevirtual 76, 3) := by decide +kernel
theorem dX6_wave_41 : decode cX6_wave 41 = .ok (.iload_n 2, 1) := by decide +kernel
theorem dX6_wave_42 : decode cX6_wave 42 = .ok (.ireturn, 1) := by decide +kernel
theorem dX6_sample_0 : decode cX6_sample 0 = .ok (.aload_n 0, 1) := by decide +kernel
theorem dX6_sample_1 : decode cX6_sample 1 = .ok (.getfield 12, 3) := by decide +kernel
theorem dX6_sample_4 : decode cX6_sample 4 = .ok (.iload_n 1, 1) := by decide +kernel
theorem dX6_sample_5 : decode cX6_sample 5 = .ok (.invokevirtual 80, 3) := by decide +kernel
theorem dX6_sample_8 : decode cX6_sample 8 = .ok (.ifCond .ne 13, 3) := by decide +kernel
theorem dX6_sample_11 : decode cX6_sample 11 = .ok (.new 84, 3) := by decide +kernel
theorem dX6_sample_14 : decode cX6_sample 14 = .ok (.dup, 1) := by decide +kernel
theorem dX6_sample_15 : decode cX6_sample 15 = .ok (.ldc 86, 2) := by decide +kernel
theorem dX6_sample_17 : decode cX6_sample 17 = .ok (.invokespecial 88, 3) := by decide +kernel
theorem dX6_sample_20 : decode cX6_sample 20 = .ok (.athrow, 1) := by decide +kernel
theorem dX6_sample_21 : decode cX6_sample 21 = .ok (.iload_n 2, 1) := by decide +kernel
theorem dX6_sample_22 : decode cX6_sample 22 = .ok (.invokestatic 89, 3) := by decide +kernel
theorem dX6_sample_25 : decode cX6_sample 25 = .ok (.ifCond .ne 13, 3) := by decide +kernel
theorem dX6_sample_28 : decode cX6_sample 28 = .ok (.new 62, 3) := by decide +kernel
theorem dX6_sample_31 : decode cX6_sample 31 = .ok (.dup, 1) := by decide +kernel
theorem dX6_sample_32 : decode cX6_sample 32 = .ok (.ldc 92, 2) := by decide +kernel
theorem dX6_sample_34 : decode cX6_sample 34 = .ok (.invokespecial 66, 3) := by decide +kernel
theorem dX6_sample_37 : decode cX6_sample 37 = .ok (.athrow, 1) := by decide +kernel
theorem dX6_sample_38 : decode cX6_sample 38 = .ok (.aload_n 0, 1) := by decide +kernel
theorem dX6_sample_39 : decode cX6_sample 39 = .ok (.invokevirtual 69, 3) := by decide +kernel
theorem dX6_sample_42 : decode cX6_sample 42 = .ok (.aload_n 0, 1) := by decide +kernel
theorem dX6_sample_43 : decode cX6_sample 43 = .ok (.getfield 12, 3) := by decide +kernel
theorem dX6_sample_46 : decode cX6_sample 46 = .ok (.getfield 94, 3) := by decide +kernel
theorem dX6_sample_49 : decode cX6_sample 49 = .ok (.iload_n 1, 1) := by decide +kernel
theorem dX6_sample_50 : decode cX6_sample 50 = .ok (.iaload, 1) := by decide +kernel
theorem dX6_sample_51 : decode cX6_sample 51 = .ok (.istore_n 3, 1) := by decide +kernel
theorem dX6_sample_52 : decode cX6_sample 52 = .ok (.aload_n 0, 1) := by decide +kernel
theorem dX6_sample_53 : decode cX6_sample 53 = .ok (.getfield 12, 3) := by decide +kernel
theorem dX6_sample_56 : decode cX6_sample 56 = .ok (.getfield 94, 3) := by decide +kernel
theorem dX6_sample_59 : decode cX6_sample 59 = .ok (.iload_n 1, 1) := by decide +kernel
theorem dX6_sample_60 : decode cX6_sample 60 = .ok (.iload_n 2, 1) := by decide +kernel
theorem dX6_sample_61 : decode cX6_sample 61 = .ok (.iastore, 1) := by decide +kernel
theorem dX6_sample_62 : decode cX6_sample 62 = .ok (.aload_n 0, 1) := by decide +kernel
theorem dX6_sample_63 : decode cX6_sample 63 = .ok (.getfield 12, 3) := by decide +kernel
theorem dX6_sample_66 : decode cX6_sample 66 = .ok (.invokevirtual 98, 3) := by decide +kernel
theorem dX6_sample_69 : decode cX6_sample 69 = .ok (.iload_n 3, 1) := by decide +kernel
theorem dX6_sample_70 : decode cX6_sample 70 = .ok (.sipush 10000, 3) := by decide +kernel
theorem dX6_sample_73 : decode cX6_sample 73 = .ok (.iadd, 1) := by decide +kernel
theorem dX6_sample_74 : decode cX6_sample 74 = .ok (.ireturn, 1) := by decide +kernel
theorem dX6_add_0 : decode cX6_add 0 = .ok (.iload_n 1, 1) := by decide +kernel
theorem dX6_add_1 : decode cX6_add 1 = .ok (.ifCond .lt 8, 3) := by decide +kernel
theorem dX6_add_4 : decode cX6_add 4 = .ok (.iload_n 1, 1) := by decide +kernel
theorem dX6_add_5 : decode cX6_add 5 = .ok (.iconst 2, 1) := by decide +kernel
theorem dX6_add_6 : decode cX6_add 6 = .ok (.if_icmp .le 13, 3) := by decide +kernel
theorem dX6_add_9 : decode cX6_add 9 = .ok (.new 62, 3) := by decide +kernel
theorem dX6_add_12 : decode cX6_add 12 = .ok (.dup, 1) := by decide +kernel
theorem dX6_add_13 : decode cX6_add 13 = .ok (.ldc 101, 2) := by decide +kernel
theorem dX6_add_15 : decode cX6_add 15 = .ok (.invokespecial 66, 3) := by decide +kernel
theorem dX6_add_18 : decode cX6_add 18 = .ok (.athrow, 1) := by decide +kernel
theorem dX6_add_19 : decode cX6_add 19 = .ok (.iload_n 2, 1) := by decide +kernel
theorem dX6_add_20 : decode cX6_add 20 = .ok (.ifCond .lt 10, 3) := by decide +kernel
theorem dX6_add_23 : decode cX6_add 23 = .ok (.iload_n 2, 1) := by decide +kernel
theorem dX6_add_24 : decode cX6_add 24 = .ok (.sipush 2047, 3) := by decide +kernel
theorem dX6_add_27 : decode cX6_add 27 = .ok (.if_icmp .le 13, 3) := by decide +kernel
theorem dX6_add_30 : decode cX6_add 30 = .ok (.new 62, 3) := by decide +kernel
theorem dX6_add_33 : decode cX6_add 33 = .ok (.dup, 1) := by decide +kernel
theorem dX6_add_34 : decode cX6_add 34 = .ok (.ldc 103, 2) := by decide +kernel
theorem dX6_add_36 : decode cX6_add 36 = .ok (.invokespecial 66, 3) := by decide +kernel
theorem dX6_add_39 : decode cX6_add 39 = .ok (.athrow, 1) := by decide +kernel
theorem dX6_add_40 : decode cX6_add 40 = .ok (.iload_n 3, 1) := by decide +kernel
theorem dX6_add_41 : decode cX6_add 41 = .ok (.iconst 1, 1) := by decide +kernel
theorem dX6_add_42 : decode cX6_add 42 = .ok (.if_icmp .lt 9, 3) := by decide +kernel
theorem dX6_add_45 : decode cX6_add 45 = .ok (.iload_n 3, 1) := by decide +kernel
theorem dX6_add_46 : decode cX6_add 46 = .ok (.bipush 64, 2) := by decide +kernel
theorem dX6_add_48 : decode cX6_add 48 = .ok (.if_icmp .le 13, 3) := by decide +kernel
theorem dX6_add_51 : decode cX6_add 51 = .ok (.new 62, 3) := by decide +kernel
theorem dX6_add_54 : decode cX6_add 54 = .ok (.dup, 1) := by decide +kernel
theorem dX6_add_55 : decode cX6_add 55 = .ok (.ldc 105, 2) := by decide +kernel
theorem dX6_add_57 : decode cX6_add 57 = .ok (.invokespecial 66, 3) := by decide +kernel
theorem dX6_add_60 : decode cX6_add 60 = .ok (.athrow, 1) := by decide +kernel
theorem dX6_add_61 : decode cX6_add 61 = .ok (.aload_n 0, 1) := by decide +kernel
theorem dX6_add_62 : decode cX6_add 62 = .ok (.invokevirtual 69, 3) := by decide +kernel
theorem dX6_add_65 : decode cX6_add 65 = .ok (.iconst 0, 1) := by decide +kernel
theorem dX6_add_66 : decode cX6_add 66 = .ok (.istore 4, 2) := by decide +kernel
theorem dX6_add_68 : decode cX6_add 68 = .ok (.iconst 0, 1) := by decide +kernel
theorem dX6_add_69 : decode cX6_add 69 = .ok (.istore 5, 2) := by decide +kernel
theorem dX6_add_71 : decode cX6_add 71 = .ok (.iload 5, 2) := by decide +kernel
theorem dX6_add_73 : decode cX6_add 73 = .ok (.aload_n 0, 1) := by decide +kernel
theorem dX6_add_74 : decode cX6_add 74 = .ok (.getfield 12, 3) := by decide +kernel
theorem dX6_add_77 : decode cX6_add 77 = .ok (.getfield 72, 3) := by decide +kernel
theorem dX6_add_80 : decode cX6_add 80 = .ok (.if_icmp .ge 58, 3) := by decide +kernel
theorem dX6_add_83 : decode cX6_add 83 = .ok (.aload_n 0, 1) := by decide +kernel
theorem dX6_add_84 : decode cX6_add 84 = .ok (.getfield 12, 3) := by decide +kernel
theorem dX6_add_87 : decode cX6_add 87 = .ok (.getfield 94, 3) := by decide +kernel
theorem dX6_add_90 : decode cX6_add 90 = .ok (.iload 5, 2) := by decide +kernel
theorem dX6_add_92 : decode cX6_add 92 = .ok (.iaload, 1) := by decide +kernel
theorem dX6_add_93 : decode cX6_add 93 = .ok (.iload_n 1, 1) := by decide +kernel
theorem dX6_add_94 : decode cX6_add 94 = .ok (.iload_n 2, 1) := by decide +kernel
theorem dX6_add_95 : decode cX6_add 95 = .ok (.iload_n 3, 1) := by decide +kernel
theorem dX6_add_96 : decode cX6_add 96 = .ok (.iload 5, 2) := by decide +kernel
theorem dX6_add_98 : decode cX6_add 98 = .ok (.iload_n 3, 1) := by decide +kernel
theorem dX6_add_99 : decode cX6_add 99 = .ok (.irem, 1) := by decide +kernel
theorem dX6_add_100 : decode cX6_add 100 = .ok (.invokestatic 107, 3) := by decide +kernel
theorem dX6_add_103 : decode cX6_add 103 = .ok (.iadd, 1) := by decide +kernel
theorem dX6_add_104 : decode cX6_add 104 = .ok (.istore 6, 2) := by decide +kernel
theorem dX6_add_106 : decode cX6_add 106 = .ok (.aload_n 0, 1) := by decide +kernel
theorem dX6_add_107 : decode cX6_add 107 = .ok (.getfield 12, 3) := by decide +kernel
theorem dX6_add_110 : decode cX6_add 110 = .ok (.getfield 94, 3) := by decide +kernel
theorem dX6_add_113 : decode cX6_add 113 = .ok (.iload 5, 2) := by decide +kernel
theorem dX6_add_115 : decode cX6_add 115 = .ok (.iload 6, 2) := by decide +kernel
theorem dX6_add_117 : decode cX6_add 117 = .ok (.invokestatic 111, 3) := by decide +kernel
theorem dX6_add_120 : decode cX6_add 120 = .ok (.iastore, 1) := by decide +kernel
theorem dX6_add_121 : decode cX6_add 121 = .ok (.iload 6, 2) := by decide +kernel
theorem dX6_add_123 : decode cX6_add 123 = .ok (.invokestatic 89, 3) := by decide +kernel
theorem dX6_add_126 : decode cX6_add 126 = .ok (.ifCond .ne 6, 3) := by decide +kernel
theorem dX6_add_129 : decode cX6_add 129 = .ok (.iinc 4 1, 3) := by decide +kernel
theorem dX6_add_132 : decode cX6_add 132 = .ok (.iinc 5 1, 3) := by decide +kernel
theorem dX6_add_135 : decode cX6_add 135 = .ok (.goto (-64), 3) := by decide +kernel
theorem dX6_add_138 : decode cX6_add 138 = .ok (.aload_n 0, 1) := by decide +kernel
theorem dX6_add_139 : decode cX6_add 139 = .ok (.getfield 12, 3) := by decide +kernel
theorem dX6_add_142 : decode cX6_add 142 = .ok (.invokevirtual 98, 3) := by decide +kernel
theorem dX6_add_145 : decode cX6_add 145 = .ok (.iload 4, 2) := by decide +kernel
theorem dX6_add_147 : decode cX6_add 147 = .ok (.ireturn, 1) := by decide +kernel
theorem dX6_set_0 : decode cX6_set 0 = .ok (.iload_n 1, 1) := by decide +kernel
theorem dX6_set_1 : decode cX6_set 1 = .ok (.invokestatic 139, 3) := by decide +kernel
theorem dX6_set_4 : decode cX6_set 4 = .ok (.ifCond .ne 13, 3) := by decide +kernel
theorem dX6_set_7 : decode cX6_set 7 = .ok (.new 84, 3) := by decide +kernel
theorem dX6_set_10 : decode cX6_set 10 = .ok (.dup, 1) := by decide +kernel
theorem dX6_set_11 : decode cX6_set 11 = .ok (.ldc 142, 2) := by decide +kernel
theorem dX6_set_13 : decode cX6_set 13 = .ok (.invokespecial 88, 3) := by decide +kernel
theorem dX6_set_16 : decode cX6_set 16 = .ok (.athrow, 1) := by decide +kernel
theorem dX6_set_17 : decode cX6_set 17 = .ok (.iload_n 2, 1) := by decide +kernel
theorem dX6_set_18 : decode cX6_set 18 = .ok (.iload_n 1, 1) := by decide +kernel
theorem dX6_set_19 : decode cX6_set 19 = .ok (.invokestatic 144, 3) := by decide +kernel
theorem dX6_set_22 : decode cX6_set 22 = .ok (.if_icmp .lt 11, 3) := by decide +kernel
theorem dX6_set_25 : decode cX6_set 25 = .ok (.iload_n 2, 1) := by decide +kernel
theorem dX6_set_26 : decode cX6_set 26 = .ok (.iload_n 1, 1) := by decide +kernel
theorem dX6_set_27 : decode cX6_set 27 = .ok (.invokestatic 147, 3) := by decide +kernel
theorem dX6_set_30 : decode cX6_set 30 = .ok (.if_icmp .le 13, 3) := by decide +kernel
theorem dX6_set_33 : decode cX6_set 33 = .ok (.new 62, 3) := by decide +kernel
theorem dX6_set_36 : decode cX6_set 36 = .ok (.dup, 1) := by decide +kernel
theorem dX6_set_37 : decode cX6_set 37 = .ok (.ldc 150, 2) := by decide +kernel
theorem dX6_set_39 : decode cX6_set 39 = .ok (.invokespecial 66, 3) := by decide +kernel
theorem dX6_set_42 : decode cX6_set 42 = .ok (.athrow, 1) := by decide +kernel
theorem dX6_set_43 : decode cX6_set 43 = .ok (.aload_n 0, 1) := by decide +kernel
theorem dX6_set_44 : decode cX6_set 44 = .ok (.invokevirtual 69, 3) := by decide +kernel
theorem dX6_set_47 : decode cX6_set 47 = .ok (.aload_n 0, 1) := by decide +kernel
theorem dX6_set_48 : decode cX6_set 48 = .ok (.getfield 12, 3) := by decide +kernel
theorem dX6_set_51 : decode cX6_set 51 = .ok (.getfield 152, 3) := by decide +kernel
theorem dX6_set_54 : decode cX6_set 54 = .ok (.iload_n 1, 1) := by decide +kernel
theorem dX6_set_55 : decode cX6_set 55 = .ok (.iaload, 1) := by decide +kernel
theorem dX6_set_56 : decode cX6_set 56 = .ok (.istore_n 3, 1) := by decide +kernel
theorem dX6_set_57 : decode cX6_set 57 = .ok (.aload_n 0, 1) := by decide +kernel
theorem dX6_set_58 : decode cX6_set 58 = .ok (.getfield 12, 3) := by decide +kernel
theorem dX6_set_61 : decode cX6_set 61 = .ok (.getfield 152, 3) := by decide +kernel
theorem dX6_set_64 : decode cX6_set 64 = .ok (.iload_n 1, 1) := by decide +kernel
theorem dX6_set_65 : decode cX6_set 65 = .ok (.iload_n 2, 1) := by decide +kernel
theorem dX6_set_66 : decode cX6_set 66 = .ok (.iastore, 1) := by decide +kernel
theorem dX6_set_67 : decode cX6_set 67 = .ok (.iload_n 1, 1) := by decide +kernel
theorem dX6_set_68 : decode cX6_set 68 = .ok (.iconst 2, 1) := by decide +kernel
theorem dX6_set_69 : decode cX6_set 69 = .ok (.if_icmp .eq 10, 3) := by decide +kernel
theorem dX6_set_72 : decode cX6_set 72 = .ok (.aload_n 0, 1) := by decide +kernel
theorem dX6_set_73 : decode cX6_set 73 = .ok (.getfield 12, 3) := by decide +kernel
theorem dX6_set_76 : decode cX6_set 76 = .ok (.invokevirtual 98, 3) := by decide +kernel
theorem dX6_set_79 : decode cX6_set 79 = .ok (.iload_n 3, 1) := by decide +kernel
theorem dX6_set_80 : decode cX6_set 80 = .ok (.ireturn, 1) := by decide +kernel
theorem dX6_code_0 : decode cX6_code 0 = .ok (.aload_n 0, 1) := by decide +kernel
theorem dX6_code_1 : decode cX6_code 1 = .ok (.invokevirtual 69, 3) := by decide +kernel
theorem dX6_code_4 : decode cX6_code 4 = .ok (.aload_n 0, 1) := by decide +kernel
theorem dX6_code_5 : decode cX6_code 5 = .ok (.getfield 41, 3) := by decide +kernel
theorem dX6_code_8 : decode cX6_code 8 = .ok (.aload_n 0, 1) := by decide +kernel
theorem dX6_code_9 : decode cX6_code 9 = .ok (.getfield 12, 3) := by decide +kernel
theorem dX6_code_12 : decode cX6_code 12 = .ok (.invokevirtual 155, 3) := by decide +kernel
theorem dX6_code_15 : decode cX6_code 15 = .ok (.aload_n 0, 1) := by decide +kernel
theorem dX6_code_16 : decode cX6_code 16 = .ok (.getfield 12, 3) := by decide +kernel
theorem dX6_code_19 : decode cX6_code 19 = .ok (.getfield 158, 3) := by decide +kernel
theorem dX6_code_22 : decode cX6_code 22 = .ok (.ireturn, 1) := by decide +kernel
theorem dX6_lose_0 : decode cX6_lose 0 = .ok (.aload_n 0, 1) := by decide +kernel
theorem dX6_lose_1 : decode cX6_lose 1 = .ok (.iload_n 1, 1) := by decide +kernel
theorem dX6_lose_2 : decode cX6_lose 2 = .ok (.invokevirtual 161, 3) := by decide +kernel
theorem dX6_lose_5 : decode cX6_lose 5 = .ok (.aload_n 0, 1) := by decide +kernel
theorem dX6_lose_6 : decode cX6_lose 6 = .ok (.invokevirtual 69, 3) := by decide +kernel
theorem dX6_lose_9 : decode cX6_lose 9 = .ok (.aload_n 0, 1) := by decide +kernel
theorem dX6_lose_10 : decode cX6_lose 10 = .ok (.getfield 12, 3) := by decide +kernel
theorem dX6_lose_13 : decode cX6_lose 13 = .ok (.getfield 164, 3) := by decide +kernel
theorem dX6_lose_16 : decode cX6_lose 16 = .ok (.iload_n 1, 1) := by decide +kernel
theorem dX6_lose_17 : decode cX6_lose 17 = .ok (.aload_n 0, 1) := by decide +kernel
theorem dX6_lose_18 : decode cX6_lose 18 = .ok (.getfield 12, 3) := by decide +kernel
theorem dX6_lose_21 : decode cX6_lose 21 = .ok (.getfield 164, 3) := by decide +kernel
theorem dX6_lose_24 : decode cX6_lose 24 = .ok (.iload_n 1, 1) := by decide +kernel
theorem dX6_lose_25 : decode cX6_lose 25 = .ok (.baload, 1) := by decide +kernel
theorem dX6_lose_26 : decode cX6_lose 26 = .ok (.ifCond .ne 7, 3) := by decide +kernel
theorem dX6_lose_29 : decode cX6_lose 29 = .ok (.iconst 1, 1) := by decide +kernel
theorem dX6_lose_30 : decode cX6_lose 30 = .ok (.goto 4, 3) := by decide +kernel
theorem dX6_lose_33 : decode cX6_lose 33 = .ok (.iconst 0, 1) := by decide +kernel
theorem dX6_lose_34 : decode cX6_lose 34 = .ok (.bastore, 1) := by decide +kernel
theorem dX6_lose_35 : decode cX6_lose 35 = .ok (.aload_n 0, 1) := by decide +kernel
theorem dX6_lose_36 : decode cX6_lose 36 = .ok (.getfield 12, 3) := by decide +kernel
theorem dX6_lose_39 : decode cX6_lose 39 = .ok (.invokevirtual 167, 3) := by decide +kernel
theorem dX6_lose_42 : decode cX6_lose 42 = .ok (.ireturn, 1) := by decide +kernel
theorem dX6_spoil_0 : decode cX6_spoil 0 = .ok (.aload_n 0, 1) := by decide +kernel
theorem dX6_spoil_1 : decode cX6_spoil 1 = .ok (.iload_n 1, 1) := by decide +kernel
theorem dX6_spoil_2 : decode cX6_spoil 2 = .ok (.iload_n 2, 1) := by decide +kernel
theorem dX6_spoil_3 : decode cX6_spoil 3 = .ok (.invokevirtual 171, 3) := by decide +kernel
theorem dX6_spoil_6 : decode cX6_spoil 6 = .ok (.aload_n 0, 1) := by decide +kernel
theorem dX6_spoil_7 : decode cX6_spoil 7 = .ok (.invokevirtual 69, 3) := by decide +kernel
theorem dX6_spoil_10 : decode cX6_spoil 10 = .ok (.aload_n 0, 1) := by decide +kernel
theorem dX6_spoil_11 : decode cX6_spoil 11 = .ok (.getfield 12, 3) := by decide +kernel
theorem dX6_spoil_14 : decode cX6_spoil 14 = .ok (.iload_n 1, 1) := by decide +kernel
theorem dX6_spoil_15 : decode cX6_spoil 15 = .ok (.iload_n 2, 1) := by decide +kernel
theorem dX6_spoil_16 : decode cX6_spoil 16 = .ok (.invokevirtual 175, 3) := by decide +kernel
theorem dX6_spoil_19 : decode cX6_spoil 19 = .ok (.aload_n 0, 1) := by decide +kernel
theorem dX6_spoil_20 : decode cX6_spoil 20 = .ok (.getfield 12, 3) := by decide +kernel
theorem dX6_spoil_23 : decode cX6_spoil 23 = .ok (.dup, 1) := by decide +kernel
theorem dX6_spoil_24 : decode cX6_spoil 24 = .ok (.getfield 178, 3) := by decide +kernel
theorem dX6_spoil_27 : decode cX6_spoil 27 = .ok (.iconst 1, 1) := by decide +kernel
theorem dX6_spoil_28 : decode cX6_spoil 28 = .ok (.iadd, 1) := by decide +kernel
theorem dX6_spoil_29 : decode cX6_spoil 29 = .ok (.putfield 178, 3) := by decide +kernel
theorem dX6_spoil_32 : decode cX6_spoil 32 = .ok (.aload_n 0, 1) := by decide +kernel
theorem dX6_spoil_33 : decode cX6_spoil 33 = .ok (.getfield 12, 3) := by decide +kernel
theorem dX6_spoil_36 : decode cX6_spoil 36 = .ok (.getfield 181, 3) := by decide +kernel
theorem dX6_spoil_39 : decode cX6_spoil 39 = .ok (.iload_n 1, 1) := by decide +kernel
theorem dX6_spoil_40 : decode cX6_spoil 40 = .ok (.iaload, 1) := by decide +kernel
theorem dX6_spoil_41 : decode cX6_spoil 41 = .ok (.ireturn, 1) := by decide +kernel
theorem dX6_clearBuffer_0 : decode cX6_clearBuffer 0 = .ok (.aload_n 0, 1) := by decide +kernel
theorem dX6_clearBuffer_1 : decode cX6_clearBuffer 1 = .ok (.getfield 34, 3) := by decide +kernel
theorem dX6_clearBuffer_4 : decode cX6_clearBuffer 4 = .ok (.getfield 194, 3) := by decide +kernel
theorem dX6_clearBuffer_7 : decode cX6_clearBuffer 7 = .ok (.istore_n 1, 1) := by decide +kernel
theorem dX6_clearBuffer_8 : decode cX6_clearBuffer 8 = .ok (.aload_n 0, 1) := by decide +kernel
theorem dX6_clearBuffer_9 : decode cX6_clearBuffer 9 = .ok (.getfield 34, 3) := by decide +kernel
theorem dX6_clearBuffer_12 : decode cX6_clearBuffer 12 = .ok (.iconst 0, 1) := by decide +kernel
theorem dX6_clearBuffer_13 : decode cX6_clearBuffer 13 = .ok (.putfield 194, 3) := by decide +kernel
theorem dX6_clearBuffer_16 : decode cX6_clearBuffer 16 = .ok (.iload_n 1, 1) := by decide +kernel
theorem dX6_clearBuffer_17 : decode cX6_clearBuffer 17 = .ok (.ireturn, 1) := by decide +kernel
theorem dX6_firstError_0 : decode cX6_firstError 0 = .ok (.aload_n 0, 1) := by decide +kernel
theorem dX6_firstError_1 : decode cX6_firstError 1 = .ok (.getfield 34, 3) := by decide +kernel
theorem dX6_firstError_4 : decode cX6_firstError 4 = .ok (.invokevirtual 197, 3) := by decide +kernel
theorem dX6_firstError_7 : decode cX6_firstError 7 = .ok (.ireturn, 1) := by decide +kernel
theorem dX6_load_0 : decode cX6_load 0 = .ok (.aload_n 0, 1) := by decide +kernel
theorem dX6_load_1 : decode cX6_load 1 = .ok (.iload_n 1, 1) := by decide +kernel
theorem dX6_load_2 : decode cX6_load 2 = .ok (.invokevirtual 161, 3) := by decide +kernel
theorem dX6_load_5 : decode cX6_load 5 = .ok (.aload_n 0, 1) := by decide +kernel
theorem dX6_load_6 : decode cX6_load 6 = .ok (.getfield 34, 3) := by decide +kernel
theorem dX6_load_9 : decode cX6_load 9 = .ok (.invokevirtual 200, 3) := by decide +kernel
theorem dX6_load_12 : decode cX6_load 12 = .ok (.ifCond .eq 21, 3) := by decide +kernel
theorem dX6_load_15 : decode cX6_load 15 = .ok (.aload_n 0, 1) := by decide +kernel
theorem dX6_load_16 : decode cX6_load 16 = .ok (.getfield 34, 3) := by decide +kernel
theorem dX6_load_19 : decode cX6_load 19 = .ok (.getfield 203, 3) := by decide +kernel
theorem dX6_load_22 : decode cX6_load 22 = .ok (.aload_n 0, 1) := by decide +kernel
theorem dX6_load_23 : decode cX6_load 23 = .ok (.getfield 12, 3) := by decide +kernel
theorem dX6_load_26 : decode cX6_load 26 = .ok (.iload_n 1, 1) := by decide +kernel
theorem dX6_load_27 : decode cX6_load 27 = .ok (.invokevirtual 206, 3) := by decide +kernel
theorem dX6_load_30 : decode cX6_load 30 = .ok (.if_icmp .eq 13, 3) := by decide +kernel
theorem dX6_load_33 : decode cX6_load 33 = .ok (.new 62, 3) := by decide +kernel
theorem dX6_load_36 : decode cX6_load 36 = .ok (.dup, 1) := by decide +kernel
theorem dX6_load_37 : decode cX6_load 37 = .ok (.ldc 209, 2) := by decide +kernel
theorem dX6_load_39 : decode cX6_load 39 = .ok (.invokespecial 66, 3) := by decide +kernel
theorem dX6_load_42 : decode cX6_load 42 = .ok (.athrow, 1) := by decide +kernel
theorem dX6_load_43 : decode cX6_load 43 = .ok (.aload_n 0, 1) := by decide +kernel
theorem dX6_load_44 : decode cX6_load 44 = .ok (.getfield 48, 3) := by decide +kernel
theorem dX6_load_47 : decode cX6_load 47 = .ok (.aload_n 0, 1) := by decide +kernel
theorem dX6_load_48 : decode cX6_load 48 = .ok (.getfield 12, 3) := by decide +kernel
theorem dX6_load_51 : decode cX6_load 51 = .ok (.invokevirtual 124, 3) := by decide +kernel
theorem dX6_load_54 : decode cX6_load 54 = .ok (.aload_n 0, 1) := by decide +kernel
theorem dX6_load_55 : decode cX6_load 55 = .ok (.invokevirtual 69, 3) := by decide +kernel
theorem dX6_load_58 : decode cX6_load 58 = .ok (.aload_n 0, 1) := by decide +kernel
theorem dX6_load_59 : decode cX6_load 59 = .ok (.getfield 12, 3) := by decide +kernel
theorem dX6_load_62 : decode cX6_load 62 = .ok (.iload_n 1, 1) := by decide +kernel
theorem dX6_load_63 : decode cX6_load 63 = .ok (.aload_n 0, 1) := by decide +kernel
theorem dX6_load_64 : decode cX6_load 64 = .ok (.getfield 34, 3) := by decide +kernel
theorem dX6_load_67 : decode cX6_load 67 = .ok (.invokevirtual 211, 3) := by decide +kernel
theorem dX6_load_70 : decode cX6_load 70 = .ok (.aload_n 0, 1) := by decide +kernel
theorem dX6_load_71 : decode cX6_load 71 = .ok (.getfield 34, 3) := by decide +kernel
theorem dX6_load_74 : decode cX6_load 74 = .ok (.iconst 0, 1) := by decide +kernel
theorem dX6_load_75 : decode cX6_load 75 = .ok (.putfield 194, 3) := by decide +kernel
theorem dX6_load_78 : decode cX6_load 78 = .ok (.aload_n 0, 1) := by decide +kernel
theorem dX6_load_79 : decode cX6_load 79 = .ok (.getfield 52, 3) := by decide +kernel
theorem dX6_load_82 : decode cX6_load 82 = .ok (.iconst 0, 1) := by decide +kernel
theorem dX6_load_83 : decode cX6_load 83 = .ok (.putfield 215, 3) := by decide +kernel
theorem dX6_load_86 : decode cX6_load 86 = .ok (.aload_n 0, 1) := by decide +kernel
theorem dX6_load_87 : decode cX6_load 87 = .ok (.getfield 52, 3) := by decide +kernel
theorem dX6_load_90 : decode cX6_load 90 = .ok (.aload_n 0, 1) := by decide +kernel
theorem dX6_load_91 : decode cX6_load 91 = .ok (.getfield 12, 3) := by decide +kernel
theorem dX6_load_94 : decode cX6_load 94 = .ok (.invokevirtual 124, 3) := by decide +kernel
theorem dX6_load_97 : decode cX6_load 97 = .ok (.aload_n 0, 1) := by decide +kernel
theorem dX6_load_98 : decode cX6_load 98 = .ok (.getfield 52, 3) := by decide +kernel
theorem dX6_load_101 : decode cX6_load 101 = .ok (.aload_n 0, 1) := by decide +kernel
theorem dX6_load_102 : decode cX6_load 102 = .ok (.getfield 48, 3) := by decide +kernel
theorem dX6_load_105 : decode cX6_load 105 = .ok (.aload_n 0, 1) := by decide +kernel
theorem dX6_load_106 : decode cX6_load 106 = .ok (.getfield 12, 3) := by decide +kernel
theorem dX6_load_109 : decode cX6_load 109 = .ok (.getfield 72, 3) := by decide +kernel
theorem dX6_load_112 : decode cX6_load 112 = .ok (.invokevirtual 219, 3) := by decide +kernel
theorem dX6_load_115 : decode cX6_load 115 = .ok (.ireturn, 1) := by decide +kernel
theorem dX6_write_0 : decode cX6_write 0 = .ok (.aload_n 0, 1) := by decide +kernel
theorem dX6_write_1 : decode cX6_write 1 = .ok (.iload_n 1, 1) := by decide +kernel
theorem dX6_write_2 : decode cX6_write 2 = .ok (.invokevirtual 161, 3) := by decide +kernel
theorem dX6_write_5 : decode cX6_write 5 = .ok (.aload_n 0, 1) := by decide +kernel
theorem dX6_write_6 : decode cX6_write 6 = .ok (.getfield 34, 3) := by decide +kernel
theorem dX6_write_9 : decode cX6_write 9 = .ok (.aload_n 0, 1) := by decide +kernel
theorem dX6_write_10 : decode cX6_write 10 = .ok (.getfield 12, 3) := by decide +kernel
theorem dX6_write_13 : decode cX6_write 13 = .ok (.iload_n 1, 1) := by decide +kernel
theorem dX6_write_14 : decode cX6_write 14 = .ok (.invokevirtual 223, 3) := by decide +kernel
theorem dX6_write_17 : decode cX6_write 17 = .ok (.aload_n 0, 1) := by decide +kernel
theorem dX6_write_18 : decode cX6_write 18 = .ok (.getfield 34, 3) := by decide +kernel
theorem dX6_write_21 : decode cX6_write 21 = .ok (.getfield 194, 3) := by decide +kernel
theorem dX6_write_24 : decode cX6_write 24 = .ok (.ireturn, 1) := by decide +kernel
theorem dX6_keep_0 : decode cX6_keep 0 = .ok (.aload_n 0, 1) := by decide +kernel
theorem dX6_keep_1 : decode cX6_keep 1 = .ok (.iload_n 1, 1) := by decide +kernel
theorem dX6_keep_2 : decode cX6_keep 2 = .ok (.invokevirtual 227, 3) := by decide +kernel
theorem dX6_keep_5 : decode cX6_keep 5 = .ok (.aload_n 0, 1) := by decide +kernel
theorem dX6_keep_6 : decode cX6_keep 6 = .ok (.getfield 23, 3) := by decide +kernel
theorem dX6_keep_9 : decode cX6_keep 9 = .ok (.iload_n 1, 1) := by decide +kernel
theorem dX6_keep_10 : decode cX6_keep 10 = .ok (.aaload, 1) := by decide +kernel
theorem dX6_keep_11 : decode cX6_keep 11 = .ok (.aload_n 0, 1) := by decide +kernel
theorem dX6_keep_12 : decode cX6_keep 12 = .ok (.getfield 12, 3) := by decide +kernel
theorem dX6_keep_15 : decode cX6_keep 15 = .ok (.invokevirtual 230, 3) := by decide +kernel
theorem dX6_keep_18 : decode cX6_keep 18 = .ok (.aload_n 0, 1) := by decide +kernel
theorem dX6_keep_19 : decode cX6_keep 19 = .ok (.getfield 27, 3) := by decide +kernel
theorem dX6_keep_22 : decode cX6_keep 22 = .ok (.iload_n 1, 1) := by decide +kernel
theorem dX6_keep_23 : decode cX6_keep 23 = .ok (.iconst 1, 1) := by decide +kernel
theorem dX6_keep_24 : decode cX6_keep 24 = .ok (.bastore, 1) := by decide +kernel
theorem dX6_keep_25 : decode cX6_keep 25 = .ok (.aload_n 0, 1) := by decide +kernel
theorem dX6_keep_26 : decode cX6_keep 26 = .ok (.getfield 12, 3) := by decide +kernel
theorem dX6_keep_29 : decode cX6_keep 29 = .ok (.getfield 72, 3) := by decide +kernel
theorem dX6_keep_32 : decode cX6_keep 32 = .ok (.ireturn, 1) := by decide +kernel
theorem dX6_goBack_0 : decode cX6_goBack 0 = .ok (.aload_n 0, 1) := by decide +kernel
theorem dX6_goBack_1 : decode cX6_goBack 1 = .ok (.iload_n 1, 1) := by decide +kernel
theorem dX6_goBack_2 : decode cX6_goBack 2 = .ok (.invokevirtual 227, 3) := by decide +kernel
theorem dX6_goBack_5 : decode cX6_goBack 5 = .ok (.aload_n 0, 1) := by decide +kernel
theorem dX6_goBack_6 : decode cX6_goBack 6 = .ok (.getfield 27, 3) := by decide +kernel
theorem dX6_goBack_9 : decode cX6_goBack 9 = .ok (.iload_n 1, 1) := by decide +kernel
theorem dX6_goBack_10 : decode cX6_goBack 10 = .ok (.baload, 1) := by decide +kernel
theorem dX6_goBack_11 : decode cX6_goBack 11 = .ok (.ifCond .ne 13, 3) := by decide +kernel
theorem dX6_goBack_14 : decode cX6_goBack 14 = .ok (.new 119, 3) := by decide +kernel
theorem dX6_goBack_17 : decode cX6_goBack 17 = .ok (.dup, 1) := by decide +kernel
theorem dX6_goBack_18 : decode cX6_goBack 18 = .ok (.ldc 233, 2) := by decide +kernel
theorem dX6_goBack_20 : decode cX6_goBack 20 = .ok (.invokespecial 123, 3) := by decide +kernel
theorem dX6_goBack_23 : decode cX6_goBack 23 = .ok (.athrow, 1) := by decide +kernel
theorem dX6_goBack_24 : decode cX6_goBack 24 = .ok (.aload_n 0, 1) := by decide +kernel
theorem dX6_goBack_25 : decode cX6_goBack 25 = .ok (.invokevirtual 69, 3) := by decide +kernel
theorem dX6_goBack_28 : decode cX6_goBack 28 = .ok (.aload_n 0, 1) := by decide +kernel
theorem dX6_goBack_29 : decode cX6_goBack 29 = .ok (.getfield 12, 3) := by decide +kernel
theorem dX6_goBack_32 : decode cX6_goBack 32 = .ok (.aload_n 0, 1) := by decide +kernel
theorem dX6_goBack_33 : decode cX6_goBack 33 = .ok (.getfield 23, 3) := by decide +kernel
theorem dX6_goBack_36 : decode cX6_goBack 36 = .ok (.iload_n 1, 1) := by decide +kernel
theorem dX6_goBack_37 : decode cX6_goBack 37 = .ok (.aaload, 1) := by decide +kernel
theorem dX6_goBack_38 : decode cX6_goBack 38 = .ok (.invokevirtual 230, 3) := by decide +kernel
theorem dX6_goBack_41 : decode cX6_goBack 41 = .ok (.aload_n 0, 1) := by decide +kernel
theorem dX6_goBack_42 : decode cX6_goBack 42 = .ok (.getfield 12, 3) := by decide +kernel
theorem dX6_goBack_45 : decode cX6_goBack 45 = .ok (.getfield 72, 3) := by decide +kernel
theorem dX6_goBack_48 : decode cX6_goBack 48 = .ok (.ireturn, 1) := by decide +kernel
theorem dX6_undo_0 : decode cX6_undo 0 = .ok (.aload_n 0, 1) := by decide +kernel
theorem dX6_undo_1 : decode cX6_undo 1 = .ok (.getfield 19, 3) := by decide +kernel
theorem dX6_undo_4 : decode cX6_undo 4 = .ok (.getfield 235, 3) := by decide +kernel
theorem dX6_undo_7 : decode cX6_undo 7 = .ok (.ifCond .ne 13, 3) := by decide +kernel
theorem dX6_undo_10 : decode cX6_undo 10 = .ok (.new 119, 3) := by decide +kernel
theorem dX6_undo_13 : decode cX6_undo 13 = .ok (.dup, 1) := by decide +kernel
theorem dX6_undo_14 : decode cX6_undo 14 = .ok (.ldc 236, 2) := by decide +kernel
theorem dX6_undo_16 : decode cX6_undo 16 = .ok (.invokespecial 123, 3) := by decide +kernel
theorem dX6_undo_19 : decode cX6_undo 19 = .ok (.athrow, 1) := by decide +kernel
theorem dX6_undo_20 : decode cX6_undo 20 = .ok (.aload_n 0, 1) := by decide +kernel
theorem dX6_undo_21 : decode cX6_undo 21 = .ok (.getfield 19, 3) := by decide +kernel
theorem dX6_undo_24 : decode cX6_undo 24 = .ok (.aload_n 0, 1) := by decide +kernel
theorem dX6_undo_25 : decode cX6_undo 25 = .ok (.getfield 12, 3) := by decide +kernel
theorem dX6_undo_28 : decode cX6_undo 28 = .ok (.invokevirtual 238, 3) := by decide +kernel
theorem dX6_undo_31 : decode cX6_undo 31 = .ok (.aload_n 0, 1) := by decide +kernel
theorem dX6_undo_32 : decode cX6_undo 32 = .ok (.getfield 48, 3) := by decide +kernel
theorem dX6_undo_35 : decode cX6_undo 35 = .ok (.iconst 0, 1) := by decide +kernel
theorem dX6_undo_36 : decode cX6_undo 36 = .ok (.putfield 215, 3) := by decide +kernel
theorem dX6_undo_39 : decode cX6_undo 39 = .ok (.aload_n 0, 1) := by decide +kernel
theorem dX6_undo_40 : decode cX6_undo 40 = .ok (.getfield 19, 3) := by decide +kernel
theorem dX6_undo_43 : decode cX6_undo 43 = .ok (.getfield 235, 3) := by decide +kernel
theorem dX6_undo_46 : decode cX6_undo 46 = .ok (.ireturn, 1) := by decide +kernel
theorem dX6_sampleOf_0 : decode cX6_sampleOf 0 = .ok (.aload_n 0, 1) := by decide +kernel
theorem dX6_sampleOf_1 : decode cX6_sampleOf 1 = .ok (.getfield 12, 3) := by decide +kernel
theorem dX6_sampleOf_4 : decode cX6_sampleOf 4 = .ok (.iload_n 1, 1) := by decide +kernel
theorem dX6_sampleOf_5 : decode cX6_sampleOf 5 = .ok (.invokevirtual 80, 3) := by decide +kernel
theorem dX6_sampleOf_8 : decode cX6_sampleOf 8 = .ok (.ifCond .ne 13, 3) := by decide +kernel
theorem dX6_sampleOf_11 : decode cX6_sampleOf 11 = .ok (.new 84, 3) := by decide +kernel
theorem dX6_sampleOf_14 : decode cX6_sampleOf 14 = .ok (.dup, 1) := by decide +kernel
theorem dX6_sampleOf_15 : decode cX6_sampleOf 15 = .ok (.ldc 86, 2) := by decide +kernel
theorem dX6_sampleOf_17 : decode cX6_sampleOf 17 = .ok (.invokespecial 88, 3) := by decide +kernel
theorem dX6_sampleOf_20 : decode cX6_sampleOf 20 = .ok (.athrow, 1) := by decide +kernel
theorem dX6_sampleOf_21 : decode cX6_sampleOf 21 = .ok (.iload_n 2, 1) := by decide +kernel
theorem dX6_sampleOf_22 : decode cX6_sampleOf 22 = .ok (.ifCond .lt 9, 3) := by decide +kernel
theorem dX6_sampleOf_25 : decode cX6_sampleOf 25 = .ok (.iload_n 2, 1) := by decide +kernel
theorem dX6_sampleOf_26 : decode cX6_sampleOf 26 = .ok (.bipush 6, 2) := by decide +kernel
theorem dX6_sampleOf_28 : decode cX6_sampleOf 28 = .ok (.if_icmp .lt 13, 3) := by decide +kernel
theorem dX6_sampleOf_31 : decode cX6_sampleOf 31 = .ok (.new 62, 3) := by decide +kernel
theorem dX6_sampleOf_34 : decode cX6_sampleOf 34 = .ok (.dup, 1) := by decide +kernel
theorem dX6_sampleOf_35 : decode cX6_sampleOf 35 = .ok (.ldc 249, 2) := by decide +kernel
theorem dX6_sampleOf_37 : decode cX6_sampleOf 37 = .ok (.invokespecial 66, 3) := by decide +kernel
theorem dX6_sampleOf_40 : decode cX6_sampleOf 40 = .ok (.athrow, 1) := by decide +kernel
theorem dX6_sampleOf_41 : decode cX6_sampleOf 41 = .ok (.iload_n 2, 1) := by decide +kernel
theorem dX6_sampleOf_42 : decode cX6_sampleOf 42 = .ok (.ifCond .ne 17, 3) := by decide +kernel
theorem dX6_sampleOf_45 : decode cX6_sampleOf 45 = .ok (.aload_n 0, 1) := by decide +kernel
theorem dX6_sampleOf_46 : decode cX6_sampleOf 46 = .ok (.getfield 12, 3) := by decide +kernel
theorem dX6_sampleOf_49 : decode cX6_sampleOf 49 = .ok (.getfield 94, 3) := by decide +kernel
theorem dX6_sampleOf_52 : decode cX6_sampleOf 52 = .ok (.iload_n 1, 1) := by decide +kernel
theorem dX6_sampleOf_53 : decode cX6_sampleOf 53 = .ok (.iaload, 1) := by decide +kernel
theorem dX6_sampleOf_54 : decode cX6_sampleOf 54 = .ok (.sipush 10000, 3) := by decide +kernel
theorem dX6_sampleOf_57 : decode cX6_sampleOf 57 = .ok (.iadd, 1) := by decide +kernel
theorem dX6_sampleOf_58 : decode cX6_sampleOf 58 = .ok (.ireturn, 1) := by decide +kernel
theorem dX6_sampleOf_59 : decode cX6_sampleOf 59 = .ok (.aload_n 0, 1) := by decide +kernel
theorem dX6_sampleOf_60 : decode cX6_sampleOf 60 = .ok (.getfield 12, 3) := by decide +kernel
theorem dX6_sampleOf_63 : decode cX6_sampleOf 63 = .ok (.invokevirtual 115, 3) := by decide +kernel
theorem dX6_sampleOf_66 : decode cX6_sampleOf 66 = .ok (.ifCond .ne 5, 3) := by decide +kernel
theorem dX6_sampleOf_69 : decode cX6_sampleOf 69 = .ok (.iconst (-1), 1) := by decide +kernel
theorem dX6_sampleOf_70 : decode cX6_sampleOf 70 = .ok (.ireturn, 1) := by decide +kernel
theorem dX6_sampleOf_71 : decode cX6_sampleOf 71 = .ok (.aload_n 0, 1) := by decide +kernel
theorem dX6_sampleOf_72 : decode cX6_sampleOf 72 = .ok (.getfield 48, 3) := by decide +kernel
theorem dX6_sampleOf_75 : decode cX6_sampleOf 75 = .ok (.aload_n 0, 1) := by decide +kernel
theorem dX6_sampleOf_76 : decode cX6_sampleOf 76 = .ok (.getfield 12, 3) := by decide +kernel
theorem dX6_sampleOf_79 : decode cX6_sampleOf 79 = .ok (.invokevirtual 124, 3) := by decide +kernel
theorem dX6_sampleOf_82 : decode cX6_sampleOf 82 = .ok (.iload_n 2, 1) := by decide +kernel
theorem dX6_sampleOf_83 : decode cX6_sampleOf 83 = .ok (.tableswitch 77 1 4 #[29, 43, 57, 67], 29) := by decide +kernel
theorem dX6_sampleOf_112 : decode cX6_sampleOf 112 = .ok (.aload_n 0, 1) := by decide +kernel
theorem dX6_sampleOf_113 : decode cX6_sampleOf 113 = .ok (.getfield 48, 3) := by decide +kernel
theorem dX6_sampleOf_116 : decode cX6_sampleOf 116 = .ok (.getfield 132, 3) := by decide +kernel
theorem dX6_sampleOf_119 : decode cX6_sampleOf 119 = .ok (.iload_n 1, 1) := by decide +kernel
theorem dX6_sampleOf_120 : decode cX6_sampleOf 120 = .ok (.iaload, 1) := by decide +kernel
theorem dX6_sampleOf_121 : decode cX6_sampleOf 121 = .ok (.sipush 10000, 3) := by decide +kernel
theorem dX6_sampleOf_124 : decode cX6_sampleOf 124 = .ok (.iadd, 1) := by decide +kernel
theorem dX6_sampleOf_125 : decode cX6_sampleOf 125 = .ok (.ireturn, 1) := by decide +kernel
theorem dX6_sampleOf_126 : decode cX6_sampleOf 126 = .ok (.aload_n 0, 1) := by decide +kernel
theorem dX6_sampleOf_127 : decode cX6_sampleOf 127 = .ok (.getfield 12, 3) := by decide +kernel
theorem dX6_sampleOf_130 : decode cX6_sampleOf 130 = .ok (.getfield 251, 3) := by decide +kernel
theorem dX6_sampleOf_133 : decode cX6_sampleOf 133 = .ok (.iload_n 1, 1) := by decide +kernel
theorem dX6_sampleOf_134 : decode cX6_sampleOf 134 = .ok (.iaload, 1) := by decide +kernel
theorem dX6_sampleOf_135 : decode cX6_sampleOf 135 = .ok (.sipush 10000, 3) := by decide +kernel
theorem dX6_sampleOf_138 : decode cX6_sampleOf 138 = .ok (.iadd, 1) := by decide +kernel
theorem dX6_sampleOf_139 : decode cX6_sampleOf 139 = .ok (.ireturn, 1) := by decide +kernel
theorem dX6_sampleOf_140 : decode cX6_sampleOf 140 = .ok (.aload_n 0, 1) := by decide +kernel
theorem dX6_sampleOf_141 : decode cX6_sampleOf 141 = .ok (.getfield 12, 3) := by decide +kernel
theorem dX6_sampleOf_144 : decode cX6_sampleOf 144 = .ok (.getfield 181, 3) := by decide +kernel
theorem dX6_sampleOf_147 : decode cX6_sampleOf 147 = .ok (.iload_n 1, 1) := by decide +kernel
theorem dX6_sampleOf_148 : decode cX6_sampleOf 148 = .ok (.iaload, 1) := by decide +kernel
theorem dX6_sampleOf_149 : decode cX6_sampleOf 149 = .ok (.ireturn, 1) := by decide +kernel
theorem dX6_sampleOf_150 : decode cX6_sampleOf 150 = .ok (.aload_n 0, 1) := by decide +kernel
theorem dX6_sampleOf_151 : decode cX6_sampleOf 151 = .ok (.getfield 48, 3) := by decide +kernel
theorem dX6_sampleOf_154 : decode cX6_sampleOf 154 = .ok (.getfield 254, 3) := by decide +kernel
theorem dX6_sampleOf_157 : decode cX6_sampleOf 157 = .ok (.iload_n 1, 1) := by decide +kernel
theorem dX6_sampleOf_158 : decode cX6_sampleOf 158 = .ok (.iaload, 1) := by decide +kernel
theorem dX6_sampleOf_159 : decode cX6_sampleOf 159 = .ok (.ireturn, 1) := by decide +kernel
theorem dX6_sampleOf_160 : decode cX6_sampleOf 160 = .ok (.aload_n 0, 1) := by decide +kernel
theorem dX6_sampleOf_161 : decode cX6_sampleOf 161 = .ok (.getfield 12, 3) := by decide +kernel
theorem dX6_sampleOf_164 : decode cX6_sampleOf 164 = .ok (.getfield 94, 3) := by decide +kernel
theorem dX6_sampleOf_167 : decode cX6_sampleOf 167 = .ok (.iload_n 1, 1) := by decide +kernel
theorem dX6_sampleOf_168 : decode cX6_sampleOf 168 = .ok (.iaload, 1) := by decide +kernel
theorem dX6_sampleOf_169 : decode cX6_sampleOf 169 = .ok (.aload_n 0, 1) := by decide +kernel
theorem dX6_sampleOf_170 : decode cX6_sampleOf 170 = .ok (.getfield 48, 3) := by decide +kernel
theorem dX6_sampleOf_173 : decode cX6_sampleOf 173 = .ok (.getfield 132, 3) := by decide +kernel
theorem dX6_sampleOf_176 : decode cX6_sampleOf 176 = .ok (.iload_n 1, 1) := by decide +kernel
theorem dX6_sampleOf_177 : decode cX6_sampleOf 177 = .ok (.iaload, 1) := by decide +kernel
theorem dX6_sampleOf_178 : decode cX6_sampleOf 178 = .ok (.isub, 1) := by decide +kernel
theorem dX6_sampleOf_179 : decode cX6_sampleOf 179 = .ok (.sipush 10000, 3) := by decide +kernel
theorem dX6_sampleOf_182 : decode cX6_sampleOf 182 = .ok (.iadd, 1) := by decide +kernel
theorem dX6_sampleOf_183 : decode cX6_sampleOf 183 = .ok (.ireturn, 1) := by decide +kernel
theorem dX6_blockOf_0 : decode cX6_blockOf 0 = .ok (.aload_n 0, 1) := by decide +kernel
theorem dX6_blockOf_1 : decode cX6_blockOf 1 = .ok (.iload_n 1, 1) := by decide +kernel
theorem dX6_blockOf_2 : decode cX6_blockOf 2 = .ok (.invokevirtual 161, 3) := by decide +kernel
theorem dX6_blockOf_5 : decode cX6_blockOf 5 = .ok (.iload_n 2, 1) := by decide +kernel
theorem dX6_blockOf_6 : decode cX6_blockOf 6 = .ok (.ifCond .lt 9, 3) := by decide +kernel
theorem dX6_blockOf_9 : decode cX6_blockOf 9 = .ok (.iload_n 2, 1) := by decide +kernel
theorem dX6_blockOf_10 : decode cX6_blockOf 10 = .ok (.bipush 6, 2) := by decide +kernel
theorem dX6_blockOf_12 : decode cX6_blockOf 12 = .ok (.if_icmp .lt 13, 3) := by decide +kernel
theorem dX6_blockOf_15 : decode cX6_blockOf 15 = .ok (.new 62, 3) := by decide +kernel
theorem dX6_blockOf_18 : decode cX6_blockOf 18 = .ok (.dup, 1) := by decide +kernel
theorem dX6_blockOf_19 : decode cX6_blockOf 19 = .ok (.ldc 249, 2) := by decide +kernel
theorem dX6_blockOf_21 : decode cX6_blockOf 21 = .ok (.invokespecial 66, 3) := by decide +kernel
theorem dX6_blockOf_24 : decode cX6_blockOf 24 = .ok (.athrow, 1) := by decide +kernel
theorem dX6_blockOf_25 : decode cX6_blockOf 25 = .ok (.iload_n 2, 1) := by decide +kernel
theorem dX6_blockOf_26 : decode cX6_blockOf 26 = .ok (.tableswitch 133 0 4 #[34, 52, 66, 76, 94], 34) := by decide +kernel
theorem dX6_blockOf_60 : decode cX6_blockOf 60 = .ok (.aload_n 0, 1) := by decide +kernel
theorem dX6_blockOf_61 : decode cX6_blockOf 61 = .ok (.getfield 12, 3) := by decide +kernel
theorem dX6_blockOf_64 : decode cX6_blockOf 64 = .ok (.iload_n 1, 1) := by decide +kernel
theorem dX6_blockOf_65 : decode cX6_blockOf 65 = .ok (.invokevirtual 257, 3) := by decide +kernel
theorem dX6_blockOf_68 : decode cX6_blockOf 68 = .ok (.aload_n 0, 1) := by decide +kernel
theorem dX6_blockOf_69 : decode cX6_blockOf 69 = .ok (.getfield 12, 3) := by decide +kernel
theorem dX6_blockOf_72 : decode cX6_blockOf 72 = .ok (.iload_n 1, 1) := by decide +kernel
theorem dX6_blockOf_73 : decode cX6_blockOf 73 = .ok (.invokevirtual 260, 3) := by decide +kernel
theorem dX6_blockOf_76 : decode cX6_blockOf 76 = .ok (.isub, 1) := by decide +kernel
theorem dX6_blockOf_77 : decode cX6_blockOf 77 = .ok (.ireturn, 1) := by decide +kernel
theorem dX6_blockOf_78 : decode cX6_blockOf 78 = .ok (.aload_n 0, 1) := by decide +kernel
theorem dX6_blockOf_79 : decode cX6_blockOf 79 = .ok (.getfield 12, 3) := by decide +kernel
theorem dX6_blockOf_82 : decode cX6_blockOf 82 = .ok (.getfield 263, 3) := by decide +kernel
theorem dX6_blockOf_85 : decode cX6_blockOf 85 = .ok (.iload_n 1, 1) := by decide +kernel
theorem dX6_blockOf_86 : decode cX6_blockOf 86 = .ok (.iaload, 1) := by decide +kernel
theorem dX6_blockOf_87 : decode cX6_blockOf 87 = .ok (.sipush 10000, 3) := by decide +kernel
theorem dX6_blockOf_90 : decode cX6_blockOf 90 = .ok (.iadd, 1) := by decide +kernel
theorem dX6_blockOf_91 : decode cX6_blockOf 91 = .ok (.ireturn, 1) := by decide +kernel
theorem dX6_blockOf_92 : decode cX6_blockOf 92 = .ok (.aload_n 0, 1) := by decide +kernel
theorem dX6_blockOf_93 : decode cX6_blockOf 93 = .ok (.getfield 12, 3) := by decide +kernel
theorem dX6_blockOf_96 : decode cX6_blockOf 96 = .ok (.getfield 266, 3) := by decide +kernel
theorem dX6_blockOf_99 : decode cX6_blockOf 99 = .ok (.iload_n 1, 1) := by decide +kernel
theorem dX6_blockOf_100 : decode cX6_blockOf 100 = .ok (.iaload, 1) := by decide +kernel
theorem dX6_blockOf_101 : decode cX6_blockOf 101 = .ok (.ireturn, 1) := by decide +kernel
theorem dX6_blockOf_102 : decode cX6_blockOf 102 = .ok (.aload_n 0, 1) := by decide +kernel
theorem dX6_blockOf_103 : decode cX6_blockOf 103 = .ok (.getfield 12, 3) := by decide +kernel
theorem dX6_blockOf_106 : decode cX6_blockOf 106 = .ok (.getfield 164, 3) := by decide +kernel
theorem dX6_blockOf_109 : decode cX6_blockOf 109 = .ok (.iload_n 1, 1) := by decide +kernel
theorem dX6_blockOf_110 : decode cX6_blockOf 110 = .ok (.baload, 1) := by decide +kernel
theorem dX6_blockOf_111 : decode cX6_blockOf 111 = .ok (.ifCond .eq 7, 3) := by decide +kernel
theorem dX6_blockOf_114 : decode cX6_blockOf 114 = .ok (.iconst 1, 1) := by decide +kernel
theorem dX6_blockOf_115 : decode cX6_blockOf 115 = .ok (.goto 4, 3) := by decide +kernel
theorem dX6_blockOf_118 : decode cX6_blockOf 118 = .ok (.iconst 0, 1) := by decide +kernel
theorem dX6_blockOf_119 : decode cX6_blockOf 119 = .ok (.ireturn, 1) := by decide +kernel
theorem dX6_blockOf_120 : decode cX6_blockOf 120 = .ok (.aload_n 0, 1) := by decide +kernel
theorem dX6_blockOf_121 : decode cX6_blockOf 121 = .ok (.getfield 48, 3) := by decide +kernel
theorem dX6_blockOf_124 : decode cX6_blockOf 124 = .ok (.aload_n 0, 1) := by decide +kernel
theorem dX6_blockOf_125 : decode cX6_blockOf 125 = .ok (.getfield 12, 3) := by decide +kernel
theorem dX6_blockOf_128 : decode cX6_blockOf 128 = .ok (.invokevirtual 124, 3) := by decide +kernel
theorem dX6_blockOf_131 : decode cX6_blockOf 131 = .ok (.aload_n 0, 1) := by decide +kernel
theorem dX6_blockOf_132 : decode cX6_blockOf 132 = .ok (.getfield 48, 3) := by decide +kernel
theorem dX6_blockOf_135 : decode cX6_blockOf 135 = .ok (.aload_n 0, 1) := by decide +kernel
theorem dX6_blockOf_136 : decode cX6_blockOf 136 = .ok (.getfield 12, 3) := by decide +kernel
theorem dX6_blockOf_139 : decode cX6_blockOf 139 = .ok (.aload_n 0, 1) := by decide +kernel
theorem dX6_blockOf_140 : decode cX6_blockOf 140 = .ok (.getfield 12, 3) := by decide +kernel
theorem dX6_blockOf_143 : decode cX6_blockOf 143 = .ok (.iload_n 1, 1) := by decide +kernel
theorem dX6_blockOf_144 : decode cX6_blockOf 144 = .ok (.invokevirtual 260, 3) := by decide +kernel
theorem dX6_blockOf_147 : decode cX6_blockOf 147 = .ok (.aload_n 0, 1) := by decide +kernel
theorem dX6_blockOf_148 : decode cX6_blockOf 148 = .ok (.getfield 12, 3) := by decide +kernel
theorem dX6_blockOf_151 : decode cX6_blockOf 151 = .ok (.iload_n 1, 1) := by decide +kernel
theorem dX6_blockOf_152 : decode cX6_blockOf 152 = .ok (.invokevirtual 257, 3) := by decide +kernel
theorem dX6_blockOf_155 : decode cX6_blockOf 155 = .ok (.invokevirtual 269, 3) := by decide +kernel
theorem dX6_blockOf_158 : decode cX6_blockOf 158 = .ok (.ireturn, 1) := by decide +kernel
theorem dX6_blockOf_159 : decode cX6_blockOf 159 = .ok (.aload_n 0, 1) := by decide +kernel
theorem dX6_blockOf_160 : decode cX6_blockOf 160 = .ok (.iload_n 1, 1) := by decide +kernel
theorem dX6_blockOf_161 : decode cX6_blockOf 161 = .ok (.invokevirtual 273, 3) := by decide +kernel
theorem dX6_blockOf_164 : decode cX6_blockOf 164 = .ok (.ireturn, 1) := by decide +kernel
theorem dX6_count_0 : decode cX6_count 0 = .ok (.iload_n 1, 1) := by decide +kernel
theorem dX6_count_1 : decode cX6_count 1 = .ok (.ifCond .lt 9, 3) := by decide +kernel
theorem dX6_count_4 : decode cX6_count 4 = .ok (.iload_n 1, 1) := by decide +kernel
theorem dX6_count_5 : decode cX6_count 5 = .ok (.bipush 12, 2) := by decide +kernel
theorem dX6_count_7 : decode cX6_count 7 = .ok (.if_icmp .lt 14, 3) := by decide +kernel
theorem dX6_count_10 : decode cX6_count 10 = .ok (.new 62, 3) := by decide +kernel
theorem dX6_count_13 : decode cX6_count 13 = .ok (.dup, 1) := by decide +kernel
theorem dX6_count_14 : decode cX6_count 14 = .ok (.ldc_w 276, 3) := by decide +kernel
theorem dX6_count_17 : decode cX6_count 17 = .ok (.invokespecial 66, 3) := by decide +kernel
theorem dX6_count_20 : decode cX6_count 20 = .ok (.athrow, 1) := by decide +kernel
theorem dX6_count_21 : decode cX6_count 21 = .ok (.iload_n 1, 1) := by decide +kernel
theorem dX6_count_22 : decode cX6_count 22 = .ok (.tableswitch 126 0 11 #[62, 70, 86, 94, 126, 126, 126, 126, 126, 102, 110, 118], 62) := by decide +kernel
theorem dX6_count_84 : decode cX6_count 84 = .ok (.aload_n 0, 1) := by decide +kernel
theorem dX6_count_85 : decode cX6_count 85 = .ok (.getfield 12, 3) := by decide +kernel
theorem dX6_count_88 : decode cX6_count 88 = .ok (.getfield 72, 3) := by decide +kernel
theorem dX6_count_91 : decode cX6_count 91 = .ok (.ireturn, 1) := by decide +kernel
theorem dX6_count_92 : decode cX6_count 92 = .ok (.aload_n 0, 1) := by decide +kernel
theorem dX6_count_93 : decode cX6_count 93 = .ok (.getfield 12, 3) := by decide +kernel
theorem dX6_count_96 : decode cX6_count 96 = .ok (.invokevirtual 115, 3) := by decide +kernel
theorem dX6_count_99 : decode cX6_count 99 = .ok (.ifCond .eq 7, 3) := by decide +kernel
theorem dX6_count_102 : decode cX6_count 102 = .ok (.iconst 1, 1) := by decide +kernel
theorem dX6_count_103 : decode cX6_count 103 = .ok (.goto 4, 3) := by decide +kernel
theorem dX6_count_106 : decode cX6_count 106 = .ok (.iconst 0, 1) := by decide +kernel
theorem dX6_count_107 : decode cX6_count 107 = .ok (.ireturn, 1) := by decide +kernel
theorem dX6_count_108 : decode cX6_count 108 = .ok (.aload_n 0, 1) := by decide +kernel
theorem dX6_count_109 : decode cX6_count 109 = .ok (.getfield 12, 3) := by decide +kernel
theorem dX6_count_112 : decode cX6_count 112 = .ok (.getfield 158, 3) := by decide +kernel
theorem dX6_count_115 : decode cX6_count 115 = .ok (.ireturn, 1) := by decide +kernel
theorem dX6_count_116 : decode cX6_count 116 = .ok (.aload_n 0, 1) := by decide +kernel
theorem dX6_count_117 : decode cX6_count 117 = .ok (.getfield 12, 3) := by decide +kernel
theorem dX6_count_120 : decode cX6_count 120 = .ok (.invokevirtual 167, 3) := by decide +kernel
theorem dX6_count_123 : decode cX6_count 123 = .ok (.ireturn, 1) := by decide +kernel
theorem dX6_count_124 : decode cX6_count 124 = .ok (.aload_n 0, 1) := by decide +kernel
theorem dX6_count_125 : decode cX6_count 125 = .ok (.getfield 12, 3) := by decide +kernel
theorem dX6_count_128 : decode cX6_count 128 = .ok (.getfield 278, 3) := by decide +kernel
theorem dX6_count_131 : decode cX6_count 131 = .ok (.ireturn, 1) := by decide +kernel
theorem dX6_count_132 : decode cX6_count 132 = .ok (.aload_n 0, 1) := by decide +kernel
theorem dX6_count_133 : decode cX6_count 133 = .ok (.getfield 12, 3) := by decide +kernel
theorem dX6_count_136 : decode cX6_count 136 = .ok (.getfield 178, 3) := by decide +kernel
theorem dX6_count_139 : decode cX6_count 139 = .ok (.ireturn, 1) := by decide +kernel
theorem dX6_count_140 : decode cX6_count 140 = .ok (.aload_n 0, 1) := by decide +kernel
theorem dX6_count_141 : decode cX6_count 141 = .ok (.getfield 19, 3) := by decide +kernel
theorem dX6_count_144 : decode cX6_count 144 = .ok (.getfield 235, 3) := by decide +kernel
theorem dX6_count_147 : decode cX6_count 147 = .ok (.ireturn, 1) := by decide +kernel
theorem dX6_count_148 : decode cX6_count 148 = .ok (.aload_n 0, 1) := by decide +kernel
theorem dX6_count_149 : decode cX6_count 149 = .ok (.getfield 12, 3) := by decide +kernel
theorem dX6_count_152 : decode cX6_count 152 = .ok (.invokevirtual 115, 3) := by decide +kernel
theorem dX6_count_155 : decode cX6_count 155 = .ok (.ifCond .eq 11, 3) := by decide +kernel
theorem dX6_count_158 : decode cX6_count 158 = .ok (.aload_n 0, 1) := by decide +kernel
theorem dX6_count_159 : decode cX6_count 159 = .ok (.iload_n 1, 1) := by decide +kernel
theorem dX6_count_160 : decode cX6_count 160 = .ok (.invokevirtual 281, 3) := by decide +kernel
theorem dX6_count_163 : decode cX6_count 163 = .ok (.goto 4, 3) := by decide +kernel
theorem dX6_count_166 : decode cX6_count 166 = .ok (.iconst 0, 1) := by decide +kernel
theorem dX6_count_167 : decode cX6_count 167 = .ok (.ireturn, 1) := by decide +kernel
theorem dX6_setting_0 : decode cX6_setting 0 = .ok (.iload_n 1, 1) := by decide +kernel
theorem dX6_setting_1 : decode cX6_setting 1 = .ok (.invokestatic 139, 3) := by decide +kernel
theorem dX6_setting_4 : decode cX6_setting 4 = .ok (.ifCond .ne 13, 3) := by decide +kernel
theorem dX6_setting_7 : decode cX6_setting 7 = .ok (.new 84, 3) := by decide +kernel
theorem dX6_setting_10 : decode cX6_setting 10 = .ok (.dup, 1) := by decide +kernel
theorem dX6_setting_11 : decode cX6_setting 11 = .ok (.ldc 142, 2) := by decide +kernel
theorem dX6_setting_13 : decode cX6_setting 13 = .ok (.invokespecial 88, 3) := by decide +kernel
theorem dX6_setting_16 : decode cX6_setting 16 = .ok (.athrow, 1) := by decide +kernel
theorem dX6_setting_17 : decode cX6_setting 17 = .ok (.aload_n 0, 1) := by decide +kernel
theorem dX6_setting_18 : decode cX6_setting 18 = .ok (.getfield 12, 3) := by decide +kernel
theorem dX6_setting_21 : decode cX6_setting 21 = .ok (.getfield 152, 3) := by decide +kernel
theorem dX6_setting_24 : decode cX6_setting 24 = .ok (.iload_n 1, 1) := by decide +kernel
theorem dX6_setting_25 : decode cX6_setting 25 = .ok (.iaload, 1) := by decide +kernel
theorem dX6_setting_26 : decode cX6_setting 26 = .ok (.ireturn, 1) := by decide +kernel
theorem dX6_ifBlock_0 : decode cX6_ifBlock 0 = .ok (.aload_n 0, 1) := by decide +kernel
theorem dX6_ifBlock_1 : decode cX6_ifBlock 1 = .ok (.iload_n 1, 1) := by decide +kernel
theorem dX6_ifBlock_2 : decode cX6_ifBlock 2 = .ok (.iload_n 2, 1) := by decide +kernel
theorem dX6_ifBlock_3 : decode cX6_ifBlock 3 = .ok (.invokevirtual 305, 3) := by decide +kernel
theorem dX6_ifBlock_6 : decode cX6_ifBlock 6 = .ok (.iload_n 3, 1) := by decide +kernel
theorem dX6_ifBlock_7 : decode cX6_ifBlock 7 = .ok (.invokestatic 241, 3) := by decide +kernel
theorem dX6_ifBlock_10 : decode cX6_ifBlock 10 = .ok (.ifCond .ne 14, 3) := by decide +kernel
theorem dX6_ifBlock_13 : decode cX6_ifBlock 13 = .ok (.new 62, 3) := by decide +kernel
theorem dX6_ifBlock_16 : decode cX6_ifBlock 16 = .ok (.dup, 1) := by decide +kernel
theorem dX6_ifBlock_17 : decode cX6_ifBlock 17 = .ok (.ldc_w 286, 3) := by decide +kernel
theorem dX6_ifBlock_20 : decode cX6_ifBlock 20 = .ok (.invokespecial 66, 3) := by decide +kernel
theorem dX6_ifBlock_23 : decode cX6_ifBlock 23 = .ok (.athrow, 1) := by decide +kernel
theorem dX6_ifBlock_24 : decode cX6_ifBlock 24 = .ok (.aload_n 0, 1) := by decide +kernel
theorem dX6_ifBlock_25 : decode cX6_ifBlock 25 = .ok (.getfield 41, 3) := by decide +kernel
theorem dX6_ifBlock_28 : decode cX6_ifBlock 28 = .ok (.aload_n 0, 1) := by decide +kernel
theorem dX6_ifBlock_29 : decode cX6_ifBlock 29 = .ok (.getfield 12, 3) := by decide +kernel
theorem dX6_ifBlock_32 : decode cX6_ifBlock 32 = .ok (.iload_n 1, 1) := by decide +kernel
theorem dX6_ifBlock_33 : decode cX6_ifBlock 33 = .ok (.iload_n 1, 1) := by decide +kernel
theorem dX6_ifBlock_34 : decode cX6_ifBlock 34 = .ok (.iload_n 2, 1) := by decide +kernel
theorem dX6_ifBlock_35 : decode cX6_ifBlock 35 = .ok (.iadd, 1) := by decide +kernel
theorem dX6_ifBlock_36 : decode cX6_ifBlock 36 = .ok (.iload_n 3, 1) := by decide +kernel
theorem dX6_ifBlock_37 : decode cX6_ifBlock 37 = .ok (.invokevirtual 308, 3) := by decide +kernel
theorem dX6_ifBlock_40 : decode cX6_ifBlock 40 = .ok (.ireturn, 1) := by decide +kernel
theorem dX6_bestStep_0 : decode cX6_bestStep 0 = .ok (.aload_n 0, 1) := by decide +kernel
theorem dX6_bestStep_1 : decode cX6_bestStep 1 = .ok (.iload_n 1, 1) := by decide +kernel
theorem dX6_bestStep_2 : decode cX6_bestStep 2 = .ok (.iload_n 2, 1) := by decide +kernel
theorem dX6_bestStep_3 : decode cX6_bestStep 3 = .ok (.invokevirtual 305, 3) := by decide +kernel
theorem dX6_bestStep_6 : decode cX6_bestStep 6 = .ok (.aload_n 0, 1) := by decide +kernel
theorem dX6_bestStep_7 : decode cX6_bestStep 7 = .ok (.getfield 41, 3) := by decide +kernel
theorem dX6_bestStep_10 : decode cX6_bestStep 10 = .ok (.aload_n 0, 1) := by decide +kernel
theorem dX6_bestStep_11 : decode cX6_bestStep 11 = .ok (.getfield 12, 3) := by decide +kernel
theorem dX6_bestStep_14 : decode cX6_bestStep 14 = .ok (.iload_n 1, 1) := by decide +kernel
theorem dX6_bestStep_15 : decode cX6_bestStep 15 = .ok (.iload_n 1, 1) := by decide +kernel
theorem dX6_bestStep_16 : decode cX6_bestStep 16 = .ok (.iload_n 2, 1) := by decide +kernel
theorem dX6_bestStep_17 : decode cX6_bestStep 17 = .ok (.iadd, 1) := by decide +kernel
theorem dX6_bestStep_18 : decode cX6_bestStep 18 = .ok (.invokevirtual 312, 3) := by decide +kernel
theorem dX6_bestStep_21 : decode cX6_bestStep 21 = .ok (.ireturn, 1) := by decide +kernel
theorem dX6_ifSpoiled_0 : decode cX6_ifSpoiled 0 = .ok (.aload_n 0, 1) := by decide +kernel
theorem dX6_ifSpoiled_1 : decode cX6_ifSpoiled 1 = .ok (.iload_n 1, 1) := by decide +kernel
theorem dX6_ifSpoiled_2 : decode cX6_ifSpoiled 2 = .ok (.iload_n 2, 1) := by decide +kernel
theorem dX6_ifSpoiled_3 : decode cX6_ifSpoiled 3 = .ok (.invokevirtual 171, 3) := by decide +kernel
theorem dX6_ifSpoiled_6 : decode cX6_ifSpoiled 6 = .ok (.aload_n 0, 1) := by decide +kernel
theorem dX6_ifSpoiled_7 : decode cX6_ifSpoiled 7 = .ok (.getfield 48, 3) := by decide +kernel
theorem dX6_ifSpoiled_10 : decode cX6_ifSpoiled 10 = .ok (.aload_n 0, 1) := by decide +kernel
theorem dX6_ifSpoiled_11 : decode cX6_ifSpoiled 11 = .ok (.getfield 12, 3) := by decide +kernel
theorem dX6_ifSpoiled_14 : decode cX6_ifSpoiled 14 = .ok (.invokevirtual 124, 3) := by decide +kernel
theorem dX6_ifSpoiled_17 : decode cX6_ifSpoiled 17 = .ok (.aload_n 0, 1) := by decide +kernel
theorem dX6_ifSpoiled_18 : decode cX6_ifSpoiled 18 = .ok (.getfield 12, 3) := by decide +kernel
theorem dX6_ifSpoiled_21 : decode cX6_ifSpoiled 21 = .ok (.iload_n 1, 1) := by decide +kernel
theorem dX6_ifSpoiled_22 : decode cX6_ifSpoiled 22 = .ok (.iload_n 2, 1) := by decide +kernel
theorem dX6_ifSpoiled_23 : decode cX6_ifSpoiled 23 = .ok (.invokevirtual 175, 3) := by decide +kernel
theorem dX6_ifSpoiled_26 : decode cX6_ifSpoiled 26 = .ok (.aload_n 0, 1) := by decide +kernel
theorem dX6_ifSpoiled_27 : decode cX6_ifSpoiled 27 = .ok (.getfield 52, 3) := by decide +kernel
theorem dX6_ifSpoiled_30 : decode cX6_ifSpoiled 30 = .ok (.iconst 0, 1) := by decide +kernel
theorem dX6_ifSpoiled_31 : decode cX6_ifSpoiled 31 = .ok (.putfield 215, 3) := by decide +kernel
theorem dX6_ifSpoiled_34 : decode cX6_ifSpoiled 34 = .ok (.aload_n 0, 1) := by decide +kernel
theorem dX6_ifSpoiled_35 : decode cX6_ifSpoiled 35 = .ok (.getfield 52, 3) := by decide +kernel
theorem dX6_ifSpoiled_38 : decode cX6_ifSpoiled 38 = .ok (.aload_n 0, 1) := by decide +kernel
theorem dX6_ifSpoiled_39 : decode cX6_ifSpoiled 39 = .ok (.getfield 12, 3) := by decide +kernel
theorem dX6_ifSpoiled_42 : decode cX6_ifSpoiled 42 = .ok (.invokevirtual 124, 3) := by decide +kernel
theorem dX6_ifSpoiled_45 : decode cX6_ifSpoiled 45 = .ok (.aload_n 0, 1) := by decide +kernel
theorem dX6_ifSpoiled_46 : decode cX6_ifSpoiled 46 = .ok (.getfield 12, 3) := by decide +kernel
theorem dX6_ifSpoiled_49 : decode cX6_ifSpoiled 49 = .ok (.iload_n 1, 1) := by decide +kernel
theorem dX6_ifSpoiled_50 : decode cX6_ifSpoiled 50 = .ok (.iload_n 2, 1) := by decide +kernel
theorem dX6_ifSpoiled_51 : decode cX6_ifSpoiled 51 = .ok (.invokevirtual 175, 3) := by decide +kernel
theorem dX6_ifSpoiled_54 : decode cX6_ifSpoiled 54 = .ok (.aload_n 0, 1) := by decide +kernel
theorem dX6_ifSpoiled_55 : decode cX6_ifSpoiled 55 = .ok (.getfield 52, 3) := by decide +kernel
theorem dX6_ifSpoiled_58 : decode cX6_ifSpoiled 58 = .ok (.aload_n 0, 1) := by decide +kernel
theorem dX6_ifSpoiled_59 : decode cX6_ifSpoiled 59 = .ok (.getfield 48, 3) := by decide +kernel
theorem dX6_ifSpoiled_62 : decode cX6_ifSpoiled 62 = .ok (.aload_n 0, 1) := by decide +kernel
theorem dX6_ifSpoiled_63 : decode cX6_ifSpoiled 63 = .ok (.getfield 12, 3) := by decide +kernel
theorem dX6_ifSpoiled_66 : decode cX6_ifSpoiled 66 = .ok (.getfield 72, 3) := by decide +kernel
theorem dX6_ifSpoiled_69 : decode cX6_ifSpoiled 69 = .ok (.invokevirtual 219, 3) := by decide +kernel
theorem dX6_ifSpoiled_72 : decode cX6_ifSpoiled 72 = .ok (.ireturn, 1) := by decide +kernel
theorem dX6_meanSquare_0 : decode cX6_meanSquare 0 = .ok (.aload_n 0, 1) := by decide +kernel
theorem dX6_meanSquare_1 : decode cX6_meanSquare 1 = .ok (.getfield 12, 3) := by decide +kernel
theorem dX6_meanSquare_4 : decode cX6_meanSquare 4 = .ok (.invokevirtual 115, 3) := by decide +kernel
theorem dX6_meanSquare_7 : decode cX6_meanSquare 7 = .ok (.ifCond .ne 5, 3) := by decide +kernel
theorem dX6_meanSquare_10 : decode cX6_meanSquare 10 = .ok (.dconst 0, 1) := by decide +kernel
theorem dX6_meanSquare_11 : decode cX6_meanSquare 11 = .ok (.dreturn, 1) := by decide +kernel
theorem dX6_meanSquare_12 : decode cX6_meanSquare 12 = .ok (.aload_n 0, 1) := by decide +kernel
theorem dX6_meanSquare_13 : decode cX6_meanSquare 13 = .ok (.invokevirtual 315, 3) := by decide +kernel
theorem dX6_meanSquare_16 : decode cX6_meanSquare 16 = .ok (.i2d, 1) := by decide +kernel
theorem dX6_meanSquare_17 : decode cX6_meanSquare 17 = .ok (.aload_n 0, 1) := by decide +kernel
theorem dX6_meanSquare_18 : decode cX6_meanSquare 18 = .ok (.getfield 12, 3) := by decide +kernel
theorem dX6_meanSquare_21 : decode cX6_meanSquare 21 = .ok (.getfield 72, 3) := by decide +kernel
theorem dX6_meanSquare_24 : decode cX6_meanSquare 24 = .ok (.i2d, 1) := by decide +kernel
theorem dX6_meanSquare_25 : decode cX6_meanSquare 25 = .ok (.ddiv, 1) := by decide +kernel
theorem dX6_meanSquare_26 : decode cX6_meanSquare 26 = .ok (.dreturn, 1) := by decide +kernel
theorem dX6_loudness_0 : decode cX6_loudness 0 = .ok (.aload_n 0, 1) := by decide +kernel
theorem dX6_loudness_1 : decode cX6_loudness 1 = .ok (.getfield 12, 3) := by decide +kernel
theorem dX6_loudness_4 : decode cX6_loudness 4 = .ok (.invokevirtual 115, 3) := by decide +kernel
theorem dX6_loudness_7 : decode cX6_loudness 7 = .ok (.ifCond .ne 5, 3) := by decide +kernel
theorem dX6_loudness_10 : decode cX6_loudness 10 = .ok (.fconst 0, 1) := by decide +kernel
theorem dX6_loudness_11 : decode cX6_loudness 11 = .ok (.freturn, 1) := by decide +kernel
theorem dX6_loudness_12 : decode cX6_loudness 12 = .ok (.aload_n 0, 1) := by decide +kernel
theorem dX6_loudness_13 : decode cX6_loudness 13 = .ok (.invokevirtual 315, 3) := by decide +kernel
theorem dX6_loudness_16 : decode cX6_loudness 16 = .ok (.istore_n 1, 1) := by decide +kernel
theorem dX6_loudness_17 : decode cX6_loudness 17 = .ok (.iload_n 1, 1) := by decide +kernel
theorem dX6_loudness_18 : decode cX6_loudness 18 = .ok (.ifCond .ne 7, 3) := by decide +kernel
theorem dX6_loudness_21 : decode cX6_loudness 21 = .ok (.ldc_w 318, 3) := by decide +kernel
theorem dX6_loudness_24 : decode cX6_loudness 24 = .ok (.freturn, 1) := by decide +kernel
theorem dX6_loudness_25 : decode cX6_loudness 25 = .ok (.iconst 0, 1) := by decide +kernel
theorem dX6_loudness_26 : decode cX6_loudness 26 = .ok (.istore_n 2, 1) := by decide +kernel
theorem dX6_loudness_27 : decode cX6_loudness 27 = .ok (.iconst 0, 1) := by decide +kernel
theorem dX6_loudness_28 : decode cX6_loudness 28 = .ok (.istore_n 3, 1) := by decide +kernel
theorem dX6_loudness_29 : decode cX6_loudness 29 = .ok (.iload_n 3, 1) := by decide +kernel
theorem dX6_loudness_30 : decode cX6_loudness 30 = .ok (.aload_n 0, 1) := by decide +kernel
theorem dX6_loudness_31 : decode cX6_loudness 31 = .ok (.getfield 12, 3) := by decide +kernel
theorem dX6_loudness_34 : decode cX6_loudness 34 = .ok (.getfield 72, 3) := by decide +kernel
theorem dX6_loudness_37 : decode cX6_loudness 37 = .ok (.if_icmp .ge 31, 3) := by decide +kernel
theorem dX6_loudness_40 : decode cX6_loudness 40 = .ok (.iload_n 2, 1) := by decide +kernel
theorem dX6_loudness_41 : decode cX6_loudness 41 = .ok (.aload_n 0, 1) := by decide +kernel
theorem dX6_loudness_42 : decode cX6_loudness 42 = .ok (.getfield 12, 3) := by decide +kernel
theorem dX6_loudness_45 : decode cX6_loudness 45 = .ok (.getfield 94, 3) := by decide +kernel
theorem dX6_loudness_48 : decode cX6_loudness 48 = .ok (.iload_n 3, 1) := by decide +kernel
theorem dX6_loudness_49 : decode cX6_loudness 49 = .ok (.iaload, 1) := by decide +kernel
theorem dX6_loudness_50 : decode cX6_loudness 50 = .ok (.aload_n 0, 1) := by decide +kernel
theorem dX6_loudness_51 : decode cX6_loudness 51 = .ok (.getfield 12, 3) := by decide +kernel
theorem dX6_loudness_54 : decode cX6_loudness 54 = .ok (.getfield 94, 3) := by decide +kernel
theorem dX6_loudness_57 : decode cX6_loudness 57 = .ok (.iload_n 3, 1) := by decide +kernel
theorem dX6_loudness_58 : decode cX6_loudness 58 = .ok (.iaload, 1) := by decide +kernel
theorem dX6_loudness_59 : decode cX6_loudness 59 = .ok (.imul, 1) := by decide +kernel
theorem dX6_loudness_60 : decode cX6_loudness 60 = .ok (.iadd, 1) := by decide +kernel
theorem dX6_loudness_61 : decode cX6_loudness 61 = .ok (.istore_n 2, 1) := by decide +kernel
theorem dX6_loudness_62 : decode cX6_loudness 62 = .ok (.iinc 3 1, 3) := by decide +kernel
theorem dX6_loudness_65 : decode cX6_loudness 65 = .ok (.goto (-36), 3) := by decide +kernel
theorem dX6_loudness_68 : decode cX6_loudness 68 = .ok (.iload_n 2, 1) := by decide +kernel
theorem dX6_loudness_69 : decode cX6_loudness 69 = .ok (.i2f, 1) := by decide +kernel
theorem dX6_loudness_70 : decode cX6_loudness 70 = .ok (.iload_n 1, 1) := by decide +kernel
theorem dX6_loudness_71 : decode cX6_loudness 71 = .ok (.i2f, 1) := by decide +kernel
theorem dX6_loudness_72 : decode cX6_loudness 72 = .ok (.fdiv, 1) := by decide +kernel
theorem dX6_loudness_73 : decode cX6_loudness 73 = .ok (.freturn, 1) := by decide +kernel
theorem dX6_beginChange_0 : decode cX6_beginChange 0 = .ok (.aload_n 0, 1) := by decide +kernel
theorem dX6_beginChange_1 : decode cX6_beginChange 1 = .ok (.getfield 19, 3) := by decide +kernel
theorem dX6_beginChange_4 : decode cX6_beginChange 4 = .ok (.aload_n 0, 1) := by decide +kernel
theorem dX6_beginChange_5 : decode cX6_beginChange 5 = .ok (.getfield 12, 3) := by decide +kernel
theorem dX6_beginChange_8 : decode cX6_beginChange 8 = .ok (.invokevirtual 354, 3) := by decide +kernel
theorem dX6_beginChange_11 : decode cX6_beginChange 11 = .ok (.aload_n 0, 1) := by decide +kernel
theorem dX6_beginChange_12 : decode cX6_beginChange 12 = .ok (.getfield 48, 3) := by decide +kernel
theorem dX6_beginChange_15 : decode cX6_beginChange 15 = .ok (.iconst 0, 1) := by decide +kernel
theorem dX6_beginChange_16 : decode cX6_beginChange 16 = .ok (.putfield 215, 3) := by decide +kernel
theorem dX6_beginChange_19 : decode cX6_beginChange 19 = .ok (.return_, 1) := by decide +kernel
theorem dX6_refuseUnlessBlock_0 : decode cX6_refuseUnlessBlock 0 = .ok (.aload_n 0, 1) := by decide +kernel
theorem dX6_refuseUnlessBlock_1 : decode cX6_refuseUnlessBlock 1 = .ok (.getfield 12, 3) := by decide +kernel
theorem dX6_refuseUnlessBlock_4 : decode cX6_refuseUnlessBlock 4 = .ok (.iload_n 1, 1) := by decide +kernel
theorem dX6_refuseUnlessBlock_5 : decode cX6_refuseUnlessBlock 5 = .ok (.invokevirtual 357, 3) := by decide +kernel
theorem dX6_refuseUnlessBlock_8 : decode cX6_refuseUnlessBlock 8 = .ok (.ifCond .ne 14, 3) := by decide +kernel
theorem dX6_refuseUnlessBlock_11 : decode cX6_refuseUnlessBlock 11 = .ok (.new 84, 3) := by decide +kernel
theorem dX6_refuseUnlessBlock_14 : decode cX6_refuseUnlessBlock 14 = .ok (.dup, 1) := by decide +kernel
theorem dX6_refuseUnlessBlock_15 : decode cX6_refuseUnlessBlock 15 = .ok (.ldc_w 360, 3) := by decide +kernel
theorem dX6_refuseUnlessBlock_18 : decode cX6_refuseUnlessBlock 18 = .ok (.invokespecial 88, 3) := by decide +kernel
theorem dX6_refuseUnlessBlock_21 : decode cX6_refuseUnlessBlock 21 = .ok (.athrow, 1) := by decide +kernel
theorem dX6_refuseUnlessBlock_22 : decode cX6_refuseUnlessBlock 22 = .ok (.return_, 1) := by decide +kernel
theorem dX6_refuseUnlessCodeBit_0 : decode cX6_refuseUnlessCodeBit 0 = .ok (.aload_n 0, 1) := by decide +kernel
theorem dX6_refuseUnlessCodeBit_1 : decode cX6_refuseUnlessCodeBit 1 = .ok (.getfield 12, 3) := by decide +kernel
theorem dX6_refuseUnlessCodeBit_4 : decode cX6_refuseUnlessCodeBit 4 = .ok (.iload_n 1, 1) := by decide +kernel
theorem dX6_refuseUnlessCodeBit_5 : decode cX6_refuseUnlessCodeBit 5 = .ok (.invokevirtual 362, 3) := by decide +kernel
theorem dX6_refuseUnlessCodeBit_8 : decode cX6_refuseUnlessCodeBit 8 = .ok (.ifCond .ne 14, 3) := by decide +kernel
theorem dX6_refuseUnlessCodeBit_11 : decode cX6_refuseUnlessCodeBit 11 = .ok (.new 84, 3) := by decide +kernel
theorem dX6_refuseUnlessCodeBit_14 : decode cX6_refuseUnlessCodeBit 14 = .ok (.dup, 1) := by decide +kernel
theorem dX6_refuseUnlessCodeBit_15 : decode cX6_refuseUnlessCodeBit 15 = .ok (.ldc_w 365, 3) := by decide +kernel
theorem dX6_refuseUnlessCodeBit_18 : decode cX6_refuseUnlessCodeBit 18 = .ok (.invokespecial 88, 3) := by decide +kernel
theorem dX6_refuseUnlessCodeBit_21 : decode cX6_refuseUnlessCodeBit 21 = .ok (.athrow, 1) := by decide +kernel
theorem dX6_refuseUnlessCodeBit_22 : decode cX6_refuseUnlessCodeBit 22 = .ok (.iload_n 2, 1) := by decide +kernel
theorem dX6_refuseUnlessCodeBit_23 : decode cX6_refuseUnlessCodeBit 23 = .ok (.ifCond .lt 8, 3) := by decide +kernel
theorem dX6_refuseUnlessCodeBit_26 : decode cX6_refuseUnlessCodeBit 26 = .ok (.iload_n 2, 1) := by decide +kernel
theorem dX6_refuseUnlessCodeBit_27 : decode cX6_refuseUnlessCodeBit 27 = .ok (.iconst 4, 1) := by decide +kernel
theorem dX6_refuseUnlessCodeBit_28 : decode cX6_refuseUnlessCodeBit 28 = .ok (.if_icmp .lt 14, 3) := by decide +kernel
theorem dX6_refuseUnlessCodeBit_31 : decode cX6_refuseUnlessCodeBit 31 = .ok (.new 62, 3) := by decide +kernel
theorem dX6_refuseUnlessCodeBit_34 : decode cX6_refuseUnlessCodeBit 34 = .ok (.dup, 1) := by decide +kernel
theorem dX6_refuseUnlessCodeBit_35 : decode cX6_refuseUnlessCodeBit 35 = .ok (.ldc_w 367, 3) := by decide +kernel
theorem dX6_refuseUnlessCodeBit_38 : decode cX6_refuseUnlessCodeBit 38 = .ok (.invokespecial 66, 3) := by decide +kernel
theorem dX6_refuseUnlessCodeBit_41 : decode cX6_refuseUnlessCodeBit 41 = .ok (.athrow, 1) := by decide +kernel
theorem dX6_refuseUnlessCodeBit_42 : decode cX6_refuseUnlessCodeBit 42 = .ok (.return_, 1) := by decide +kernel
theorem dX6_refuseUnlessSamples_0 : decode cX6_refuseUnlessSamples 0 = .ok (.aload_n 0, 1) := by decide +kernel
theorem dX6_refuseUnlessSamples_1 : decode cX6_refuseUnlessSamples 1 = .ok (.getfield 12, 3) := by decide +kernel
theorem dX6_refuseUnlessSamples_4 : decode cX6_refuseUnlessSamples 4 = .ok (.iload_n 1, 1) := by decide +kernel
theorem dX6_refuseUnlessSamples_5 : decode cX6_refuseUnlessSamples 5 = .ok (.invokevirtual 80, 3) := by decide +kernel
theorem dX6_refuseUnlessSamples_8 : decode cX6_refuseUnlessSamples 8 = .ok (.ifCond .eq 21, 3) := by decide +kernel
theorem dX6_refuseUnlessSamples_11 : decode cX6_refuseUnlessSamples 11 = .ok (.iload_n 2, 1) := by decide +kernel
theorem dX6_refuseUnlessSamples_12 : decode cX6_refuseUnlessSamples 12 = .ok (.iconst 1, 1) := by decide +kernel
theorem dX6_refuseUnlessSamples_13 : decode cX6_refuseUnlessSamples 13 = .ok (.if_icmp .lt 16, 3) := by decide +kernel
theorem dX6_refuseUnlessSamples_16 : decode cX6_refuseUnlessSamples 16 = .ok (.iload_n 2, 1) := by decide +kernel
theorem dX6_refuseUnlessSamples_17 : decode cX6_refuseUnlessSamples 17 = .ok (.aload_n 0, 1) := by decide +kernel
theorem dX6_refuseUnlessSamples_18 : decode cX6_refuseUnlessSamples 18 = .ok (.getfield 12, 3) := by decide +kernel
theorem dX6_refuseUnlessSamples_21 : decode cX6_refuseUnlessSamples 21 = .ok (.getfield 72, 3) := by decide +kernel
theorem dX6_refuseUnlessSamples_24 : decode cX6_refuseUnlessSamples 24 = .ok (.iload_n 1, 1) := by decide +kernel
theorem dX6_refuseUnlessSamples_25 : decode cX6_refuseUnlessSamples 25 = .ok (.isub, 1) := by decide +kernel
theorem dX6_refuseUnlessSamples_26 : decode cX6_refuseUnlessSamples 26 = .ok (.if_icmp .le 14, 3) := by decide +kernel
theorem dX6_refuseUnlessSamples_29 : decode cX6_refuseUnlessSamples 29 = .ok (.new 84, 3) := by decide +kernel
theorem dX6_refuseUnlessSamples_32 : decode cX6_refuseUnlessSamples 32 = .ok (.dup, 1) := by decide +kernel
theorem dX6_refuseUnlessSamples_33 : decode cX6_refuseUnlessSamples 33 = .ok (.ldc_w 369, 3) := by decide +kernel
theorem dX6_refuseUnlessSamples_36 : decode cX6_refuseUnlessSamples 36 = .ok (.invokespecial 88, 3) := by decide +kernel
theorem dX6_refuseUnlessSamples_39 : decode cX6_refuseUnlessSamples 39 = .ok (.athrow, 1) := by decide +kernel
theorem dX6_refuseUnlessSamples_40 : decode cX6_refuseUnlessSamples 40 = .ok (.return_, 1) := by decide +kernel
theorem dX6_refuseUnlessSlot_0 : decode cX6_refuseUnlessSlot 0 = .ok (.iload_n 1, 1) := by decide +kernel
theorem dX6_refuseUnlessSlot_1 : decode cX6_refuseUnlessSlot 1 = .ok (.ifCond .lt 8, 3) := by decide +kernel
theorem dX6_refuseUnlessSlot_4 : decode cX6_refuseUnlessSlot 4 = .ok (.iload_n 1, 1) := by decide +kernel
theorem dX6_refuseUnlessSlot_5 : decode cX6_refuseUnlessSlot 5 = .ok (.iconst 2, 1) := by decide +kernel
theorem dX6_refuseUnlessSlot_6 : decode cX6_refuseUnlessSlot 6 = .ok (.if_icmp .lt 14, 3) := by decide +kernel
theorem dX6_refuseUnlessSlot_9 : decode cX6_refuseUnlessSlot 9 = .ok (.new 62, 3) := by decide +kernel
theorem dX6_refuseUnlessSlot_12 : decode cX6_refuseUnlessSlot 12 = .ok (.dup, 1) := by decide +kernel
theorem dX6_refuseUnlessSlot_13 : decode cX6_refuseUnlessSlot 13 = .ok (.ldc_w 371, 3) := by decide +kernel
theorem dX6_refuseUnlessSlot_16 : decode cX6_refuseUnlessSlot 16 = .ok (.invokespecial 66, 3) := by decide +kernel
theorem dX6_refuseUnlessSlot_19 : decode cX6_refuseUnlessSlot 19 = .ok (.athrow, 1) := by decide +kernel
theorem dX6_refuseUnlessSlot_20 : decode cX6_refuseUnlessSlot 20 = .ok (.return_, 1) := by decide +kernel
theorem dX6_isValue_0 : decode cX6_isValue 0 = .ok (.iload_n 0, 1) := by decide +kernel
theorem dX6_isValue_1 : decode cX6_isValue 1 = .ok (.sipush (-2048), 3) := by decide +kernel
theorem dX6_isValue_4 : decode cX6_isValue 4 = .ok (.if_icmp .lt 14, 3) := by decide +kernel
theorem dX6_isValue_7 : decode cX6_isValue 7 = .ok (.iload_n 0, 1) := by decide +kernel
theorem dX6_isValue_8 : decode cX6_isValue 8 = .ok (.sipush 2047, 3) := by decide +kernel
theorem dX6_isValue_11 : decode cX6_isValue 11 = .ok (.if_icmp .gt 7, 3) := by decide +kernel
theorem dX6_isValue_14 : decode cX6_isValue 14 = .ok (.iconst 1, 1) := by decide +kernel
theorem dX6_isValue_15 : decode cX6_isValue 15 = .ok (.goto 4, 3) := by decide +kernel
theorem dX6_isValue_18 : decode cX6_isValue 18 = .ok (.iconst 0, 1) := by decide +kernel
theorem dX6_isValue_19 : decode cX6_isValue 19 = .ok (.ireturn, 1) := by decide +kernel
theorem dX6_isNumber_0 : decode cX6_isNumber 0 = .ok (.iload_n 0, 1) := by decide +kernel
theorem dX6_isNumber_1 : decode cX6_isNumber 1 = .ok (.ifCond .lt 13, 3) := by decide +kernel
theorem dX6_isNumber_4 : decode cX6_isNumber 4 = .ok (.iload_n 0, 1) := by decide +kernel
theorem dX6_isNumber_5 : decode cX6_isNumber 5 = .ok (.bipush 48, 2) := by decide +kernel
theorem dX6_isNumber_7 : decode cX6_isNumber 7 = .ok (.if_icmp .gt 7, 3) := by decide +kernel
theorem dX6_isNumber_10 : decode cX6_isNumber 10 = .ok (.iconst 1, 1) := by decide +kernel
theorem dX6_isNumber_11 : decode cX6_isNumber 11 = .ok (.goto 4, 3) := by decide +kernel
theorem dX6_isNumber_14 : decode cX6_isNumber 14 = .ok (.iconst 0, 1) := by decide +kernel
theorem dX6_isNumber_15 : decode cX6_isNumber 15 = .ok (.ireturn, 1) := by decide +kernel
theorem dX6_isSetting_0 : decode cX6_isSetting 0 = .ok (.iload_n 0, 1) := by decide +kernel
theorem dX6_isSetting_1 : decode cX6_isSetting 1 = .ok (.ifCond .lt 12, 3) := by decide +kernel
theorem dX6_isSetting_4 : decode cX6_isSetting 4 = .ok (.iload_n 0, 1) := by decide +kernel
theorem dX6_isSetting_5 : decode cX6_isSetting 5 = .ok (.iconst 3, 1) := by decide +kernel
theorem dX6_isSetting_6 : decode cX6_isSetting 6 = .ok (.if_icmp .ge 7, 3) := by decide +kernel
theorem dX6_isSetting_9 : decode cX6_isSetting 9 = .ok (.iconst 1, 1) := by decide +kernel
theorem dX6_isSetting_10 : decode cX6_isSetting 10 = .ok (.goto 4, 3) := by decide +kernel
theorem dX6_isSetting_13 : decode cX6_isSetting 13 = .ok (.iconst 0, 1) := by decide +kernel
theorem dX6_isSetting_14 : decode cX6_isSetting 14 = .ok (.ireturn, 1) := by decide +kernel
theorem dX6_leastOfSetting_0 : decode cX6_leastOfSetting 0 = .ok (.iload_n 0, 1) := by decide +kernel
theorem dX6_leastOfSetting_1 : decode cX6_leastOfSetting 1 = .ok (.ifCond .ne 7, 3) := by decide +kernel
theorem dX6_leastOfSetting_4 : decode cX6_leastOfSetting 4 = .ok (.iconst 2, 1) := by decide +kernel
theorem dX6_leastOfSetting_5 : decode cX6_leastOfSetting 5 = .ok (.goto 4, 3) := by decide +kernel
theorem dX6_leastOfSetting_8 : decode cX6_leastOfSetting 8 = .ok (.iconst 0, 1) := by decide +kernel
theorem dX6_leastOfSetting_9 : decode cX6_leastOfSetting 9 = .ok (.ireturn, 1) := by decide +kernel
theorem dX6_mostOfSetting_0 : decode cX6_mostOfSetting 0 = .ok (.iload_n 0, 1) := by decide +kernel
theorem dX6_mostOfSetting_1 : decode cX6_mostOfSetting 1 = .ok (.lookupswitch 32 #[(0, 27), (1, 30)], 27) := by decide +kernel
theorem dX6_mostOfSetting_28 : decode cX6_mostOfSetting 28 = .ok (.bipush 16, 2) := by decide +kernel
theorem dX6_mostOfSetting_30 : decode cX6_mostOfSetting 30 = .ok (.ireturn, 1) := by decide +kernel
theorem dX6_mostOfSetting_31 : decode cX6_mostOfSetting 31 = .ok (.iconst 1, 1) := by decide +kernel
theorem dX6_mostOfSetting_32 : decode cX6_mostOfSetting 32 = .ok (.ireturn, 1) := by decide +kernel
theorem dX6_mostOfSetting_33 : decode cX6_mostOfSetting 33 = .ok (.iconst 2, 1) := by decide +kernel
theorem dX6_mostOfSetting_34 : decode cX6_mostOfSetting 34 = .ok (.ireturn, 1) := by decide +kernel
theorem dX6_clip_0 : decode cX6_clip 0 = .ok (.sipush (-2048), 3) := by decide +kernel
theorem dX6_clip_3 : decode cX6_clip 3 = .ok (.sipush 2047, 3) := by decide +kernel
theorem dX6_clip_6 : decode cX6_clip 6 = .ok (.iload_n 0, 1) := by decide +kernel
theorem dX6_clip_7 : decode cX6_clip 7 = .ok (.invokestatic 373, 3) := by decide +kernel
theorem dX6_clip_10 : decode cX6_clip 10 = .ok (.invokestatic 379, 3) := by decide +kernel
theorem dX6_clip_13 : decode cX6_clip 13 = .ok (.ireturn, 1) := by decide +kernel
theorem dX6_shape_0 : decode cX6_shape 0 = .ok (.iload_n 0, 1) := by decide +kernel
theorem dX6_shape_1 : decode cX6_shape 1 = .ok (.lookupswitch 51 #[(0, 27), (1, 41)], 27) := by decide +kernel
theorem dX6_shape_28 : decode cX6_shape 28 = .ok (.iconst 2, 1) := by decide +kernel
theorem dX6_shape_29 : decode cX6_shape 29 = .ok (.iload_n 3, 1) := by decide +kernel
theorem dX6_shape_30 : decode cX6_shape 30 = .ok (.imul, 1) := by decide +kernel
theorem dX6_shape_31 : decode cX6_shape 31 = .ok (.iload_n 2, 1) := by decide +kernel
theorem dX6_shape_32 : decode cX6_shape 32 = .ok (.if_icmp .ge 7, 3) := by decide +kernel
theorem dX6_shape_35 : decode cX6_shape 35 = .ok (.iload_n 1, 1) := by decide +kernel
theorem dX6_shape_36 : decode cX6_shape 36 = .ok (.goto 5, 3) := by decide +kernel
theorem dX6_shape_39 : decode cX6_shape 39 = .ok (.iload_n 1, 1) := by decide +kernel
theorem dX6_shape_40 : decode cX6_shape 40 = .ok (.ineg, 1) := by decide +kernel
theorem dX6_shape_41 : decode cX6_shape 41 = .ok (.ireturn, 1) := by decide +kernel
theorem dX6_shape_42 : decode cX6_shape 42 = .ok (.iload_n 1, 1) := by decide +kernel
theorem dX6_shape_43 : decode cX6_shape 43 = .ok (.iconst 2, 1) := by decide +kernel
theorem dX6_shape_44 : decode cX6_shape 44 = .ok (.iload_n 3, 1) := by decide +kernel
theorem dX6_shape_45 : decode cX6_shape 45 = .ok (.imul, 1) := by decide +kernel
theorem dX6_shape_46 : decode cX6_shape 46 = .ok (.iload_n 2, 1) := by decide +kernel
theorem dX6_shape_47 : decode cX6_shape 47 = .ok (.isub, 1) := by decide +kernel
theorem dX6_shape_48 : decode cX6_shape 48 = .ok (.imul, 1) := by decide +kernel
theorem dX6_shape_49 : decode cX6_shape 49 = .ok (.iload_n 2, 1) := by decide +kernel
theorem dX6_shape_50 : decode cX6_shape 50 = .ok (.idiv, 1) := by decide +kernel
theorem dX6_shape_51 : decode cX6_shape 51 = .ok (.ireturn, 1) := by decide +kernel
theorem dX6_shape_52 : decode cX6_shape 52 = .ok (.iload_n 1, 1) := by decide +kernel
theorem dX6_shape_53 : decode cX6_shape 53 = .ok (.iconst 4, 1) := by decide +kernel
theorem dX6_shape_54 : decode cX6_shape 54 = .ok (.iload_n 3, 1) := by decide +kernel
theorem dX6_shape_55 : decode cX6_shape 55 = .ok (.iload_n 2, 1) := by decide +kernel
theorem dX6_shape_56 : decode cX6_shape 56 = .ok (.iconst 2, 1) := by decide +kernel
theorem dX6_shape_57 : decode cX6_shape 57 = .ok (.idiv, 1) := by decide +kernel
theorem dX6_shape_58 : decode cX6_shape 58 = .ok (.isub, 1) := by decide +kernel
theorem dX6_shape_59 : decode cX6_shape 59 = .ok (.invokestatic 382, 3) := by decide +kernel
theorem dX6_shape_62 : decode cX6_shape 62 = .ok (.imul, 1) := by decide +kernel
theorem dX6_shape_63 : decode cX6_shape 63 = .ok (.iload_n 2, 1) := by decide +kernel
theorem dX6_shape_64 : decode cX6_shape 64 = .ok (.isub, 1) := by decide +kernel
theorem dX6_shape_65 : decode cX6_shape 65 = .ok (.imul, 1) := by decide +kernel
theorem dX6_shape_66 : decode cX6_shape 66 = .ok (.iload_n 2, 1) := by decide +kernel
theorem dX6_shape_67 : decode cX6_shape 67 = .ok (.idiv, 1) := by decide +kernel
theorem dX6_shape_68 : decode cX6_shape 68 = .ok (.ireturn, 1) := by decide +kernel
theorem dX6_copyRow_0 : decode cX6_copyRow 0 = .ok (.aload_n 0, 1) := by decide +kernel
theorem dX6_copyRow_1 : decode cX6_copyRow 1 = .ok (.iconst 0, 1) := by decide +kernel
theorem dX6_copyRow_2 : decode cX6_copyRow 2 = .ok (.aload_n 1, 1) := by decide +kernel
theorem dX6_copyRow_3 : decode cX6_copyRow 3 = .ok (.iconst 0, 1) := by decide +kernel
theorem dX6_copyRow_4 : decode cX6_copyRow 4 = .ok (.aload_n 0, 1) := by decide +kernel
theorem dX6_copyRow_5 : decode cX6_copyRow 5 = .ok (.arraylength, 1) := by decide +kernel
theorem dX6_copyRow_6 : decode cX6_copyRow 6 = .ok (.aload_n 1, 1) := by decide +kernel
theorem dX6_copyRow_7 : decode cX6_copyRow 7 = .ok (.arraylength, 1) := by decide +kernel
theorem dX6_copyRow_8 : decode cX6_copyRow 8 = .ok (.invokestatic 373, 3) := by decide +kernel
theorem dX6_copyRow_11 : decode cX6_copyRow 11 = .ok (.invokestatic 385, 3) := by decide +kernel
theorem dX6_copyRow_14 : decode cX6_copyRow 14 = .ok (.return_, 1) := by decide +kernel
theorem dX6_codedCount_0 : decode cX6_codedCount 0 = .ok (.aload_n 0, 1) := by decide +kernel
theorem dX6_codedCount_1 : decode cX6_codedCount 1 = .ok (.getfield 48, 3) := by decide +kernel
theorem dX6_codedCount_4 : decode cX6_codedCount 4 = .ok (.aload_n 0, 1) := by decide +kernel
theorem dX6_codedCount_5 : decode cX6_codedCount 5 = .ok (.getfield 12, 3) := by decide +kernel
theorem dX6_codedCount_8 : decode cX6_codedCount 8 = .ok (.invokevirtual 124, 3) := by decide +kernel
theorem dX6_codedCount_11 : decode cX6_codedCount 11 = .ok (.iload_n 1, 1) := by decide +kernel
theorem dX6_codedCount_12 : decode cX6_codedCount 12 = .ok (.tableswitch 81 4 7 #[32, 52, 57, 69], 32) := by decide +kernel
theorem dX6_codedCount_44 : decode cX6_codedCount 44 = .ok (.aload_n 0, 1) := by decide +kernel
theorem dX6_codedCount_45 : decode cX6_codedCount 45 = .ok (.getfield 48, 3) := by decide +kernel
theorem dX6_codedCount_48 : decode cX6_codedCount 48 = .ok (.aload_n 0, 1) := by decide +kernel
theorem dX6_codedCount_49 : decode cX6_codedCount 49 = .ok (.getfield 12, 3) := by decide +kernel
theorem dX6_codedCount_52 : decode cX6_codedCount 52 = .ok (.iconst 0, 1) := by decide +kernel
theorem dX6_codedCount_53 : decode cX6_codedCount 53 = .ok (.aload_n 0, 1) := by decide +kernel
theorem dX6_codedCount_54 : decode cX6_codedCount 54 = .ok (.getfield 12, 3) := by decide +kernel
theorem dX6_codedCount_57 : decode cX6_codedCount 57 = .ok (.getfield 72, 3) := by decide +kernel
theorem dX6_codedCount_60 : decode cX6_codedCount 60 = .ok (.invokevirtual 269, 3) := by decide +kernel
theorem dX6_codedCount_63 : decode cX6_codedCount 63 = .ok (.ireturn, 1) := by decide +kernel
theorem dX6_codedCount_64 : decode cX6_codedCount 64 = .ok (.aload_n 0, 1) := by decide +kernel
theorem dX6_codedCount_65 : decode cX6_codedCount 65 = .ok (.invokevirtual 391, 3) := by decide +kernel
theorem dX6_codedCount_68 : decode cX6_codedCount 68 = .ok (.ireturn, 1) := by decide +kernel
theorem dX6_codedCount_69 : decode cX6_codedCount 69 = .ok (.aload_n 0, 1) := by decide +kernel
theorem dX6_codedCount_70 : decode cX6_codedCount 70 = .ok (.getfield 48, 3) := by decide +kernel
theorem dX6_codedCount_73 : decode cX6_codedCount 73 = .ok (.aload_n 0, 1) := by decide +kernel
theorem dX6_codedCount_74 : decode cX6_codedCount 74 = .ok (.getfield 12, 3) := by decide +kernel
theorem dX6_codedCount_77 : decode cX6_codedCount 77 = .ok (.invokevirtual 394, 3) := by decide +kernel
theorem dX6_codedCount_80 : decode cX6_codedCount 80 = .ok (.ireturn, 1) := by decide +kernel
theorem dX6_codedCount_81 : decode cX6_codedCount 81 = .ok (.aload_n 0, 1) := by decide +kernel
theorem dX6_codedCount_82 : decode cX6_codedCount 82 = .ok (.getfield 48, 3) := by decide +kernel
theorem dX6_codedCount_85 : decode cX6_codedCount 85 = .ok (.aload_n 0, 1) := by decide +kernel
theorem dX6_codedCount_86 : decode cX6_codedCount 86 = .ok (.getfield 12, 3) := by decide +kernel
theorem dX6_codedCount_89 : decode cX6_codedCount 89 = .ok (.invokevirtual 128, 3) := by decide +kernel
theorem dX6_codedCount_92 : decode cX6_codedCount 92 = .ok (.ireturn, 1) := by decide +kernel
theorem dX6_codedCount_93 : decode cX6_codedCount 93 = .ok (.bipush 18, 2) := by decide +kernel
theorem dX6_codedCount_95 : decode cX6_codedCount 95 = .ok (.aload_n 0, 1) := by decide +kernel
theorem dX6_codedCount_96 : decode cX6_codedCount 96 = .ok (.getfield 12, 3) := by decide +kernel
theorem dX6_codedCount_99 : decode cX6_codedCount 99 = .ok (.getfield 158, 3) := by decide +kernel
theorem dX6_codedCount_102 : decode cX6_codedCount 102 = .ok (.imul, 1) := by decide +kernel
theorem dX6_codedCount_103 : decode cX6_codedCount 103 = .ok (.iconst 4, 1) := by decide +kernel
theorem dX6_codedCount_104 : decode cX6_codedCount 104 = .ok (.aload_n 0, 1) := by decide +kernel
theorem dX6_codedCount_105 : decode cX6_codedCount 105 = .ok (.getfield 12, 3) := by decide +kernel
theorem dX6_codedCount_108 : decode cX6_codedCount 108 = .ok (.getfield 72, 3) := by decide +kernel
theorem dX6_codedCount_111 : decode cX6_codedCount 111 = .ok (.aload_n 0, 1) := by decide +kernel
theorem dX6_codedCount_112 : decode cX6_codedCount 112 = .ok (.getfield 12, 3) := by decide +kernel
theorem dX6_codedCount_115 : decode cX6_codedCount 115 = .ok (.getfield 158, 3) := by decide +kernel
theorem dX6_codedCount_118 : decode cX6_codedCount 118 = .ok (.isub, 1) := by decide +kernel
theorem dX6_codedCount_119 : decode cX6_codedCount 119 = .ok (.imul, 1) := by decide +kernel
theorem dX6_codedCount_120 : decode cX6_codedCount 120 = .ok (.iadd, 1) := by decide +kernel
theorem dX6_codedCount_121 : decode cX6_codedCount 121 = .ok (.ireturn, 1) := by decide +kernel
theorem dX6_wholeError_0 : decode cX6_wholeError 0 = .ok (.aload_n 0, 1) := by decide +kernel
theorem dX6_wholeError_1 : decode cX6_wholeError 1 = .ok (.getfield 48, 3) := by decide +kernel
theorem dX6_wholeError_4 : decode cX6_wholeError 4 = .ok (.aload_n 0, 1) := by decide +kernel
theorem dX6_wholeError_5 : decode cX6_wholeError 5 = .ok (.getfield 12, 3) := by decide +kernel
theorem dX6_wholeError_8 : decode cX6_wholeError 8 = .ok (.invokevirtual 124, 3) := by decide +kernel
theorem dX6_wholeError_11 : decode cX6_wholeError 11 = .ok (.aload_n 0, 1) := by decide +kernel
theorem dX6_wholeError_12 : decode cX6_wholeError 12 = .ok (.getfield 48, 3) := by decide +kernel
theorem dX6_wholeError_15 : decode cX6_wholeError 15 = .ok (.aload_n 0, 1) := by decide +kernel
theorem dX6_wholeError_16 : decode cX6_wholeError 16 = .ok (.getfield 12, 3) := by decide +kernel
theorem dX6_wholeError_19 : decode cX6_wholeError 19 = .ok (.iconst 0, 1) := by decide +kernel
theorem dX6_wholeError_20 : decode cX6_wholeError 20 = .ok (.aload_n 0, 1) := by decide +kernel
theorem dX6_wholeError_21 : decode cX6_wholeError 21 = .ok (.getfield 12, 3) := by decide +kernel
theorem dX6_wholeError_24 : decode cX6_wholeError 24 = .ok (.getfield 72, 3) := by decide +kernel
theorem dX6_wholeError_27 : decode cX6_wholeError 27 = .ok (.invokevirtual 269, 3) := by decide +kernel
theorem dX6_wholeError_30 : decode cX6_wholeError 30 = .ok (.ireturn, 1) := by decide +kernel
theorem dX6_errorByBlocks_0 : decode cX6_errorByBlocks 0 = .ok (.iconst 0, 1) := by decide +kernel
theorem dX6_errorByBlocks_1 : decode cX6_errorByBlocks 1 = .ok (.istore_n 1, 1) := by decide +kernel
theorem dX6_errorByBlocks_2 : decode cX6_errorByBlocks 2 = .ok (.iconst 0, 1) := by decide +kernel
theorem dX6_errorByBlocks_3 : decode cX6_errorByBlocks 3 = .ok (.istore_n 2, 1) := by decide +kernel
theorem dX6_errorByBlocks_4 : decode cX6_errorByBlocks 4 = .ok (.iload_n 2, 1) := by decide +kernel
theorem dX6_errorByBlocks_5 : decode cX6_errorByBlocks 5 = .ok (.aload_n 0, 1) := by decide +kernel
theorem dX6_errorByBlocks_6 : decode cX6_errorByBlocks 6 = .ok (.getfield 12, 3) := by decide +kernel
theorem dX6_errorByBlocks_9 : decode cX6_errorByBlocks 9 = .ok (.getfield 158, 3) := by decide +kernel
theorem dX6_errorByBlocks_12 : decode cX6_errorByBlocks 12 = .ok (.if_icmp .ge 39, 3) := by decide +kernel
theorem dX6_errorByBlocks_15 : decode cX6_errorByBlocks 15 = .ok (.iload_n 1, 1) := by decide +kernel
theorem dX6_errorByBlocks_16 : decode cX6_errorByBlocks 16 = .ok (.aload_n 0, 1) := by decide +kernel
theorem dX6_errorByBlocks_17 : decode cX6_errorByBlocks 17 = .ok (.getfield 48, 3) := by decide +kernel
theorem dX6_errorByBlocks_20 : decode cX6_errorByBlocks 20 = .ok (.aload_n 0, 1) := by decide +kernel
theorem dX6_errorByBlocks_21 : decode cX6_errorByBlocks 21 = .ok (.getfield 12, 3) := by decide +kernel
theorem dX6_errorByBlocks_24 : decode cX6_errorByBlocks 24 = .ok (.aload_n 0, 1) := by decide +kernel
theorem dX6_errorByBlocks_25 : decode cX6_errorByBlocks 25 = .ok (.getfield 12, 3) := by decide +kernel
theorem dX6_errorByBlocks_28 : decode cX6_errorByBlocks 28 = .ok (.iload_n 2, 1) := by decide +kernel
theorem dX6_errorByBlocks_29 : decode cX6_errorByBlocks 29 = .ok (.invokevirtual 260, 3) := by decide +kernel
theorem dX6_errorByBlocks_32 : decode cX6_errorByBlocks 32 = .ok (.aload_n 0, 1) := by decide +kernel
theorem dX6_errorByBlocks_33 : decode cX6_errorByBlocks 33 = .ok (.getfield 12, 3) := by decide +kernel
theorem dX6_errorByBlocks_36 : decode cX6_errorByBlocks 36 = .ok (.iload_n 2, 1) := by decide +kernel
theorem dX6_errorByBlocks_37 : decode cX6_errorByBlocks 37 = .ok (.invokevirtual 257, 3) := by decide +kernel
theorem dX6_errorByBlocks_40 : decode cX6_errorByBlocks 40 = .ok (.invokevirtual 269, 3) := by decide +kernel
theorem dX6_errorByBlocks_43 : decode cX6_errorByBlocks 43 = .ok (.iadd, 1) := by decide +kernel
theorem dX6_errorByBlocks_44 : decode cX6_errorByBlocks 44 = .ok (.istore_n 1, 1) := by decide +kernel
theorem dX6_errorByBlocks_45 : decode cX6_errorByBlocks 45 = .ok (.iinc 2 1, 3) := by decide +kernel
theorem dX6_errorByBlocks_48 : decode cX6_errorByBlocks 48 = .ok (.goto (-44), 3) := by decide +kernel
theorem dX6_errorByBlocks_51 : decode cX6_errorByBlocks 51 = .ok (.iload_n 1, 1) := by decide +kernel
theorem dX6_errorByBlocks_52 : decode cX6_errorByBlocks 52 = .ok (.ireturn, 1) := by decide +kernel
theorem dX6_leadOf_0 : decode cX6_leadOf 0 = .ok (.aload_n 0, 1) := by decide +kernel
theorem dX6_leadOf_1 : decode cX6_leadOf 1 = .ok (.getfield 58, 3) := by decide +kernel
theorem dX6_leadOf_4 : decode cX6_leadOf 4 = .ok (.aload_n 0, 1) := by decide +kernel
theorem dX6_leadOf_5 : decode cX6_leadOf 5 = .ok (.getfield 12, 3) := by decide +kernel
theorem dX6_leadOf_8 : decode cX6_leadOf 8 = .ok (.getfield 263, 3) := by decide +kernel
theorem dX6_leadOf_11 : decode cX6_leadOf 11 = .ok (.iload_n 1, 1) := by decide +kernel
theorem dX6_leadOf_12 : decode cX6_leadOf 12 = .ok (.iaload, 1) := by decide +kernel
theorem dX6_leadOf_13 : decode cX6_leadOf 13 = .ok (.aload_n 0, 1) := by decide +kernel
theorem dX6_leadOf_14 : decode cX6_leadOf 14 = .ok (.getfield 12, 3) := by decide +kernel
theorem dX6_leadOf_17 : decode cX6_leadOf 17 = .ok (.getfield 266, 3) := by decide +kernel
theorem dX6_leadOf_20 : decode cX6_leadOf 20 = .ok (.iload_n 1, 1) := by decide +kernel
theorem dX6_leadOf_21 : decode cX6_leadOf 21 = .ok (.iaload, 1) := by decide +kernel
theorem dX6_leadOf_22 : decode cX6_leadOf 22 = .ok (.invokevirtual 290, 3) := by decide +kernel
theorem dX6_leadOf_25 : decode cX6_leadOf 25 = .ok (.aload_n 0, 1) := by decide +kernel
theorem dX6_leadOf_26 : decode cX6_leadOf 26 = .ok (.getfield 12, 3) := by decide +kernel
theorem dX6_leadOf_29 : decode cX6_leadOf 29 = .ok (.iload_n 1, 1) := by decide +kernel
theorem dX6_leadOf_30 : decode cX6_leadOf 30 = .ok (.invokevirtual 260, 3) := by decide +kernel
theorem dX6_leadOf_33 : decode cX6_leadOf 33 = .ok (.iconst 1, 1) := by decide +kernel
theorem dX6_leadOf_34 : decode cX6_leadOf 34 = .ok (.iadd, 1) := by decide +kernel
theorem dX6_leadOf_35 : decode cX6_leadOf 35 = .ok (.istore_n 2, 1) := by decide +kernel
theorem dX6_leadOf_36 : decode cX6_leadOf 36 = .ok (.iload_n 2, 1) := by decide +kernel
theorem dX6_leadOf_37 : decode cX6_leadOf 37 = .ok (.aload_n 0, 1) := by decide +kernel
theorem dX6_leadOf_38 : decode cX6_leadOf 38 = .ok (.getfield 12, 3) := by decide +kernel
theorem dX6_leadOf_41 : decode cX6_leadOf 41 = .ok (.iload_n 1, 1) := by decide +kernel
theorem dX6_leadOf_42 : decode cX6_leadOf 42 = .ok (.invokevirtual 257, 3) := by decide +kernel
theorem dX6_leadOf_45 : decode cX6_leadOf 45 = .ok (.if_icmp .ge 25, 3) := by decide +kernel
theorem dX6_leadOf_48 : decode cX6_leadOf 48 = .ok (.aload_n 0, 1) := by decide +kernel
theorem dX6_leadOf_49 : decode cX6_leadOf 49 = .ok (.getfield 58, 3) := by decide +kernel
theorem dX6_leadOf_52 : decode cX6_leadOf 52 = .ok (.aload_n 0, 1) := by decide +kernel
theorem dX6_leadOf_53 : decode cX6_leadOf 53 = .ok (.getfield 12, 3) := by decide +kernel
theorem dX6_leadOf_56 : decode cX6_leadOf 56 = .ok (.getfield 181, 3) := by decide +kernel
theorem dX6_leadOf_59 : decode cX6_leadOf 59 = .ok (.iload_n 2, 1) := by decide +kernel
theorem dX6_leadOf_60 : decode cX6_leadOf 60 = .ok (.iaload, 1) := by decide +kernel
theorem dX6_leadOf_61 : decode cX6_leadOf 61 = .ok (.invokevirtual 296, 3) := by decide +kernel
theorem dX6_leadOf_64 : decode cX6_leadOf 64 = .ok (.iinc 2 1, 3) := by decide +kernel
theorem dX6_leadOf_67 : decode cX6_leadOf 67 = .ok (.goto (-31), 3) := by decide +kernel
theorem dX6_leadOf_70 : decode cX6_leadOf 70 = .ok (.aload_n 0, 1) := by decide +kernel
theorem dX6_leadOf_71 : decode cX6_leadOf 71 = .ok (.getfield 58, 3) := by decide +kernel
theorem dX6_leadOf_74 : decode cX6_leadOf 74 = .ok (.getfield 302, 3) := by decide +kernel
theorem dX6_leadOf_77 : decode cX6_leadOf 77 = .ok (.ireturn, 1) := by decide +kernel
theorem dJ9_abs_0f7a4_0 : decode cJ9_abs_0f7a4 0 = .ok (.iload_n 0, 1) := by decide +kernel
theorem dJ9_abs_0f7a4_1 : decode cJ9_abs_0f7a4 1 = .ok (.ifCond .ge 8, 3) := by decide +kernel
theorem dJ9_abs_0f7a4_4 : decode cJ9_abs_0f7a4 4 = .ok (.iload_n 0, 1) := by decide +kernel
theorem dJ9_abs_0f7a4_5 : decode cJ9_abs_0f7a4 5 = .ok (.ineg, 1) := by decide +kernel
theorem dJ9_abs_0f7a4_6 : decode cJ9_abs_0f7a4 6 = .ok (.goto 4, 3) := by decide +kernel
theorem dJ9_abs_0f7a4_9 : decode cJ9_abs_0f7a4 9 = .ok (.iload_n 0, 1) := by decide +kernel
theorem dJ9_abs_0f7a4_10 : decode cJ9_abs_0f7a4 10 = .ok (.ireturn, 1) := by decide +kernel
theorem dJ9_max_7cf53_0 : decode cJ9_max_7cf53 0 = .ok (.iload_n 0, 1) := by decide +kernel
theorem dJ9_max_7cf53_1 : decode cJ9_max_7cf53 1 = .ok (.iload_n 1, 1) := by decide +kernel
theorem dJ9_max_7cf53_2 : decode cJ9_max_7cf53 2 = .ok (.if_icmp .lt 7, 3) := by decide +kernel
theorem dJ9_max_7cf53_5 : decode cJ9_max_7cf53 5 = .ok (.iload_n 0, 1) := by decide +kernel
theorem dJ9_max_7cf53_6 : decode cJ9_max_7cf53 6 = .ok (.goto 4, 3) := by decide +kernel
theorem dJ9_max_7cf53_9 : decode cJ9_max_7cf53 9 = .ok (.iload_n 1, 1) := by decide +kernel
theorem dJ9_max_7cf53_10 : decode cJ9_max_7cf53 10 = .ok (.ireturn, 1) := by decide +kernel
theorem dJ9_min_7cf53_0 : decode cJ9_min_7cf53 0 = .ok (.iload_n 0, 1) := by decide +kernel
theorem dJ9_min_7cf53_1 : decode cJ9_min_7cf53 1 = .ok (.iload_n 1, 1) := by decide +kernel
theorem dJ9_min_7cf53_2 : decode cJ9_min_7cf53 2 = .ok (.if_icmp .gt 7, 3) := by decide +kernel
theorem dJ9_min_7cf53_5 : decode cJ9_min_7cf53 5 = .ok (.iload_n 0, 1) := by decide +kernel
theorem dJ9_min_7cf53_6 : decode cJ9_min_7cf53 6 = .ok (.goto 4, 3) := by decide +kernel
theorem dJ9_min_7cf53_9 : decode cJ9_min_7cf53 9 = .ok (.iload_n 1, 1) := by decide +kernel
theorem dJ9_min_7cf53_10 : decode cJ9_min_7cf53 10 = .ok (.ireturn, 1) := by decide +kernel
end
section
theorem dL_cell_0 : decode cL_cell 0 = .ok (.iload_n 1, 1) := by decide +kernel
theorem dL_cell_1 : decode cL_cell 1 = .ok (.aload_n 0, 1) := by decide +kernel
theorem dL_cell_2 : decode cL_cell 2 = .ok (.arraylength, 1) := by decide +kernel
theorem dL_cell_3 : decode cL_cell 3 = .ok (.if_icmp .ge 9, 3) := by decide +kernel
theorem dL_cell_6 : decode cL_cell 6 = .ok (.aload_n 0, 1) := by decide +kernel
theorem dL_cell_7 : decode cL_cell 7 = .ok (.iload_n 1, 1) := by decide +kernel
theorem dL_cell_8 : decode cL_cell 8 = .ok (.iaload, 1) := by decide +kernel
theorem dL_cell_9 : decode cL_cell 9 = .ok (.goto 11, 3) := by decide +kernel
theorem dL_cell_12 : decode cL_cell 12 = .ok (.ldc 7, 2) := by decide +kernel
theorem dL_cell_14 : decode cL_cell 14 = .ok (.iload_n 1, 1) := by decide +kernel
theorem dL_cell_15 : decode cL_cell 15 = .ok (.imul, 1) := by decide +kernel
theorem dL_cell_16 : decode cL_cell 16 = .ok (.sipush 977, 3) := by decide +kernel
theorem dL_cell_19 : decode cL_cell 19 = .ok (.iadd, 1) := by decide +kernel
theorem dL_cell_20 : decode cL_cell 20 = .ok (.ireturn, 1) := by decide +kernel
theorem dL_low_0 : decode cL_low 0 = .ok (.iload_n 0, 1) := by decide +kernel
theorem dL_low_1 : decode cL_low 1 = .ok (.ldc 8, 2) := by decide +kernel
theorem dL_low_3 : decode cL_low 3 = .ok (.iand, 1) := by decide +kernel
theorem dL_low_4 : decode cL_low 4 = .ok (.iload_n 1, 1) := by decide +kernel
theorem dL_low_5 : decode cL_low 5 = .ok (.irem, 1) := by decide +kernel
theorem dL_low_6 : decode cL_low 6 = .ok (.ireturn, 1) := by decide +kernel
theorem dL_change_0 : decode cL_change 0 = .ok (.aload_n 0, 1) := by decide +kernel
theorem dL_change_1 : decode cL_change 1 = .ok (.iconst 0, 1) := by decide +kernel
theorem dL_change_2 : decode cL_change 2 = .ok (.invokevirtual 9, 3) := by decide +kernel
theorem dL_change_5 : decode cL_change 5 = .ok (.istore_n 3, 1) := by decide +kernel
theorem dL_change_6 : decode cL_change 6 = .ok (.aload_n 0, 1) := by decide +kernel
theorem dL_change_7 : decode cL_change 7 = .ok (.iconst 2, 1) := by decide +kernel
theorem dL_change_8 : decode cL_change 8 = .ok (.invokevirtual 9, 3) := by decide +kernel
theorem dL_change_11 : decode cL_change 11 = .ok (.istore 4, 2) := by decide +kernel
theorem dL_change_13 : decode cL_change 13 = .ok (.iconst 0, 1) := by decide +kernel
theorem dL_change_14 : decode cL_change 14 = .ok (.istore 5, 2) := by decide +kernel
theorem dL_change_16 : decode cL_change 16 = .ok (.iload_n 1, 1) := by decide +kernel
theorem dL_change_17 : decode cL_change 17 = .ok (.bipush 12, 2) := by decide +kernel
theorem dL_change_19 : decode cL_change 19 = .ok (.invokestatic 15, 3) := by decide +kernel
theorem dL_change_22 : decode cL_change 22 = .ok (.tableswitch 393 0 9 #[54, 100, 100, 154, 154, 210, 249, 291, 320, 361], 54) := by decide +kernel
theorem dL_change_76 : decode cL_change 76 = .ok (.aload_n 0, 1) := by decide +kernel
theorem dL_change_77 : decode cL_change 77 = .ok (.iconst 1, 1) := by decide +kernel
theorem dL_change_78 : decode cL_change 78 = .ok (.iload_n 2, 1) := by decide +kernel
theorem dL_change_79 : decode cL_change 79 = .ok (.bipush 40, 2) := by decide +kernel
theorem dL_change_81 : decode cL_change 81 = .ok (.invokestatic 15, 3) := by decide +kernel
theorem dL_change_84 : decode cL_change 84 = .ok (.iadd, 1) := by decide +kernel
theorem dL_change_85 : decode cL_change 85 = .ok (.invokevirtual 21, 3) := by decide +kernel
theorem dL_change_88 : decode cL_change 88 = .ok (.iload_n 3, 1) := by decide +kernel
theorem dL_change_89 : decode cL_change 89 = .ok (.if_icmp .ne 31, 3) := by decide +kernel
theorem dL_change_92 : decode cL_change 92 = .ok (.aload_n 0, 1) := by decide +kernel
theorem dL_change_93 : decode cL_change 93 = .ok (.iconst 0, 1) := by decide +kernel
theorem dL_change_94 : decode cL_change 94 = .ok (.invokevirtual 9, 3) := by decide +kernel
theorem dL_change_97 : decode cL_change 97 = .ok (.iconst 1, 1) := by decide +kernel
theorem dL_change_98 : decode cL_change 98 = .ok (.iload_n 2, 1) := by decide +kernel
theorem dL_change_99 : decode cL_change 99 = .ok (.bipush 40, 2) := by decide +kernel
theorem dL_change_101 : decode cL_change 101 = .ok (.invokestatic 15, 3) := by decide +kernel
theorem dL_change_104 : decode cL_change 104 = .ok (.iadd, 1) := by decide +kernel
theorem dL_change_105 : decode cL_change 105 = .ok (.if_icmp .ne 15, 3) := by decide +kernel
theorem dL_change_108 : decode cL_change 108 = .ok (.aload_n 0, 1) := by decide +kernel
theorem dL_change_109 : decode cL_change 109 = .ok (.iconst 1, 1) := by decide +kernel
theorem dL_change_110 : decode cL_change 110 = .ok (.invokevirtual 9, 3) := by decide +kernel
theorem dL_change_113 : decode cL_change 113 = .ok (.ifCond .ne 7, 3) := by decide +kernel
theorem dL_change_116 : decode cL_change 116 = .ok (.iconst 1, 1) := by decide +kernel
theorem dL_change_117 : decode cL_change 117 = .ok (.goto 4, 3) := by decide +kernel
theorem dL_change_120 : decode cL_change 120 = .ok (.iconst 0, 1) := by decide +kernel
theorem dL_change_121 : decode cL_change 121 = .ok (.ireturn, 1) := by decide +kernel
theorem dL_change_122 : decode cL_change 122 = .ok (.aload_n 0, 1) := by decide +kernel
theorem dL_change_123 : decode cL_change 123 = .ok (.iload_n 2, 1) := by decide +kernel
theorem dL_change_124 : decode cL_change 124 = .ok (.iload_n 3, 1) := by decide +kernel
theorem dL_change_125 : decode cL_change 125 = .ok (.invokestatic 15, 3) := by decide +kernel
theorem dL_change_128 : decode cL_change 128 = .ok (.iconst 0, 1) := by decide +kernel
theorem dL_change_129 : decode cL_change 129 = .ok (.invokevirtual 24, 3) := by decide +kernel
theorem dL_change_132 : decode cL_change 132 = .ok (.istore 5, 2) := by decide +kernel
theorem dL_change_134 : decode cL_change 134 = .ok (.aload_n 0, 1) := by decide +kernel
theorem dL_change_135 : decode cL_change 135 = .ok (.iload_n 2, 1) := by decide +kernel
theorem dL_change_136 : decode cL_change 136 = .ok (.iload_n 3, 1) := by decide +kernel
theorem dL_change_137 : decode cL_change 137 = .ok (.invokestatic 15, 3) := by decide +kernel
theorem dL_change_140 : decode cL_change 140 = .ok (.iload_n 2, 1) := by decide +kernel
theorem dL_change_141 : decode cL_change 141 = .ok (.bipush 6, 2) := by decide +kernel
theorem dL_change_143 : decode cL_change 143 = .ok (.ishr, 1) := by decide +kernel
theorem dL_change_144 : decode cL_change 144 = .ok (.sipush 4096, 3) := by decide +kernel
theorem dL_change_147 : decode cL_change 147 = .ok (.invokestatic 15, 3) := by decide +kernel
theorem dL_change_150 : decode cL_change 150 = .ok (.sipush 2048, 3) := by decide +kernel
theorem dL_change_153 : decode cL_change 153 = .ok (.isub, 1) := by decide +kernel
theorem dL_change_154 : decode cL_change 154 = .ok (.invokevirtual 27, 3) := by decide +kernel
theorem dL_change_157 : decode cL_change 157 = .ok (.iload 5, 2) := by decide +kernel
theorem dL_change_159 : decode cL_change 159 = .ok (.if_icmp .ne 15, 3) := by decide +kernel
theorem dL_change_162 : decode cL_change 162 = .ok (.aload_n 0, 1) := by decide +kernel
theorem dL_change_163 : decode cL_change 163 = .ok (.iconst 1, 1) := by decide +kernel
theorem dL_change_164 : decode cL_change 164 = .ok (.invokevirtual 9, 3) := by decide +kernel
theorem dL_change_167 : decode cL_change 167 = .ok (.ifCond .ne 7, 3) := by decide +kernel
theorem dL_change_170 : decode cL_change 170 = .ok (.iconst 1, 1) := by decide +kernel
theorem dL_change_171 : decode cL_change 171 = .ok (.goto 4, 3) := by decide +kernel
theorem dL_change_174 : decode cL_change 174 = .ok (.iconst 0, 1) := by decide +kernel
theorem dL_change_175 : decode cL_change 175 = .ok (.ireturn, 1) := by decide +kernel
theorem dL_change_176 : decode cL_change 176 = .ok (.aload_n 0, 1) := by decide +kernel
theorem dL_change_177 : decode cL_change 177 = .ok (.iload_n 2, 1) := by decide +kernel
theorem dL_change_178 : decode cL_change 178 = .ok (.iconst 3, 1) := by decide +kernel
theorem dL_change_179 : decode cL_change 179 = .ok (.invokestatic 15, 3) := by decide +kernel
theorem dL_change_182 : decode cL_change 182 = .ok (.iload_n 2, 1) := by decide +kernel
theorem dL_change_183 : decode cL_change 183 = .ok (.iconst 2, 1) := by decide +kernel
theorem dL_change_184 : decode cL_change 184 = .ok (.ishr, 1) := by decide +kernel
theorem dL_change_185 : decode cL_change 185 = .ok (.sipush 2048, 3) := by decide +kernel
theorem dL_change_188 : decode cL_change 188 = .ok (.invokestatic 15, 3) := by decide +kernel
theorem dL_change_191 : decode cL_change 191 = .ok (.iconst 1, 1) := by decide +kernel
theorem dL_change_192 : decode cL_change 192 = .ok (.iload_n 2, 1) := by decide +kernel
theorem dL_change_193 : decode cL_change 193 = .ok (.bipush 13, 2) := by decide +kernel
theorem dL_change_195 : decode cL_change 195 = .ok (.ishr, 1) := by decide +kernel
theorem dL_change_196 : decode cL_change 196 = .ok (.bipush 40, 2) := by decide +kernel
theorem dL_change_198 : decode cL_change 198 = .ok (.invokestatic 15, 3) := by decide +kernel
theorem dL_change_201 : decode cL_change 201 = .ok (.iadd, 1) := by decide +kernel
theorem dL_change_202 : decode cL_change 202 = .ok (.invokevirtual 30, 3) := by decide +kernel
theorem dL_change_205 : decode cL_change 205 = .ok (.istore 5, 2) := by decide +kernel
theorem dL_change_207 : decode cL_change 207 = .ok (.iload 5, 2) := by decide +kernel
theorem dL_change_209 : decode cL_change 209 = .ok (.ifCond .lt 21, 3) := by decide +kernel
theorem dL_change_212 : decode cL_change 212 = .ok (.iload 5, 2) := by decide +kernel
theorem dL_change_214 : decode cL_change 214 = .ok (.iload_n 3, 1) := by decide +kernel
theorem dL_change_215 : decode cL_change 215 = .ok (.if_icmp .gt 15, 3) := by decide +kernel
theorem dL_change_218 : decode cL_change 218 = .ok (.aload_n 0, 1) := by decide +kernel
theorem dL_change_219 : decode cL_change 219 = .ok (.iconst 1, 1) := by decide +kernel
theorem dL_change_220 : decode cL_change 220 = .ok (.invokevirtual 9, 3) := by decide +kernel
theorem dL_change_223 : decode cL_change 223 = .ok (.ifCond .ne 7, 3) := by decide +kernel
theorem dL_change_226 : decode cL_change 226 = .ok (.iconst 1, 1) := by decide +kernel
theorem dL_change_227 : decode cL_change 227 = .ok (.goto 4, 3) := by decide +kernel
theorem dL_change_230 : decode cL_change 230 = .ok (.iconst 0, 1) := by decide +kernel
theorem dL_change_231 : decode cL_change 231 = .ok (.ireturn, 1) := by decide +kernel
theorem dL_change_232 : decode cL_change 232 = .ok (.aload_n 0, 1) := by decide +kernel
theorem dL_change_233 : decode cL_change 233 = .ok (.iconst 0, 1) := by decide +kernel
theorem dL_change_234 : decode cL_change 234 = .ok (.invokevirtual 34, 3) := by decide +kernel
theorem dL_change_237 : decode cL_change 237 = .ok (.istore 5, 2) := by decide +kernel
theorem dL_change_239 : decode cL_change 239 = .ok (.aload_n 0, 1) := by decide +kernel
theorem dL_change_240 : decode cL_change 240 = .ok (.iconst 0, 1) := by decide +kernel
theorem dL_change_241 : decode cL_change 241 = .ok (.iconst 2, 1) := by decide +kernel
theorem dL_change_242 : decode cL_change 242 = .ok (.iload_n 2, 1) := by decide +kernel
theorem dL_change_243 : decode cL_change 243 = .ok (.bipush 15, 2) := by decide +kernel
theorem dL_change_245 : decode cL_change 245 = .ok (.invokestatic 15, 3) := by decide +kernel
theorem dL_change_248 : decode cL_change 248 = .ok (.iadd, 1) := by decide +kernel
theorem dL_change_249 : decode cL_change 249 = .ok (.invokevirtual 37, 3) := by decide +kernel
theorem dL_change_252 : decode cL_change 252 = .ok (.iload 5, 2) := by decide +kernel
theorem dL_change_254 : decode cL_change 254 = .ok (.if_icmp .ne 15, 3) := by decide +kernel
theorem dL_change_257 : decode cL_change 257 = .ok (.aload_n 0, 1) := by decide +kernel
theorem dL_change_258 : decode cL_change 258 = .ok (.iconst 1, 1) := by decide +kernel
theorem dL_change_259 : decode cL_change 259 = .ok (.invokevirtual 9, 3) := by decide +kernel
theorem dL_change_262 : decode cL_change 262 = .ok (.ifCond .ne 7, 3) := by decide +kernel
theorem dL_change_265 : decode cL_change 265 = .ok (.iconst 1, 1) := by decide +kernel
theorem dL_change_266 : decode cL_change 266 = .ok (.goto 4, 3) := by decide +kernel
theorem dL_change_269 : decode cL_change 269 = .ok (.iconst 0, 1) := by decide +kernel
theorem dL_change_270 : decode cL_change 270 = .ok (.ireturn, 1) := by decide +kernel
theorem dL_change_271 : decode cL_change 271 = .ok (.aload_n 0, 1) := by decide +kernel
theorem dL_change_272 : decode cL_change 272 = .ok (.iconst 1, 1) := by decide +kernel
theorem dL_change_273 : decode cL_change 273 = .ok (.iload_n 2, 1) := by decide +kernel
theorem dL_change_274 : decode cL_change 274 = .ok (.iconst 1, 1) := by decide +kernel
theorem dL_change_275 : decode cL_change 275 = .ok (.iand, 1) := by decide +kernel
theorem dL_change_276 : decode cL_change 276 = .ok (.iadd, 1) := by decide +kernel
theorem dL_change_277 : decode cL_change 277 = .ok (.invokevirtual 34, 3) := by decide +kernel
theorem dL_change_280 : decode cL_change 280 = .ok (.istore 5, 2) := by decide +kernel
theorem dL_change_282 : decode cL_change 282 = .ok (.aload_n 0, 1) := by decide +kernel
theorem dL_change_283 : decode cL_change 283 = .ok (.iconst 1, 1) := by decide +kernel
theorem dL_change_284 : decode cL_change 284 = .ok (.iload_n 2, 1) := by decide +kernel
theorem dL_change_285 : decode cL_change 285 = .ok (.iconst 1, 1) := by decide +kernel
theorem dL_change_286 : decode cL_change 286 = .ok (.iand, 1) := by decide +kernel
theorem dL_change_287 : decode cL_change 287 = .ok (.iadd, 1) := by decide +kernel
theorem dL_change_288 : decode cL_change 288 = .ok (.iload_n 2, 1) := by decide +kernel
theorem dL_change_289 : decode cL_change 289 = .ok (.iconst 1, 1) := by decide +kernel
theorem dL_change_290 : decode cL_change 290 = .ok (.ishr, 1) := by decide +kernel
theorem dL_change_291 : decode cL_change 291 = .ok (.iconst 2, 1) := by decide +kernel
theorem dL_change_292 : decode cL_change 292 = .ok (.iload_n 2, 1) := by decide +kernel
theorem dL_change_293 : decode cL_change 293 = .ok (.iconst 1, 1) := by decide +kernel
theorem dL_change_294 : decode cL_change 294 = .ok (.iand, 1) := by decide +kernel
theorem dL_change_295 : decode cL_change 295 = .ok (.iadd, 1) := by decide +kernel
theorem dL_change_296 : decode cL_change 296 = .ok (.invokestatic 15, 3) := by decide +kernel
theorem dL_change_299 : decode cL_change 299 = .ok (.invokevirtual 37, 3) := by decide +kernel
theorem dL_change_302 : decode cL_change 302 = .ok (.iload 5, 2) := by decide +kernel
theorem dL_change_304 : decode cL_change 304 = .ok (.if_icmp .ne 7, 3) := by decide +kernel
theorem dL_change_307 : decode cL_change 307 = .ok (.iconst 1, 1) := by decide +kernel
theorem dL_change_308 : decode cL_change 308 = .ok (.goto 4, 3) := by decide +kernel
theorem dL_change_311 : decode cL_change 311 = .ok (.iconst 0, 1) := by decide +kernel
theorem dL_change_312 : decode cL_change 312 = .ok (.ireturn, 1) := by decide +kernel
theorem dL_change_313 : decode cL_change 313 = .ok (.iload 4, 2) := by decide +kernel
theorem dL_change_315 : decode cL_change 315 = .ok (.ifCond .eq 21, 3) := by decide +kernel
theorem dL_change_318 : decode cL_change 318 = .ok (.aload_n 0, 1) := by decide +kernel
theorem dL_change_319 : decode cL_change 319 = .ok (.iload_n 2, 1) := by decide +kernel
theorem dL_change_320 : decode cL_change 320 = .ok (.iload 4, 2) := by decide +kernel
theorem dL_change_322 : decode cL_change 322 = .ok (.invokestatic 15, 3) := by decide +kernel
theorem dL_change_325 : decode cL_change 325 = .ok (.invokevirtual 40, 3) := by decide +kernel
theorem dL_change_328 : decode cL_change 328 = .ok (.aload_n 0, 1) := by decide +kernel
theorem dL_change_329 : decode cL_change 329 = .ok (.iconst 3, 1) := by decide +kernel
theorem dL_change_330 : decode cL_change 330 = .ok (.invokevirtual 9, 3) := by decide +kernel
theorem dL_change_333 : decode cL_change 333 = .ok (.if_icmp .ne 7, 3) := by decide +kernel
theorem dL_change_336 : decode cL_change 336 = .ok (.iconst 1, 1) := by decide +kernel
theorem dL_change_337 : decode cL_change 337 = .ok (.goto 4, 3) := by decide +kernel
theorem dL_change_340 : decode cL_change 340 = .ok (.iconst 0, 1) := by decide +kernel
theorem dL_change_341 : decode cL_change 341 = .ok (.ireturn, 1) := by decide +kernel
theorem dL_change_342 : decode cL_change 342 = .ok (.iload_n 2, 1) := by decide +kernel
theorem dL_change_343 : decode cL_change 343 = .ok (.iload_n 3, 1) := by decide +kernel
theorem dL_change_344 : decode cL_change 344 = .ok (.invokestatic 15, 3) := by decide +kernel
theorem dL_change_347 : decode cL_change 347 = .ok (.istore 6, 2) := by decide +kernel
theorem dL_change_349 : decode cL_change 349 = .ok (.aload_n 0, 1) := by decide +kernel
theorem dL_change_350 : decode cL_change 350 = .ok (.iload 6, 2) := by decide +kernel
theorem dL_change_352 : decode cL_change 352 = .ok (.iconst 3, 1) := by decide +kernel
theorem dL_change_353 : decode cL_change 353 = .ok (.invokevirtual 24, 3) := by decide +kernel
theorem dL_change_356 : decode cL_change 356 = .ok (.iconst (-1), 1) := by decide +kernel
theorem dL_change_357 : decode cL_change 357 = .ok (.if_icmp .eq 20, 3) := by decide +kernel
theorem dL_change_360 : decode cL_change 360 = .ok (.aload_n 0, 1) := by decide +kernel
theorem dL_change_361 : decode cL_change 361 = .ok (.iload 6, 2) := by decide +kernel
theorem dL_change_363 : decode cL_change 363 = .ok (.iload_n 2, 1) := by decide +kernel
theorem dL_change_364 : decode cL_change 364 = .ok (.bipush 6, 2) := by decide +kernel
theorem dL_change_366 : decode cL_change 366 = .ok (.ishr, 1) := by decide +kernel
theorem dL_change_367 : decode cL_change 367 = .ok (.iconst 4, 1) := by decide +kernel
theorem dL_change_368 : decode cL_change 368 = .ok (.invokestatic 15, 3) := by decide +kernel
theorem dL_change_371 : decode cL_change 371 = .ok (.invokestatic 43, 3) := by decide +kernel
theorem dL_change_374 : decode cL_change 374 = .ok (.ifCond .eq 7, 3) := by decide +kernel
theorem dL_change_377 : decode cL_change 377 = .ok (.iconst 1, 1) := by decide +kernel
theorem dL_change_378 : decode cL_change 378 = .ok (.goto 4, 3) := by decide +kernel
theorem dL_change_381 : decode cL_change 381 = .ok (.iconst 0, 1) := by decide +kernel
theorem dL_change_382 : decode cL_change 382 = .ok (.ireturn, 1) := by decide +kernel
theorem dL_change_383 : decode cL_change 383 = .ok (.iload 4, 2) := by decide +kernel
theorem dL_change_385 : decode cL_change 385 = .ok (.ifCond .eq 24, 3) := by decide +kernel
theorem dL_change_388 : decode cL_change 388 = .ok (.aload_n 0, 1) := by decide +kernel
theorem dL_change_389 : decode cL_change 389 = .ok (.iload_n 2, 1) := by decide +kernel
theorem dL_change_390 : decode cL_change 390 = .ok (.iload 4, 2) := by decide +kernel
theorem dL_change_392 : decode cL_change 392 = .ok (.invokestatic 15, 3) := by decide +kernel
theorem dL_change_395 : decode cL_change 395 = .ok (.iload_n 2, 1) := by decide +kernel
theorem dL_change_396 : decode cL_change 396 = .ok (.iconst 5, 1) := by decide +kernel
theorem dL_change_397 : decode cL_change 397 = .ok (.ishr, 1) := by decide +kernel
theorem dL_change_398 : decode cL_change 398 = .ok (.iload 4, 2) := by decide +kernel
theorem dL_change_400 : decode cL_change 400 = .ok (.invokestatic 15, 3) := by decide +kernel
theorem dL_change_403 : decode cL_change 403 = .ok (.invokestatic 47, 3) := by decide +kernel
theorem dL_change_406 : decode cL_change 406 = .ok (.ifCond .eq 7, 3) := by decide +kernel
theorem dL_change_409 : decode cL_change 409 = .ok (.iconst 1, 1) := by decide +kernel
theorem dL_change_410 : decode cL_change 410 = .ok (.goto 4, 3) := by decide +kernel
theorem dL_change_413 : decode cL_change 413 = .ok (.iconst 0, 1) := by decide +kernel
theorem dL_change_414 : decode cL_change 414 = .ok (.ireturn, 1) := by decide +kernel
theorem dL_change_415 : decode cL_change 415 = .ok (.aload_n 0, 1) := by decide +kernel
theorem dL_change_416 : decode cL_change 416 = .ok (.bipush 9, 2) := by decide +kernel
theorem dL_change_418 : decode cL_change 418 = .ok (.invokevirtual 9, 3) := by decide +kernel
theorem dL_change_421 : decode cL_change 421 = .ok (.istore 5, 2) := by decide +kernel
theorem dL_change_423 : decode cL_change 423 = .ok (.iload_n 3, 1) := by decide +kernel
theorem dL_change_424 : decode cL_change 424 = .ok (.aload_n 0, 1) := by decide +kernel
theorem dL_change_425 : decode cL_change 425 = .ok (.iconst 0, 1) := by decide +kernel
theorem dL_change_426 : decode cL_change 426 = .ok (.invokevirtual 34, 3) := by decide +kernel
theorem dL_change_429 : decode cL_change 429 = .ok (.iadd, 1) := by decide +kernel
theorem dL_change_430 : decode cL_change 430 = .ok (.iconst 1, 1) := by decide +kernel
theorem dL_change_431 : decode cL_change 431 = .ok (.isub, 1) := by decide +kernel
theorem dL_change_432 : decode cL_change 432 = .ok (.aload_n 0, 1) := by decide +kernel
theorem dL_change_433 : decode cL_change 433 = .ok (.iconst 0, 1) := by decide +kernel
theorem dL_change_434 : decode cL_change 434 = .ok (.invokevirtual 34, 3) := by decide +kernel
theorem dL_change_437 : decode cL_change 437 = .ok (.idiv, 1) := by decide +kernel
theorem dL_change_438 : decode cL_change 438 = .ok (.istore 4, 2) := by decide +kernel
theorem dL_change_440 : decode cL_change 440 = .ok (.aload_n 0, 1) := by decide +kernel
theorem dL_change_441 : decode cL_change 441 = .ok (.invokevirtual 50, 3) := by decide +kernel
theorem dL_change_444 : decode cL_change 444 = .ok (.iload 4, 2) := by decide +kernel
theorem dL_change_446 : decode cL_change 446 = .ok (.if_icmp .ne 35, 3) := by decide +kernel
theorem dL_change_449 : decode cL_change 449 = .ok (.aload_n 0, 1) := by decide +kernel
theorem dL_change_450 : decode cL_change 450 = .ok (.bipush 9, 2) := by decide +kernel
theorem dL_change_452 : decode cL_change 452 = .ok (.invokevirtual 9, 3) := by decide +kernel
theorem dL_change_455 : decode cL_change 455 = .ok (.iload 5, 2) := by decide +kernel
theorem dL_change_457 : decode cL_change 457 = .ok (.iconst 1, 1) := by decide +kernel
theorem dL_change_458 : decode cL_change 458 = .ok (.iadd, 1) := by decide +kernel
theorem dL_change_459 : decode cL_change 459 = .ok (.if_icmp .ne 22, 3) := by decide +kernel
theorem dL_change_462 : decode cL_change 462 = .ok (.aload_n 0, 1) := by decide +kernel
theorem dL_change_463 : decode cL_change 463 = .ok (.iconst 3, 1) := by decide +kernel
theorem dL_change_464 : decode cL_change 464 = .ok (.invokevirtual 9, 3) := by decide +kernel
theorem dL_change_467 : decode cL_change 467 = .ok (.ifCond .ne 14, 3) := by decide +kernel
theorem dL_change_470 : decode cL_change 470 = .ok (.aload_n 0, 1) := by decide +kernel
theorem dL_change_471 : decode cL_change 471 = .ok (.invokestatic 54, 3) := by decide +kernel
theorem dL_change_474 : decode cL_change 474 = .ok (.ifCond .eq 7, 3) := by decide +kernel
theorem dL_change_477 : decode cL_change 477 = .ok (.iconst 1, 1) := by decide +kernel
theorem dL_change_478 : decode cL_change 478 = .ok (.goto 4, 3) := by decide +kernel
theorem dL_change_481 : decode cL_change 481 = .ok (.iconst 0, 1) := by decide +kernel
theorem dL_change_482 : decode cL_change 482 = .ok (.ireturn, 1) := by decide +kernel
theorem dL_isSpoiled_0 : decode cL_isSpoiled 0 = .ok (.aload_n 0, 1) := by decide +kernel
theorem dL_isSpoiled_1 : decode cL_isSpoiled 1 = .ok (.iload_n 1, 1) := by decide +kernel
theorem dL_isSpoiled_2 : decode cL_isSpoiled 2 = .ok (.iload_n 2, 1) := by decide +kernel
theorem dL_isSpoiled_3 : decode cL_isSpoiled 3 = .ok (.invokevirtual 58, 3) := by decide +kernel
theorem dL_isSpoiled_6 : decode cL_isSpoiled 6 = .ok (.istore_n 3, 1) := by decide +kernel
theorem dL_isSpoiled_7 : decode cL_isSpoiled 7 = .ok (.aload_n 0, 1) := by decide +kernel
theorem dL_isSpoiled_8 : decode cL_isSpoiled 8 = .ok (.iload_n 1, 1) := by decide +kernel
theorem dL_isSpoiled_9 : decode cL_isSpoiled 9 = .ok (.iconst 3, 1) := by decide +kernel
theorem dL_isSpoiled_10 : decode cL_isSpoiled 10 = .ok (.invokevirtual 24, 3) := by decide +kernel
theorem dL_isSpoiled_13 : decode cL_isSpoiled 13 = .ok (.istore 4, 2) := by decide +kernel
theorem dL_isSpoiled_15 : decode cL_isSpoiled 15 = .ok (.aload_n 0, 1) := by decide +kernel
theorem dL_isSpoiled_16 : decode cL_isSpoiled 16 = .ok (.iconst 0, 1) := by decide +kernel
theorem dL_isSpoiled_17 : decode cL_isSpoiled 17 = .ok (.invokevirtual 9, 3) := by decide +kernel
theorem dL_isSpoiled_20 : decode cL_isSpoiled 20 = .ok (.istore 5, 2) := by decide +kernel
theorem dL_isSpoiled_22 : decode cL_isSpoiled 22 = .ok (.iconst 0, 1) := by decide +kernel
theorem dL_isSpoiled_23 : decode cL_isSpoiled 23 = .ok (.istore 6, 2) := by decide +kernel
theorem dL_isSpoiled_25 : decode cL_isSpoiled 25 = .ok (.bipush 64, 2) := by decide +kernel
theorem dL_isSpoiled_27 : decode cL_isSpoiled 27 = .ok (.newarray .int, 2) := by decide +kernel
theorem dL_isSpoiled_29 : decode cL_isSpoiled 29 = .ok (.astore 7, 2) := by decide +kernel
theorem dL_isSpoiled_31 : decode cL_isSpoiled 31 = .ok (.iconst 0, 1) := by decide +kernel
theorem dL_isSpoiled_32 : decode cL_isSpoiled 32 = .ok (.istore 8, 2) := by decide +kernel
theorem dL_isSpoiled_34 : decode cL_isSpoiled 34 = .ok (.iload 8, 2) := by decide +kernel
theorem dL_isSpoiled_36 : decode cL_isSpoiled 36 = .ok (.iload 5, 2) := by decide +kernel
theorem dL_isSpoiled_38 : decode cL_isSpoiled 38 = .ok (.if_icmp .ge 21, 3) := by decide +kernel
theorem dL_isSpoiled_41 : decode cL_isSpoiled 41 = .ok (.aload 7, 2) := by decide +kernel
theorem dL_isSpoiled_43 : decode cL_isSpoiled 43 = .ok (.iload 8, 2) := by decide +kernel
theorem dL_isSpoiled_45 : decode cL_isSpoiled 45 = .ok (.aload_n 0, 1) := by decide +kernel
theorem dL_isSpoiled_46 : decode cL_isSpoiled 46 = .ok (.iload 8, 2) := by decide +kernel
theorem dL_isSpoiled_48 : decode cL_isSpoiled 48 = .ok (.iconst 1, 1) := by decide +kernel
theorem dL_isSpoiled_49 : decode cL_isSpoiled 49 = .ok (.invokevirtual 24, 3) := by decide +kernel
theorem dL_isSpoiled_52 : decode cL_isSpoiled 52 = .ok (.iastore, 1) := by decide +kernel
theorem dL_isSpoiled_53 : decode cL_isSpoiled 53 = .ok (.iinc 8 1, 3) := by decide +kernel
theorem dL_isSpoiled_56 : decode cL_isSpoiled 56 = .ok (.goto (-22), 3) := by decide +kernel
theorem dL_isSpoiled_59 : decode cL_isSpoiled 59 = .ok (.aload_n 0, 1) := by decide +kernel
theorem dL_isSpoiled_60 : decode cL_isSpoiled 60 = .ok (.iload_n 1, 1) := by decide +kernel
theorem dL_isSpoiled_61 : decode cL_isSpoiled 61 = .ok (.iload_n 2, 1) := by decide +kernel
theorem dL_isSpoiled_62 : decode cL_isSpoiled 62 = .ok (.invokevirtual 61, 3) := by decide +kernel
theorem dL_isSpoiled_65 : decode cL_isSpoiled 65 = .ok (.iload 4, 2) := by decide +kernel
theorem dL_isSpoiled_67 : decode cL_isSpoiled 67 = .ok (.iconst 1, 1) := by decide +kernel
theorem dL_isSpoiled_68 : decode cL_isSpoiled 68 = .ok (.iload_n 2, 1) := by decide +kernel
theorem dL_isSpoiled_69 : decode cL_isSpoiled 69 = .ok (.ishl, 1) := by decide +kernel
theorem dL_isSpoiled_70 : decode cL_isSpoiled 70 = .ok (.ixor, 1) := by decide +kernel
theorem dL_isSpoiled_71 : decode cL_isSpoiled 71 = .ok (.if_icmp .ne 17, 3) := by decide +kernel
theorem dL_isSpoiled_74 : decode cL_isSpoiled 74 = .ok (.aload_n 0, 1) := by decide +kernel
theorem dL_isSpoiled_75 : decode cL_isSpoiled 75 = .ok (.iload_n 1, 1) := by decide +kernel
theorem dL_isSpoiled_76 : decode cL_isSpoiled 76 = .ok (.iload_n 2, 1) := by decide +kernel
theorem dL_isSpoiled_77 : decode cL_isSpoiled 77 = .ok (.invokevirtual 58, 3) := by decide +kernel
theorem dL_isSpoiled_80 : decode cL_isSpoiled 80 = .ok (.iload_n 3, 1) := by decide +kernel
theorem dL_isSpoiled_81 : decode cL_isSpoiled 81 = .ok (.if_icmp .ne 7, 3) := by decide +kernel
theorem dL_isSpoiled_84 : decode cL_isSpoiled 84 = .ok (.iconst 1, 1) := by decide +kernel
theorem dL_isSpoiled_85 : decode cL_isSpoiled 85 = .ok (.goto 4, 3) := by decide +kernel
theorem dL_isSpoiled_88 : decode cL_isSpoiled 88 = .ok (.iconst 0, 1) := by decide +kernel
theorem dL_isSpoiled_89 : decode cL_isSpoiled 89 = .ok (.istore 8, 2) := by decide +kernel
theorem dL_isSpoiled_91 : decode cL_isSpoiled 91 = .ok (.iconst 0, 1) := by decide +kernel
theorem dL_isSpoiled_92 : decode cL_isSpoiled 92 = .ok (.istore 9, 2) := by decide +kernel
theorem dL_isSpoiled_94 : decode cL_isSpoiled 94 = .ok (.iload 9, 2) := by decide +kernel
theorem dL_isSpoiled_96 : decode cL_isSpoiled 96 = .ok (.iload 5, 2) := by decide +kernel
theorem dL_isSpoiled_98 : decode cL_isSpoiled 98 = .ok (.if_icmp .ge 34, 3) := by decide +kernel
theorem dL_isSpoiled_101 : decode cL_isSpoiled 101 = .ok (.iload 6, 2) := by decide +kernel
theorem dL_isSpoiled_103 : decode cL_isSpoiled 103 = .ok (.aload_n 0, 1) := by decide +kernel
theorem dL_isSpoiled_104 : decode cL_isSpoiled 104 = .ok (.iload 9, 2) := by decide +kernel
theorem dL_isSpoiled_106 : decode cL_isSpoiled 106 = .ok (.iconst 1, 1) := by decide +kernel
theorem dL_isSpoiled_107 : decode cL_isSpoiled 107 = .ok (.invokevirtual 24, 3) := by decide +kernel
theorem dL_isSpoiled_110 : decode cL_isSpoiled 110 = .ok (.aload 7, 2) := by decide +kernel
theorem dL_isSpoiled_112 : decode cL_isSpoiled 112 = .ok (.iload 9, 2) := by decide +kernel
theorem dL_isSpoiled_114 : decode cL_isSpoiled 114 = .ok (.iaload, 1) := by decide +kernel
theorem dL_isSpoiled_115 : decode cL_isSpoiled 115 = .ok (.if_icmp .ne 7, 3) := by decide +kernel
theorem dL_isSpoiled_118 : decode cL_isSpoiled 118 = .ok (.iconst 1, 1) := by decide +kernel
theorem dL_isSpoiled_119 : decode cL_isSpoiled 119 = .ok (.goto 4, 3) := by decide +kernel
theorem dL_isSpoiled_122 : decode cL_isSpoiled 122 = .ok (.iconst 0, 1) := by decide +kernel
theorem dL_isSpoiled_123 : decode cL_isSpoiled 123 = .ok (.iadd, 1) := by decide +kernel
theorem dL_isSpoiled_124 : decode cL_isSpoiled 124 = .ok (.istore 6, 2) := by decide +kernel
theorem dL_isSpoiled_126 : decode cL_isSpoiled 126 = .ok (.iinc 9 1, 3) := by decide +kernel
theorem dL_isSpoiled_129 : decode cL_isSpoiled 129 = .ok (.goto (-35), 3) := by decide +kernel
theorem dL_isSpoiled_132 : decode cL_isSpoiled 132 = .ok (.iload 8, 2) := by decide +kernel
theorem dL_isSpoiled_134 : decode cL_isSpoiled 134 = .ok (.ifCond .eq 27, 3) := by decide +kernel
theorem dL_isSpoiled_137 : decode cL_isSpoiled 137 = .ok (.iload 6, 2) := by decide +kernel
theorem dL_isSpoiled_139 : decode cL_isSpoiled 139 = .ok (.iload 5, 2) := by decide +kernel
theorem dL_isSpoiled_141 : decode cL_isSpoiled 141 = .ok (.iload_n 3, 1) := by decide +kernel
theorem dL_isSpoiled_142 : decode cL_isSpoiled 142 = .ok (.isub, 1) := by decide +kernel
theorem dL_isSpoiled_143 : decode cL_isSpoiled 143 = .ok (.if_icmp .ne 18, 3) := by decide +kernel
theorem dL_isSpoiled_146 : decode cL_isSpoiled 146 = .ok (.aload_n 0, 1) := by decide +kernel
theorem dL_isSpoiled_147 : decode cL_isSpoiled 147 = .ok (.iload_n 1, 1) := by decide +kernel
theorem dL_isSpoiled_148 : decode cL_isSpoiled 148 = .ok (.iload_n 2, 1) := by decide +kernel
theorem dL_isSpoiled_149 : decode cL_isSpoiled 149 = .ok (.invokevirtual 61, 3) := by decide +kernel
theorem dL_isSpoiled_152 : decode cL_isSpoiled 152 = .ok (.iload 4, 2) := by decide +kernel
theorem dL_isSpoiled_154 : decode cL_isSpoiled 154 = .ok (.if_icmp .ne 7, 3) := by decide +kernel
theorem dL_isSpoiled_157 : decode cL_isSpoiled 157 = .ok (.iconst 1, 1) := by decide +kernel
theorem dL_isSpoiled_158 : decode cL_isSpoiled 158 = .ok (.goto 4, 3) := by decide +kernel
theorem dL_isSpoiled_161 : decode cL_isSpoiled 161 = .ok (.iconst 0, 1) := by decide +kernel
theorem dL_isSpoiled_162 : decode cL_isSpoiled 162 = .ok (.istore 8, 2) := by decide +kernel
theorem dL_isSpoiled_164 : decode cL_isSpoiled 164 = .ok (.iconst 0, 1) := by decide +kernel
theorem dL_isSpoiled_165 : decode cL_isSpoiled 165 = .ok (.istore 9, 2) := by decide +kernel
theorem dL_isSpoiled_167 : decode cL_isSpoiled 167 = .ok (.iload 9, 2) := by decide +kernel
theorem dL_isSpoiled_169 : decode cL_isSpoiled 169 = .ok (.iload 5, 2) := by decide +kernel
theorem dL_isSpoiled_171 : decode cL_isSpoiled 171 = .ok (.if_icmp .ge 36, 3) := by decide +kernel
theorem dL_isSpoiled_174 : decode cL_isSpoiled 174 = .ok (.iload 8, 2) := by decide +kernel
theorem dL_isSpoiled_176 : decode cL_isSpoiled 176 = .ok (.ifCond .eq 31, 3) := by decide +kernel
theorem dL_isSpoiled_179 : decode cL_isSpoiled 179 = .ok (.aload_n 0, 1) := by decide +kernel
theorem dL_isSpoiled_180 : decode cL_isSpoiled 180 = .ok (.iload 9, 2) := by decide +kernel
theorem dL_isSpoiled_182 : decode cL_isSpoiled 182 = .ok (.iconst 1, 1) := by decide +kernel
theorem dL_isSpoiled_183 : decode cL_isSpoiled 183 = .ok (.invokevirtual 24, 3) := by decide +kernel
theorem dL_isSpoiled_186 : decode cL_isSpoiled 186 = .ok (.aload 7, 2) := by decide +kernel
theorem dL_isSpoiled_188 : decode cL_isSpoiled 188 = .ok (.iload 9, 2) := by decide +kernel
theorem dL_isSpoiled_190 : decode cL_isSpoiled 190 = .ok (.iaload, 1) := by decide +kernel
theorem dL_isSpoiled_191 : decode cL_isSpoiled 191 = .ok (.if_icmp .ne 7, 3) := by decide +kernel
theorem dL_isSpoiled_194 : decode cL_isSpoiled 194 = .ok (.iconst 1, 1) := by decide +kernel
theorem dL_isSpoiled_195 : decode cL_isSpoiled 195 = .ok (.goto 4, 3) := by decide +kernel
theorem dL_isSpoiled_198 : decode cL_isSpoiled 198 = .ok (.iconst 0, 1) := by decide +kernel
theorem dL_isSpoiled_199 : decode cL_isSpoiled 199 = .ok (.istore 8, 2) := by decide +kernel
theorem dL_isSpoiled_201 : decode cL_isSpoiled 201 = .ok (.iinc 9 1, 3) := by decide +kernel
theorem dL_isSpoiled_204 : decode cL_isSpoiled 204 = .ok (.goto (-37), 3) := by decide +kernel
theorem dL_isSpoiled_207 : decode cL_isSpoiled 207 = .ok (.iload 8, 2) := by decide +kernel
theorem dL_isSpoiled_209 : decode cL_isSpoiled 209 = .ok (.ifCond .eq 23, 3) := by decide +kernel
theorem dL_isSpoiled_212 : decode cL_isSpoiled 212 = .ok (.iload 4, 2) := by decide +kernel
theorem dL_isSpoiled_214 : decode cL_isSpoiled 214 = .ok (.iconst 1, 1) := by decide +kernel
theorem dL_isSpoiled_215 : decode cL_isSpoiled 215 = .ok (.iand, 1) := by decide +kernel
theorem dL_isSpoiled_216 : decode cL_isSpoiled 216 = .ok (.ifCond .eq 12, 3) := by decide +kernel
theorem dL_isSpoiled_219 : decode cL_isSpoiled 219 = .ok (.aload_n 0, 1) := by decide +kernel
theorem dL_isSpoiled_220 : decode cL_isSpoiled 220 = .ok (.iload_n 1, 1) := by decide +kernel
theorem dL_isSpoiled_221 : decode cL_isSpoiled 221 = .ok (.iload_n 2, 1) := by decide +kernel
theorem dL_isSpoiled_222 : decode cL_isSpoiled 222 = .ok (.invokevirtual 61, 3) := by decide +kernel
theorem dL_isSpoiled_225 : decode cL_isSpoiled 225 = .ok (.ifCond .lt 7, 3) := by decide +kernel
theorem dL_isSpoiled_228 : decode cL_isSpoiled 228 = .ok (.iconst 1, 1) := by decide +kernel
theorem dL_isSpoiled_229 : decode cL_isSpoiled 229 = .ok (.goto 4, 3) := by decide +kernel
theorem dL_isSpoiled_232 : decode cL_isSpoiled 232 = .ok (.iconst 0, 1) := by decide +kernel
theorem dL_isSpoiled_233 : decode cL_isSpoiled 233 = .ok (.ireturn, 1) := by decide +kernel
theorem dL_loads_0 : decode cL_loads 0 = .ok (.aload_n 0, 1) := by decide +kernel
theorem dL_loads_1 : decode cL_loads 1 = .ok (.iconst 0, 1) := by decide +kernel
theorem dL_loads_2 : decode cL_loads 2 = .ok (.invokevirtual 34, 3) := by decide +kernel
theorem dL_loads_5 : decode cL_loads 5 = .ok (.istore_n 3, 1) := by decide +kernel
theorem dL_loads_6 : decode cL_loads 6 = .ok (.aload_n 0, 1) := by decide +kernel
theorem dL_loads_7 : decode cL_loads 7 = .ok (.iload_n 1, 1) := by decide +kernel
theorem dL_loads_8 : decode cL_loads 8 = .ok (.iconst 3, 1) := by decide +kernel
theorem dL_loads_9 : decode cL_loads 9 = .ok (.invokevirtual 64, 3) := by decide +kernel
theorem dL_loads_12 : decode cL_loads 12 = .ok (.iconst 1, 1) := by decide +kernel
theorem dL_loads_13 : decode cL_loads 13 = .ok (.if_icmp .ne 7, 3) := by decide +kernel
theorem dL_loads_16 : decode cL_loads 16 = .ok (.iconst 1, 1) := by decide +kernel
theorem dL_loads_17 : decode cL_loads 17 = .ok (.goto 4, 3) := by decide +kernel
theorem dL_loads_20 : decode cL_loads 20 = .ok (.iconst 0, 1) := by decide +kernel
theorem dL_loads_21 : decode cL_loads 21 = .ok (.istore 4, 2) := by decide +kernel
theorem dL_loads_23 : decode cL_loads 23 = .ok (.aload_n 0, 1) := by decide +kernel
theorem dL_loads_24 : decode cL_loads 24 = .ok (.iload_n 1, 1) := by decide +kernel
theorem dL_loads_25 : decode cL_loads 25 = .ok (.invokevirtual 67, 3) := by decide +kernel
theorem dL_loads_28 : decode cL_loads 28 = .ok (.istore 5, 2) := by decide +kernel
theorem dL_loads_30 : decode cL_loads 30 = .ok (.aload_n 0, 1) := by decide +kernel
theorem dL_loads_31 : decode cL_loads 31 = .ok (.invokevirtual 70, 3) := by decide +kernel
theorem dL_loads_34 : decode cL_loads 34 = .ok (.iload 5, 2) := by decide +kernel
theorem dL_loads_36 : decode cL_loads 36 = .ok (.if_icmp .ne 31, 3) := by decide +kernel
theorem dL_loads_39 : decode cL_loads 39 = .ok (.aload_n 0, 1) := by decide +kernel
theorem dL_loads_40 : decode cL_loads 40 = .ok (.iload_n 1, 1) := by decide +kernel
theorem dL_loads_41 : decode cL_loads 41 = .ok (.invokevirtual 73, 3) := by decide +kernel
theorem dL_loads_44 : decode cL_loads 44 = .ok (.ifCond .lt 23, 3) := by decide +kernel
theorem dL_loads_47 : decode cL_loads 47 = .ok (.aload_n 0, 1) := by decide +kernel
theorem dL_loads_48 : decode cL_loads 48 = .ok (.iload_n 1, 1) := by decide +kernel
theorem dL_loads_49 : decode cL_loads 49 = .ok (.iconst 3, 1) := by decide +kernel
theorem dL_loads_50 : decode cL_loads 50 = .ok (.invokevirtual 64, 3) := by decide +kernel
theorem dL_loads_53 : decode cL_loads 53 = .ok (.ifCond .ne 14, 3) := by decide +kernel
theorem dL_loads_56 : decode cL_loads 56 = .ok (.aload_n 0, 1) := by decide +kernel
theorem dL_loads_57 : decode cL_loads 57 = .ok (.invokevirtual 76, 3) := by decide +kernel
theorem dL_loads_60 : decode cL_loads 60 = .ok (.ifCond .ne 7, 3) := by decide +kernel
theorem dL_loads_63 : decode cL_loads 63 = .ok (.iconst 1, 1) := by decide +kernel
theorem dL_loads_64 : decode cL_loads 64 = .ok (.goto 4, 3) := by decide +kernel
theorem dL_loads_67 : decode cL_loads 67 = .ok (.iconst 0, 1) := by decide +kernel
theorem dL_loads_68 : decode cL_loads 68 = .ok (.istore 6, 2) := by decide +kernel
theorem dL_loads_70 : decode cL_loads 70 = .ok (.iload 6, 2) := by decide +kernel
theorem dL_loads_72 : decode cL_loads 72 = .ok (.ifCond .eq 26, 3) := by decide +kernel
theorem dL_loads_75 : decode cL_loads 75 = .ok (.aload_n 0, 1) := by decide +kernel
theorem dL_loads_76 : decode cL_loads 76 = .ok (.iload_n 1, 1) := by decide +kernel
theorem dL_loads_77 : decode cL_loads 77 = .ok (.invokevirtual 67, 3) := by decide +kernel
theorem dL_loads_80 : decode cL_loads 80 = .ok (.iload 5, 2) := by decide +kernel
theorem dL_loads_82 : decode cL_loads 82 = .ok (.if_icmp .ne 16, 3) := by decide +kernel
theorem dL_loads_85 : decode cL_loads 85 = .ok (.aload_n 0, 1) := by decide +kernel
theorem dL_loads_86 : decode cL_loads 86 = .ok (.invokevirtual 76, 3) := by decide +kernel
theorem dL_loads_89 : decode cL_loads 89 = .ok (.iload 5, 2) := by decide +kernel
theorem dL_loads_91 : decode cL_loads 91 = .ok (.if_icmp .ne 7, 3) := by decide +kernel
theorem dL_loads_94 : decode cL_loads 94 = .ok (.iconst 1, 1) := by decide +kernel
theorem dL_loads_95 : decode cL_loads 95 = .ok (.goto 4, 3) := by decide +kernel
theorem dL_loads_98 : decode cL_loads 98 = .ok (.iconst 0, 1) := by decide +kernel
theorem dL_loads_99 : decode cL_loads 99 = .ok (.istore 6, 2) := by decide +kernel
theorem dL_loads_101 : decode cL_loads 101 = .ok (.iload 4, 2) := by decide +kernel
theorem dL_loads_103 : decode cL_loads 103 = .ok (.ifCond .ne 33, 3) := by decide +kernel
theorem dL_loads_106 : decode cL_loads 106 = .ok (.iload 6, 2) := by decide +kernel
theorem dL_loads_108 : decode cL_loads 108 = .ok (.ifCond .eq 25, 3) := by decide +kernel
theorem dL_loads_111 : decode cL_loads 111 = .ok (.aload_n 0, 1) := by decide +kernel
theorem dL_loads_112 : decode cL_loads 112 = .ok (.iload_n 1, 1) := by decide +kernel
theorem dL_loads_113 : decode cL_loads 113 = .ok (.invokevirtual 67, 3) := by decide +kernel
theorem dL_loads_116 : decode cL_loads 116 = .ok (.iload 5, 2) := by decide +kernel
theorem dL_loads_118 : decode cL_loads 118 = .ok (.if_icmp .ne 15, 3) := by decide +kernel
theorem dL_loads_121 : decode cL_loads 121 = .ok (.aload_n 0, 1) := by decide +kernel
theorem dL_loads_122 : decode cL_loads 122 = .ok (.iload_n 1, 1) := by decide +kernel
theorem dL_loads_123 : decode cL_loads 123 = .ok (.invokevirtual 73, 3) := by decide +kernel
theorem dL_loads_126 : decode cL_loads 126 = .ok (.ifCond .ne 7, 3) := by decide +kernel
theorem dL_loads_129 : decode cL_loads 129 = .ok (.iconst 1, 1) := by decide +kernel
theorem dL_loads_130 : decode cL_loads 130 = .ok (.goto 4, 3) := by decide +kernel
theorem dL_loads_133 : decode cL_loads 133 = .ok (.iconst 0, 1) := by decide +kernel
theorem dL_loads_134 : decode cL_loads 134 = .ok (.istore 6, 2) := by decide +kernel
theorem dL_loads_136 : decode cL_loads 136 = .ok (.iload 6, 2) := by decide +kernel
theorem dL_loads_138 : decode cL_loads 138 = .ok (.ifCond .eq 100, 3) := by decide +kernel
theorem dL_loads_141 : decode cL_loads 141 = .ok (.aload_n 0, 1) := by decide +kernel
theorem dL_loads_142 : decode cL_loads 142 = .ok (.iload_n 2, 1) := by decide +kernel
theorem dL_loads_143 : decode cL_loads 143 = .ok (.iconst 0, 1) := by decide +kernel
theorem dL_loads_144 : decode cL_loads 144 = .ok (.invokevirtual 64, 3) := by decide +kernel
theorem dL_loads_147 : decode cL_loads 147 = .ok (.aload_n 0, 1) := by decide +kernel
theorem dL_loads_148 : decode cL_loads 148 = .ok (.iload_n 1, 1) := by decide +kernel
theorem dL_loads_149 : decode cL_loads 149 = .ok (.iconst 0, 1) := by decide +kernel
theorem dL_loads_150 : decode cL_loads 150 = .ok (.invokevirtual 64, 3) := by decide +kernel
theorem dL_loads_153 : decode cL_loads 153 = .ok (.if_icmp .ne 85, 3) := by decide +kernel
theorem dL_loads_156 : decode cL_loads 156 = .ok (.aload_n 0, 1) := by decide +kernel
theorem dL_loads_157 : decode cL_loads 157 = .ok (.iload_n 1, 1) := by decide +kernel
theorem dL_loads_158 : decode cL_loads 158 = .ok (.invokevirtual 67, 3) := by decide +kernel
theorem dL_loads_161 : decode cL_loads 161 = .ok (.iload 5, 2) := by decide +kernel
theorem dL_loads_163 : decode cL_loads 163 = .ok (.if_icmp .ne 15, 3) := by decide +kernel
theorem dL_loads_166 : decode cL_loads 166 = .ok (.aload_n 0, 1) := by decide +kernel
theorem dL_loads_167 : decode cL_loads 167 = .ok (.iload_n 2, 1) := by decide +kernel
theorem dL_loads_168 : decode cL_loads 168 = .ok (.invokevirtual 73, 3) := by decide +kernel
theorem dL_loads_171 : decode cL_loads 171 = .ok (.ifCond .lt 7, 3) := by decide +kernel
theorem dL_loads_174 : decode cL_loads 174 = .ok (.iconst 1, 1) := by decide +kernel
theorem dL_loads_175 : decode cL_loads 175 = .ok (.goto 4, 3) := by decide +kernel
theorem dL_loads_178 : decode cL_loads 178 = .ok (.iconst 0, 1) := by decide +kernel
theorem dL_loads_179 : decode cL_loads 179 = .ok (.istore 6, 2) := by decide +kernel
theorem dL_loads_181 : decode cL_loads 181 = .ok (.iconst 0, 1) := by decide +kernel
theorem dL_loads_182 : decode cL_loads 182 = .ok (.istore 7, 2) := by decide +kernel
theorem dL_loads_184 : decode cL_loads 184 = .ok (.iload 7, 2) := by decide +kernel
theorem dL_loads_186 : decode cL_loads 186 = .ok (.aload_n 0, 1) := by decide +kernel
theorem dL_loads_187 : decode cL_loads 187 = .ok (.iload_n 1, 1) := by decide +kernel
theorem dL_loads_188 : decode cL_loads 188 = .ok (.iconst 0, 1) := by decide +kernel
theorem dL_loads_189 : decode cL_loads 189 = .ok (.invokevirtual 64, 3) := by decide +kernel
theorem dL_loads_192 : decode cL_loads 192 = .ok (.if_icmp .ge 46, 3) := by decide +kernel
theorem dL_loads_195 : decode cL_loads 195 = .ok (.iload 6, 2) := by decide +kernel
theorem dL_loads_197 : decode cL_loads 197 = .ok (.ifCond .eq 41, 3) := by decide +kernel
theorem dL_loads_200 : decode cL_loads 200 = .ok (.aload_n 0, 1) := by decide +kernel
theorem dL_loads_201 : decode cL_loads 201 = .ok (.iload_n 3, 1) := by decide +kernel
theorem dL_loads_202 : decode cL_loads 202 = .ok (.iload_n 1, 1) := by decide +kernel
theorem dL_loads_203 : decode cL_loads 203 = .ok (.imul, 1) := by decide +kernel
theorem dL_loads_204 : decode cL_loads 204 = .ok (.iload 7, 2) := by decide +kernel
theorem dL_loads_206 : decode cL_loads 206 = .ok (.iadd, 1) := by decide +kernel
theorem dL_loads_207 : decode cL_loads 207 = .ok (.iconst 1, 1) := by decide +kernel
theorem dL_loads_208 : decode cL_loads 208 = .ok (.invokevirtual 24, 3) := by decide +kernel
theorem dL_loads_211 : decode cL_loads 211 = .ok (.aload_n 0, 1) := by decide +kernel
theorem dL_loads_212 : decode cL_loads 212 = .ok (.iload_n 3, 1) := by decide +kernel
theorem dL_loads_213 : decode cL_loads 213 = .ok (.iload_n 2, 1) := by decide +kernel
theorem dL_loads_214 : decode cL_loads 214 = .ok (.imul, 1) := by decide +kernel
theorem dL_loads_215 : decode cL_loads 215 = .ok (.iload 7, 2) := by decide +kernel
theorem dL_loads_217 : decode cL_loads 217 = .ok (.iadd, 1) := by decide +kernel
theorem dL_loads_218 : decode cL_loads 218 = .ok (.iconst 1, 1) := by decide +kernel
theorem dL_loads_219 : decode cL_loads 219 = .ok (.invokevirtual 24, 3) := by decide +kernel
theorem dL_loads_222 : decode cL_loads 222 = .ok (.if_icmp .ne 7, 3) := by decide +kernel
theorem dL_loads_225 : decode cL_loads 225 = .ok (.iconst 1, 1) := by decide +kernel
theorem dL_loads_226 : decode cL_loads 226 = .ok (.goto 4, 3) := by decide +kernel
theorem dL_loads_229 : decode cL_loads 229 = .ok (.iconst 0, 1) := by decide +kernel
theorem dL_loads_230 : decode cL_loads 230 = .ok (.istore 6, 2) := by decide +kernel
theorem dL_loads_232 : decode cL_loads 232 = .ok (.iinc 7 1, 3) := by decide +kernel
theorem dL_loads_235 : decode cL_loads 235 = .ok (.goto (-51), 3) := by decide +kernel
theorem dL_loads_238 : decode cL_loads 238 = .ok (.iload 6, 2) := by decide +kernel
theorem dL_loads_240 : decode cL_loads 240 = .ok (.ireturn, 1) := by decide +kernel
theorem dL_isAsGuessed_0 : decode cL_isAsGuessed 0 = .ok (.iconst 1, 1) := by decide +kernel
theorem dL_isAsGuessed_1 : decode cL_isAsGuessed 1 = .ok (.istore_n 1, 1) := by decide +kernel
theorem dL_isAsGuessed_2 : decode cL_isAsGuessed 2 = .ok (.iconst 0, 1) := by decide +kernel
theorem dL_isAsGuessed_3 : decode cL_isAsGuessed 3 = .ok (.istore_n 2, 1) := by decide +kernel
theorem dL_isAsGuessed_4 : decode cL_isAsGuessed 4 = .ok (.iload_n 2, 1) := by decide +kernel
theorem dL_isAsGuessed_5 : decode cL_isAsGuessed 5 = .ok (.aload_n 0, 1) := by decide +kernel
theorem dL_isAsGuessed_6 : decode cL_isAsGuessed 6 = .ok (.iconst 0, 1) := by decide +kernel
theorem dL_isAsGuessed_7 : decode cL_isAsGuessed 7 = .ok (.invokevirtual 9, 3) := by decide +kernel
theorem dL_isAsGuessed_10 : decode cL_isAsGuessed 10 = .ok (.if_icmp .ge 34, 3) := by decide +kernel
theorem dL_isAsGuessed_13 : decode cL_isAsGuessed 13 = .ok (.iload_n 1, 1) := by decide +kernel
theorem dL_isAsGuessed_14 : decode cL_isAsGuessed 14 = .ok (.ifCond .eq 30, 3) := by decide +kernel
theorem dL_isAsGuessed_17 : decode cL_isAsGuessed 17 = .ok (.aload_n 0, 1) := by decide +kernel
theorem dL_isAsGuessed_18 : decode cL_isAsGuessed 18 = .ok (.iload_n 2, 1) := by decide +kernel
theorem dL_isAsGuessed_19 : decode cL_isAsGuessed 19 = .ok (.iconst 1, 1) := by decide +kernel
theorem dL_isAsGuessed_20 : decode cL_isAsGuessed 20 = .ok (.invokevirtual 24, 3) := by decide +kernel
theorem dL_isAsGuessed_23 : decode cL_isAsGuessed 23 = .ok (.aload_n 0, 1) := by decide +kernel
theorem dL_isAsGuessed_24 : decode cL_isAsGuessed 24 = .ok (.iload_n 2, 1) := by decide +kernel
theorem dL_isAsGuessed_25 : decode cL_isAsGuessed 25 = .ok (.iconst 2, 1) := by decide +kernel
theorem dL_isAsGuessed_26 : decode cL_isAsGuessed 26 = .ok (.invokevirtual 24, 3) := by decide +kernel
theorem dL_isAsGuessed_29 : decode cL_isAsGuessed 29 = .ok (.if_icmp .ne 7, 3) := by decide +kernel
theorem dL_isAsGuessed_32 : decode cL_isAsGuessed 32 = .ok (.iconst 1, 1) := by decide +kernel
theorem dL_isAsGuessed_33 : decode cL_isAsGuessed 33 = .ok (.goto 4, 3) := by decide +kernel
theorem dL_isAsGuessed_36 : decode cL_isAsGuessed 36 = .ok (.iconst 0, 1) := by decide +kernel
theorem dL_isAsGuessed_37 : decode cL_isAsGuessed 37 = .ok (.istore_n 1, 1) := by decide +kernel
theorem dL_isAsGuessed_38 : decode cL_isAsGuessed 38 = .ok (.iinc 2 1, 3) := by decide +kernel
theorem dL_isAsGuessed_41 : decode cL_isAsGuessed 41 = .ok (.goto (-37), 3) := by decide +kernel
theorem dL_isAsGuessed_44 : decode cL_isAsGuessed 44 = .ok (.iconst 0, 1) := by decide +kernel
theorem dL_isAsGuessed_45 : decode cL_isAsGuessed 45 = .ok (.istore_n 2, 1) := by decide +kernel
theorem dL_isAsGuessed_46 : decode cL_isAsGuessed 46 = .ok (.iload_n 2, 1) := by decide +kernel
theorem dL_isAsGuessed_47 : decode cL_isAsGuessed 47 = .ok (.aload_n 0, 1) := by decide +kernel
theorem dL_isAsGuessed_48 : decode cL_isAsGuessed 48 = .ok (.iconst 2, 1) := by decide +kernel
theorem dL_isAsGuessed_49 : decode cL_isAsGuessed 49 = .ok (.invokevirtual 9, 3) := by decide +kernel
theorem dL_isAsGuessed_52 : decode cL_isAsGuessed 52 = .ok (.if_icmp .ge 171, 3) := by decide +kernel
theorem dL_isAsGuessed_55 : decode cL_isAsGuessed 55 = .ok (.iload_n 1, 1) := by decide +kernel
theorem dL_isAsGuessed_56 : decode cL_isAsGuessed 56 = .ok (.ifCond .eq 167, 3) := by decide +kernel
theorem dL_isAsGuessed_59 : decode cL_isAsGuessed 59 = .ok (.iload_n 2, 1) := by decide +kernel
theorem dL_isAsGuessed_60 : decode cL_isAsGuessed 60 = .ok (.aload_n 0, 1) := by decide +kernel
theorem dL_isAsGuessed_61 : decode cL_isAsGuessed 61 = .ok (.iconst 0, 1) := by decide +kernel
theorem dL_isAsGuessed_62 : decode cL_isAsGuessed 62 = .ok (.invokevirtual 34, 3) := by decide +kernel
theorem dL_isAsGuessed_65 : decode cL_isAsGuessed 65 = .ok (.imul, 1) := by decide +kernel
theorem dL_isAsGuessed_66 : decode cL_isAsGuessed 66 = .ok (.istore_n 3, 1) := by decide +kernel
theorem dL_isAsGuessed_67 : decode cL_isAsGuessed 67 = .ok (.aload_n 0, 1) := by decide +kernel
theorem dL_isAsGuessed_68 : decode cL_isAsGuessed 68 = .ok (.iload_n 2, 1) := by decide +kernel
theorem dL_isAsGuessed_69 : decode cL_isAsGuessed 69 = .ok (.iconst 0, 1) := by decide +kernel
theorem dL_isAsGuessed_70 : decode cL_isAsGuessed 70 = .ok (.invokevirtual 64, 3) := by decide +kernel
theorem dL_isAsGuessed_73 : decode cL_isAsGuessed 73 = .ok (.istore 4, 2) := by decide +kernel
theorem dL_isAsGuessed_75 : decode cL_isAsGuessed 75 = .ok (.aload_n 0, 1) := by decide +kernel
theorem dL_isAsGuessed_76 : decode cL_isAsGuessed 76 = .ok (.iload_n 2, 1) := by decide +kernel
theorem dL_isAsGuessed_77 : decode cL_isAsGuessed 77 = .ok (.iconst 2, 1) := by decide +kernel
theorem dL_isAsGuessed_78 : decode cL_isAsGuessed 78 = .ok (.invokevirtual 64, 3) := by decide +kernel
theorem dL_isAsGuessed_81 : decode cL_isAsGuessed 81 = .ok (.istore 5, 2) := by decide +kernel
theorem dL_isAsGuessed_83 : decode cL_isAsGuessed 83 = .ok (.aload_n 0, 1) := by decide +kernel
theorem dL_isAsGuessed_84 : decode cL_isAsGuessed 84 = .ok (.iload_n 3, 1) := by decide +kernel
theorem dL_isAsGuessed_85 : decode cL_isAsGuessed 85 = .ok (.iload 4, 2) := by decide +kernel
theorem dL_isAsGuessed_87 : decode cL_isAsGuessed 87 = .ok (.iload 5, 2) := by decide +kernel
theorem dL_isAsGuessed_89 : decode cL_isAsGuessed 89 = .ok (.invokevirtual 79, 3) := by decide +kernel
theorem dL_isAsGuessed_92 : decode cL_isAsGuessed 92 = .ok (.aload_n 0, 1) := by decide +kernel
theorem dL_isAsGuessed_93 : decode cL_isAsGuessed 93 = .ok (.iload_n 2, 1) := by decide +kernel
theorem dL_isAsGuessed_94 : decode cL_isAsGuessed 94 = .ok (.iconst 4, 1) := by decide +kernel
theorem dL_isAsGuessed_95 : decode cL_isAsGuessed 95 = .ok (.invokevirtual 64, 3) := by decide +kernel
theorem dL_isAsGuessed_98 : decode cL_isAsGuessed 98 = .ok (.if_icmp .ne 22, 3) := by decide +kernel
theorem dL_isAsGuessed_101 : decode cL_isAsGuessed 101 = .ok (.aload_n 0, 1) := by decide +kernel
theorem dL_isAsGuessed_102 : decode cL_isAsGuessed 102 = .ok (.iload_n 2, 1) := by decide +kernel
theorem dL_isAsGuessed_103 : decode cL_isAsGuessed 103 = .ok (.iconst 1, 1) := by decide +kernel
theorem dL_isAsGuessed_104 : decode cL_isAsGuessed 104 = .ok (.invokevirtual 64, 3) := by decide +kernel
theorem dL_isAsGuessed_107 : decode cL_isAsGuessed 107 = .ok (.aload_n 0, 1) := by decide +kernel
theorem dL_isAsGuessed_108 : decode cL_isAsGuessed 108 = .ok (.iload_n 3, 1) := by decide +kernel
theorem dL_isAsGuessed_109 : decode cL_isAsGuessed 109 = .ok (.iconst 0, 1) := by decide +kernel
theorem dL_isAsGuessed_110 : decode cL_isAsGuessed 110 = .ok (.invokevirtual 24, 3) := by decide +kernel
theorem dL_isAsGuessed_113 : decode cL_isAsGuessed 113 = .ok (.if_icmp .ne 7, 3) := by decide +kernel
theorem dL_isAsGuessed_116 : decode cL_isAsGuessed 116 = .ok (.iconst 1, 1) := by decide +kernel
theorem dL_isAsGuessed_117 : decode cL_isAsGuessed 117 = .ok (.goto 4, 3) := by decide +kernel
theorem dL_isAsGuessed_120 : decode cL_isAsGuessed 120 = .ok (.iconst 0, 1) := by decide +kernel
theorem dL_isAsGuessed_121 : decode cL_isAsGuessed 121 = .ok (.istore_n 1, 1) := by decide +kernel
theorem dL_isAsGuessed_122 : decode cL_isAsGuessed 122 = .ok (.iload_n 1, 1) := by decide +kernel
theorem dL_isAsGuessed_123 : decode cL_isAsGuessed 123 = .ok (.ifCond .eq 52, 3) := by decide +kernel
theorem dL_isAsGuessed_126 : decode cL_isAsGuessed 126 = .ok (.aload_n 0, 1) := by decide +kernel
theorem dL_isAsGuessed_127 : decode cL_isAsGuessed 127 = .ok (.iconst 1, 1) := by decide +kernel
theorem dL_isAsGuessed_128 : decode cL_isAsGuessed 128 = .ok (.invokevirtual 34, 3) := by decide +kernel
theorem dL_isAsGuessed_131 : decode cL_isAsGuessed 131 = .ok (.iconst 1, 1) := by decide +kernel
theorem dL_isAsGuessed_132 : decode cL_isAsGuessed 132 = .ok (.if_icmp .ne 18, 3) := by decide +kernel
theorem dL_isAsGuessed_135 : decode cL_isAsGuessed 135 = .ok (.iload 5, 2) := by decide +kernel
theorem dL_isAsGuessed_137 : decode cL_isAsGuessed 137 = .ok (.aload_n 0, 1) := by decide +kernel
theorem dL_isAsGuessed_138 : decode cL_isAsGuessed 138 = .ok (.iload_n 3, 1) := by decide +kernel
theorem dL_isAsGuessed_139 : decode cL_isAsGuessed 139 = .ok (.iload 4, 2) := by decide +kernel
theorem dL_isAsGuessed_141 : decode cL_isAsGuessed 141 = .ok (.invokevirtual 82, 3) := by decide +kernel
theorem dL_isAsGuessed_144 : decode cL_isAsGuessed 144 = .ok (.if_icmp .ne 31, 3) := by decide +kernel
theorem dL_isAsGuessed_147 : decode cL_isAsGuessed 147 = .ok (.goto 24, 3) := by decide +kernel
theorem dL_isAsGuessed_150 : decode cL_isAsGuessed 150 = .ok (.iload 5, 2) := by decide +kernel
theorem dL_isAsGuessed_152 : decode cL_isAsGuessed 152 = .ok (.iload_n 2, 1) := by decide +kernel
theorem dL_isAsGuessed_153 : decode cL_isAsGuessed 153 = .ok (.ifCond .ne 7, 3) := by decide +kernel
theorem dL_isAsGuessed_156 : decode cL_isAsGuessed 156 = .ok (.iconst 0, 1) := by decide +kernel
theorem dL_isAsGuessed_157 : decode cL_isAsGuessed 157 = .ok (.goto 11, 3) := by decide +kernel
theorem dL_isAsGuessed_160 : decode cL_isAsGuessed 160 = .ok (.aload_n 0, 1) := by decide +kernel
theorem dL_isAsGuessed_161 : decode cL_isAsGuessed 161 = .ok (.iload_n 2, 1) := by decide +kernel
theorem dL_isAsGuessed_162 : decode cL_isAsGuessed 162 = .ok (.iconst 1, 1) := by decide +kernel
theorem dL_isAsGuessed_163 : decode cL_isAsGuessed 163 = .ok (.isub, 1) := by decide +kernel
theorem dL_isAsGuessed_164 : decode cL_isAsGuessed 164 = .ok (.iconst 5, 1) := by decide +kernel
theorem dL_isAsGuessed_165 : decode cL_isAsGuessed 165 = .ok (.invokevirtual 64, 3) := by decide +kernel
theorem dL_isAsGuessed_168 : decode cL_isAsGuessed 168 = .ok (.if_icmp .ne 7, 3) := by decide +kernel
theorem dL_isAsGuessed_171 : decode cL_isAsGuessed 171 = .ok (.iconst 1, 1) := by decide +kernel
theorem dL_isAsGuessed_172 : decode cL_isAsGuessed 172 = .ok (.goto 4, 3) := by decide +kernel
theorem dL_isAsGuessed_175 : decode cL_isAsGuessed 175 = .ok (.iconst 0, 1) := by decide +kernel
theorem dL_isAsGuessed_176 : decode cL_isAsGuessed 176 = .ok (.istore_n 1, 1) := by decide +kernel
theorem dL_isAsGuessed_177 : decode cL_isAsGuessed 177 = .ok (.aload_n 0, 1) := by decide +kernel
theorem dL_isAsGuessed_178 : decode cL_isAsGuessed 178 = .ok (.iload_n 3, 1) := by decide +kernel
theorem dL_isAsGuessed_179 : decode cL_isAsGuessed 179 = .ok (.iload 4, 2) := by decide +kernel
theorem dL_isAsGuessed_181 : decode cL_isAsGuessed 181 = .ok (.invokevirtual 82, 3) := by decide +kernel
theorem dL_isAsGuessed_184 : decode cL_isAsGuessed 184 = .ok (.istore 6, 2) := by decide +kernel
theorem dL_isAsGuessed_186 : decode cL_isAsGuessed 186 = .ok (.iload_n 1, 1) := by decide +kernel
theorem dL_isAsGuessed_187 : decode cL_isAsGuessed 187 = .ok (.ifCond .eq 28, 3) := by decide +kernel
theorem dL_isAsGuessed_190 : decode cL_isAsGuessed 190 = .ok (.aload_n 0, 1) := by decide +kernel
theorem dL_isAsGuessed_191 : decode cL_isAsGuessed 191 = .ok (.iload_n 3, 1) := by decide +kernel
theorem dL_isAsGuessed_192 : decode cL_isAsGuessed 192 = .ok (.iload 4, 2) := by decide +kernel
theorem dL_isAsGuessed_194 : decode cL_isAsGuessed 194 = .ok (.iload 6, 2) := by decide +kernel
theorem dL_isAsGuessed_196 : decode cL_isAsGuessed 196 = .ok (.invokevirtual 79, 3) := by decide +kernel
theorem dL_isAsGuessed_199 : decode cL_isAsGuessed 199 = .ok (.aload_n 0, 1) := by decide +kernel
theorem dL_isAsGuessed_200 : decode cL_isAsGuessed 200 = .ok (.iload_n 3, 1) := by decide +kernel
theorem dL_isAsGuessed_201 : decode cL_isAsGuessed 201 = .ok (.iload 4, 2) := by decide +kernel
theorem dL_isAsGuessed_203 : decode cL_isAsGuessed 203 = .ok (.iload 5, 2) := by decide +kernel
theorem dL_isAsGuessed_205 : decode cL_isAsGuessed 205 = .ok (.invokevirtual 79, 3) := by decide +kernel
theorem dL_isAsGuessed_208 : decode cL_isAsGuessed 208 = .ok (.if_icmp .gt 7, 3) := by decide +kernel
theorem dL_isAsGuessed_211 : decode cL_isAsGuessed 211 = .ok (.iconst 1, 1) := by decide +kernel
theorem dL_isAsGuessed_212 : decode cL_isAsGuessed 212 = .ok (.goto 4, 3) := by decide +kernel
theorem dL_isAsGuessed_215 : decode cL_isAsGuessed 215 = .ok (.iconst 0, 1) := by decide +kernel
theorem dL_isAsGuessed_216 : decode cL_isAsGuessed 216 = .ok (.istore_n 1, 1) := by decide +kernel
theorem dL_isAsGuessed_217 : decode cL_isAsGuessed 217 = .ok (.iinc 2 1, 3) := by decide +kernel
theorem dL_isAsGuessed_220 : decode cL_isAsGuessed 220 = .ok (.goto (-174), 3) := by decide +kernel
theorem dL_isAsGuessed_223 : decode cL_isAsGuessed 223 = .ok (.iload_n 1, 1) := by decide +kernel
theorem dL_isAsGuessed_224 : decode cL_isAsGuessed 224 = .ok (.ireturn, 1) := by decide +kernel
theorem dL_holds_0 : decode cL_holds 0 = .ok (.aload_n 0, 1) := by decide +kernel
theorem dL_holds_1 : decode cL_holds 1 = .ok (.iconst 0, 1) := by decide +kernel
theorem dL_holds_2 : decode cL_holds 2 = .ok (.invokevirtual 9, 3) := by decide +kernel
theorem dL_holds_5 : decode cL_holds 5 = .ok (.istore_n 1, 1) := by decide +kernel
theorem dL_holds_6 : decode cL_holds 6 = .ok (.aload_n 0, 1) := by decide +kernel
theorem dL_holds_7 : decode cL_holds 7 = .ok (.iconst 2, 1) := by decide +kernel
theorem dL_holds_8 : decode cL_holds 8 = .ok (.invokevirtual 9, 3) := by decide +kernel
theorem dL_holds_11 : decode cL_holds 11 = .ok (.istore_n 2, 1) := by decide +kernel
theorem dL_holds_12 : decode cL_holds 12 = .ok (.aload_n 0, 1) := by decide +kernel
theorem dL_holds_13 : decode cL_holds 13 = .ok (.iconst 1, 1) := by decide +kernel
theorem dL_holds_14 : decode cL_holds 14 = .ok (.invokevirtual 9, 3) := by decide +kernel
theorem dL_holds_17 : decode cL_holds 17 = .ok (.iconst 1, 1) := by decide +kernel
theorem dL_holds_18 : decode cL_holds 18 = .ok (.if_icmp .ne 7, 3) := by decide +kernel
theorem dL_holds_21 : decode cL_holds 21 = .ok (.iconst 1, 1) := by decide +kernel
theorem dL_holds_22 : decode cL_holds 22 = .ok (.goto 4, 3) := by decide +kernel
theorem dL_holds_25 : decode cL_holds 25 = .ok (.iconst 0, 1) := by decide +kernel
theorem dL_holds_26 : decode cL_holds 26 = .ok (.istore_n 3, 1) := by decide +kernel
theorem dL_holds_27 : decode cL_holds 27 = .ok (.iconst 0, 1) := by decide +kernel
theorem dL_holds_28 : decode cL_holds 28 = .ok (.istore 4, 2) := by decide +kernel
theorem dL_holds_30 : decode cL_holds 30 = .ok (.iconst 0, 1) := by decide +kernel
theorem dL_holds_31 : decode cL_holds 31 = .ok (.istore 5, 2) := by decide +kernel
theorem dL_holds_33 : decode cL_holds 33 = .ok (.iconst 0, 1) := by decide +kernel
theorem dL_holds_34 : decode cL_holds 34 = .ok (.istore 6, 2) := by decide +kernel
theorem dL_holds_36 : decode cL_holds 36 = .ok (.iconst 0, 1) := by decide +kernel
theorem dL_holds_37 : decode cL_holds 37 = .ok (.istore 7, 2) := by decide +kernel
theorem dL_holds_39 : decode cL_holds 39 = .ok (.iload_n 3, 1) := by decide +kernel
theorem dL_holds_40 : decode cL_holds 40 = .ok (.ifCond .eq 30, 3) := by decide +kernel
theorem dL_holds_43 : decode cL_holds 43 = .ok (.iload_n 2, 1) := by decide +kernel
theorem dL_holds_44 : decode cL_holds 44 = .ok (.iload_n 1, 1) := by decide +kernel
theorem dL_holds_45 : decode cL_holds 45 = .ok (.aload_n 0, 1) := by decide +kernel
theorem dL_holds_46 : decode cL_holds 46 = .ok (.iconst 0, 1) := by decide +kernel
theorem dL_holds_47 : decode cL_holds 47 = .ok (.invokevirtual 34, 3) := by decide +kernel
theorem dL_holds_50 : decode cL_holds 50 = .ok (.iadd, 1) := by decide +kernel
theorem dL_holds_51 : decode cL_holds 51 = .ok (.iconst 1, 1) := by decide +kernel
theorem dL_holds_52 : decode cL_holds 52 = .ok (.isub, 1) := by decide +kernel
theorem dL_holds_53 : decode cL_holds 53 = .ok (.aload_n 0, 1) := by decide +kernel
theorem dL_holds_54 : decode cL_holds 54 = .ok (.iconst 0, 1) := by decide +kernel
theorem dL_holds_55 : decode cL_holds 55 = .ok (.invokevirtual 34, 3) := by decide +kernel
theorem dL_holds_58 : decode cL_holds 58 = .ok (.idiv, 1) := by decide +kernel
theorem dL_holds_59 : decode cL_holds 59 = .ok (.if_icmp .ne 7, 3) := by decide +kernel
theorem dL_holds_62 : decode cL_holds 62 = .ok (.iconst 1, 1) := by decide +kernel
theorem dL_holds_63 : decode cL_holds 63 = .ok (.goto 24, 3) := by decide +kernel
theorem dL_holds_66 : decode cL_holds 66 = .ok (.iconst 0, 1) := by decide +kernel
theorem dL_holds_67 : decode cL_holds 67 = .ok (.goto 20, 3) := by decide +kernel
theorem dL_holds_70 : decode cL_holds 70 = .ok (.iload_n 2, 1) := by decide +kernel
theorem dL_holds_71 : decode cL_holds 71 = .ok (.ifCond .ne 15, 3) := by decide +kernel
theorem dL_holds_74 : decode cL_holds 74 = .ok (.aload_n 0, 1) := by decide +kernel
theorem dL_holds_75 : decode cL_holds 75 = .ok (.iconst 3, 1) := by decide +kernel
theorem dL_holds_76 : decode cL_holds 76 = .ok (.invokevirtual 9, 3) := by decide +kernel
theorem dL_holds_79 : decode cL_holds 79 = .ok (.ifCond .ne 7, 3) := by decide +kernel
theorem dL_holds_82 : decode cL_holds 82 = .ok (.iconst 1, 1) := by decide +kernel
theorem dL_holds_83 : decode cL_holds 83 = .ok (.goto 4, 3) := by decide +kernel
theorem dL_holds_86 : decode cL_holds 86 = .ok (.iconst 0, 1) := by decide +kernel
theorem dL_holds_87 : decode cL_holds 87 = .ok (.istore 8, 2) := by decide +kernel
theorem dL_holds_89 : decode cL_holds 89 = .ok (.iconst 0, 1) := by decide +kernel
theorem dL_holds_90 : decode cL_holds 90 = .ok (.istore 9, 2) := by decide +kernel
theorem dL_holds_92 : decode cL_holds 92 = .ok (.iload 9, 2) := by decide +kernel
theorem dL_holds_94 : decode cL_holds 94 = .ok (.iload_n 1, 1) := by decide +kernel
theorem dL_holds_95 : decode cL_holds 95 = .ok (.if_icmp .ge 242, 3) := by decide +kernel
theorem dL_holds_98 : decode cL_holds 98 = .ok (.iload 8, 2) := by decide +kernel
theorem dL_holds_100 : decode cL_holds 100 = .ok (.ifCond .eq 237, 3) := by decide +kernel
theorem dL_holds_103 : decode cL_holds 103 = .ok (.aload_n 0, 1) := by decide +kernel
theorem dL_holds_104 : decode cL_holds 104 = .ok (.iload 9, 2) := by decide +kernel
theorem dL_holds_106 : decode cL_holds 106 = .ok (.iconst 0, 1) := by decide +kernel
theorem dL_holds_107 : decode cL_holds 107 = .ok (.invokevirtual 24, 3) := by decide +kernel
theorem dL_holds_110 : decode cL_holds 110 = .ok (.sipush 10000, 3) := by decide +kernel
theorem dL_holds_113 : decode cL_holds 113 = .ok (.isub, 1) := by decide +kernel
theorem dL_holds_114 : decode cL_holds 114 = .ok (.istore 10, 2) := by decide +kernel
theorem dL_holds_116 : decode cL_holds 116 = .ok (.aload_n 0, 1) := by decide +kernel
theorem dL_holds_117 : decode cL_holds 117 = .ok (.iload 9, 2) := by decide +kernel
theorem dL_holds_119 : decode cL_holds 119 = .ok (.iconst 1, 1) := by decide +kernel
theorem dL_holds_120 : decode cL_holds 120 = .ok (.invokevirtual 24, 3) := by decide +kernel
theorem dL_holds_123 : decode cL_holds 123 = .ok (.sipush 10000, 3) := by decide +kernel
theorem dL_holds_126 : decode cL_holds 126 = .ok (.isub, 1) := by decide +kernel
theorem dL_holds_127 : decode cL_holds 127 = .ok (.istore 11, 2) := by decide +kernel
theorem dL_holds_129 : decode cL_holds 129 = .ok (.iload 10, 2) := by decide +kernel
theorem dL_holds_131 : decode cL_holds 131 = .ok (.sipush (-2048), 3) := by decide +kernel
theorem dL_holds_134 : decode cL_holds 134 = .ok (.if_icmp .lt 15, 3) := by decide +kernel
theorem dL_holds_137 : decode cL_holds 137 = .ok (.iload 10, 2) := by decide +kernel
theorem dL_holds_139 : decode cL_holds 139 = .ok (.sipush 2047, 3) := by decide +kernel
theorem dL_holds_142 : decode cL_holds 142 = .ok (.if_icmp .gt 7, 3) := by decide +kernel
theorem dL_holds_145 : decode cL_holds 145 = .ok (.iconst 1, 1) := by decide +kernel
theorem dL_holds_146 : decode cL_holds 146 = .ok (.goto 4, 3) := by decide +kernel
theorem dL_holds_149 : decode cL_holds 149 = .ok (.iconst 0, 1) := by decide +kernel
theorem dL_holds_150 : decode cL_holds 150 = .ok (.istore 8, 2) := by decide +kernel
theorem dL_holds_152 : decode cL_holds 152 = .ok (.iload_n 3, 1) := by decide +kernel
theorem dL_holds_153 : decode cL_holds 153 = .ok (.ifCond .eq 147, 3) := by decide +kernel
theorem dL_holds_156 : decode cL_holds 156 = .ok (.iload 10, 2) := by decide +kernel
theorem dL_holds_158 : decode cL_holds 158 = .ok (.iload 11, 2) := by decide +kernel
theorem dL_holds_160 : decode cL_holds 160 = .ok (.isub, 1) := by decide +kernel
theorem dL_holds_161 : decode cL_holds 161 = .ok (.istore 12, 2) := by decide +kernel
theorem dL_holds_163 : decode cL_holds 163 = .ok (.iload 8, 2) := by decide +kernel
theorem dL_holds_165 : decode cL_holds 165 = .ok (.ifCond .eq 74, 3) := by decide +kernel
theorem dL_holds_168 : decode cL_holds 168 = .ok (.iload 11, 2) := by decide +kernel
theorem dL_holds_170 : decode cL_holds 170 = .ok (.sipush (-2048), 3) := by decide +kernel
theorem dL_holds_173 : decode cL_holds 173 = .ok (.if_icmp .lt 66, 3) := by decide +kernel
theorem dL_holds_176 : decode cL_holds 176 = .ok (.iload 11, 2) := by decide +kernel
theorem dL_holds_178 : decode cL_holds 178 = .ok (.sipush 2047, 3) := by decide +kernel
theorem dL_holds_181 : decode cL_holds 181 = .ok (.if_icmp .gt 58, 3) := by decide +kernel
theorem dL_holds_184 : decode cL_holds 184 = .ok (.aload_n 0, 1) := by decide +kernel
theorem dL_holds_185 : decode cL_holds 185 = .ok (.iload 9, 2) := by decide +kernel
theorem dL_holds_187 : decode cL_holds 187 = .ok (.iconst 5, 1) := by decide +kernel
theorem dL_holds_188 : decode cL_holds 188 = .ok (.invokevirtual 24, 3) := by decide +kernel
theorem dL_holds_191 : decode cL_holds 191 = .ok (.iload 12, 2) := by decide +kernel
theorem dL_holds_193 : decode cL_holds 193 = .ok (.sipush 10000, 3) := by decide +kernel
theorem dL_holds_196 : decode cL_holds 196 = .ok (.iadd, 1) := by decide +kernel
theorem dL_holds_197 : decode cL_holds 197 = .ok (.if_icmp .ne 42, 3) := by decide +kernel
theorem dL_holds_200 : decode cL_holds 200 = .ok (.aload_n 0, 1) := by decide +kernel
theorem dL_holds_201 : decode cL_holds 201 = .ok (.iload 9, 2) := by decide +kernel
theorem dL_holds_203 : decode cL_holds 203 = .ok (.iconst 3, 1) := by decide +kernel
theorem dL_holds_204 : decode cL_holds 204 = .ok (.invokevirtual 24, 3) := by decide +kernel
theorem dL_holds_207 : decode cL_holds 207 = .ok (.iconst (-1), 1) := by decide +kernel
theorem dL_holds_208 : decode cL_holds 208 = .ok (.if_icmp .ne 7, 3) := by decide +kernel
theorem dL_holds_211 : decode cL_holds 211 = .ok (.iconst 1, 1) := by decide +kernel
theorem dL_holds_212 : decode cL_holds 212 = .ok (.goto 4, 3) := by decide +kernel
theorem dL_holds_215 : decode cL_holds 215 = .ok (.iconst 0, 1) := by decide +kernel
theorem dL_holds_216 : decode cL_holds 216 = .ok (.iload 9, 2) := by decide +kernel
theorem dL_holds_218 : decode cL_holds 218 = .ok (.aload_n 0, 1) := by decide +kernel
theorem dL_holds_219 : decode cL_holds 219 = .ok (.iconst 0, 1) := by decide +kernel
theorem dL_holds_220 : decode cL_holds 220 = .ok (.invokevirtual 34, 3) := by decide +kernel
theorem dL_holds_223 : decode cL_holds 223 = .ok (.irem, 1) := by decide +kernel
theorem dL_holds_224 : decode cL_holds 224 = .ok (.ifCond .ne 7, 3) := by decide +kernel
theorem dL_holds_227 : decode cL_holds 227 = .ok (.iconst 1, 1) := by decide +kernel
theorem dL_holds_228 : decode cL_holds 228 = .ok (.goto 4, 3) := by decide +kernel
theorem dL_holds_231 : decode cL_holds 231 = .ok (.iconst 0, 1) := by decide +kernel
theorem dL_holds_232 : decode cL_holds 232 = .ok (.if_icmp .ne 7, 3) := by decide +kernel
theorem dL_holds_235 : decode cL_holds 235 = .ok (.iconst 1, 1) := by decide +kernel
theorem dL_holds_236 : decode cL_holds 236 = .ok (.goto 4, 3) := by decide +kernel
theorem dL_holds_239 : decode cL_holds 239 = .ok (.iconst 0, 1) := by decide +kernel
theorem dL_holds_240 : decode cL_holds 240 = .ok (.istore 8, 2) := by decide +kernel
theorem dL_holds_242 : decode cL_holds 242 = .ok (.iload 4, 2) := by decide +kernel
theorem dL_holds_244 : decode cL_holds 244 = .ok (.iload 12, 2) := by decide +kernel
theorem dL_holds_246 : decode cL_holds 246 = .ok (.iload 12, 2) := by decide +kernel
theorem dL_holds_248 : decode cL_holds 248 = .ok (.imul, 1) := by decide +kernel
theorem dL_holds_249 : decode cL_holds 249 = .ok (.iadd, 1) := by decide +kernel
theorem dL_holds_250 : decode cL_holds 250 = .ok (.istore 4, 2) := by decide +kernel
theorem dL_holds_252 : decode cL_holds 252 = .ok (.iload 12, 2) := by decide +kernel
theorem dL_holds_254 : decode cL_holds 254 = .ok (.iload 6, 2) := by decide +kernel
theorem dL_holds_256 : decode cL_holds 256 = .ok (.if_icmp .le 8, 3) := by decide +kernel
theorem dL_holds_259 : decode cL_holds 259 = .ok (.iload 12, 2) := by decide +kernel
theorem dL_holds_261 : decode cL_holds 261 = .ok (.goto 19, 3) := by decide +kernel
theorem dL_holds_264 : decode cL_holds 264 = .ok (.iload 12, 2) := by decide +kernel
theorem dL_holds_266 : decode cL_holds 266 = .ok (.ineg, 1) := by decide +kernel
theorem dL_holds_267 : decode cL_holds 267 = .ok (.iload 6, 2) := by decide +kernel
theorem dL_holds_269 : decode cL_holds 269 = .ok (.if_icmp .le 9, 3) := by decide +kernel
theorem dL_holds_272 : decode cL_holds 272 = .ok (.iload 12, 2) := by decide +kernel
theorem dL_holds_274 : decode cL_holds 274 = .ok (.ineg, 1) := by decide +kernel
theorem dL_holds_275 : decode cL_holds 275 = .ok (.goto 5, 3) := by decide +kernel
theorem dL_holds_278 : decode cL_holds 278 = .ok (.iload 6, 2) := by decide +kernel
theorem dL_holds_280 : decode cL_holds 280 = .ok (.istore 6, 2) := by decide +kernel
theorem dL_holds_282 : decode cL_holds 282 = .ok (.iload 7, 2) := by decide +kernel
theorem dL_holds_284 : decode cL_holds 284 = .ok (.iload 12, 2) := by decide +kernel
theorem dL_holds_286 : decode cL_holds 286 = .ok (.ifCond .ne 7, 3) := by decide +kernel
theorem dL_holds_289 : decode cL_holds 289 = .ok (.iconst 1, 1) := by decide +kernel
theorem dL_holds_290 : decode cL_holds 290 = .ok (.goto 4, 3) := by decide +kernel
theorem dL_holds_293 : decode cL_holds 293 = .ok (.iconst 0, 1) := by decide +kernel
theorem dL_holds_294 : decode cL_holds 294 = .ok (.iadd, 1) := by decide +kernel
theorem dL_holds_295 : decode cL_holds 295 = .ok (.istore 7, 2) := by decide +kernel
theorem dL_holds_297 : decode cL_holds 297 = .ok (.goto 34, 3) := by decide +kernel
theorem dL_holds_300 : decode cL_holds 300 = .ok (.iload 8, 2) := by decide +kernel
theorem dL_holds_302 : decode cL_holds 302 = .ok (.ifCond .eq 26, 3) := by decide +kernel
theorem dL_holds_305 : decode cL_holds 305 = .ok (.iload 11, 2) := by decide +kernel
theorem dL_holds_307 : decode cL_holds 307 = .ok (.sipush (-10001), 3) := by decide +kernel
theorem dL_holds_310 : decode cL_holds 310 = .ok (.if_icmp .ne 18, 3) := by decide +kernel
theorem dL_holds_313 : decode cL_holds 313 = .ok (.aload_n 0, 1) := by decide +kernel
theorem dL_holds_314 : decode cL_holds 314 = .ok (.iload 9, 2) := by decide +kernel
theorem dL_holds_316 : decode cL_holds 316 = .ok (.iconst 4, 1) := by decide +kernel
theorem dL_holds_317 : decode cL_holds 317 = .ok (.invokevirtual 24, 3) := by decide +kernel
theorem dL_holds_320 : decode cL_holds 320 = .ok (.iconst (-1), 1) := by decide +kernel
theorem dL_holds_321 : decode cL_holds 321 = .ok (.if_icmp .ne 7, 3) := by decide +kernel
theorem dL_holds_324 : decode cL_holds 324 = .ok (.iconst 1, 1) := by decide +kernel
theorem dL_holds_325 : decode cL_holds 325 = .ok (.goto 4, 3) := by decide +kernel
theorem dL_holds_328 : decode cL_holds 328 = .ok (.iconst 0, 1) := by decide +kernel
theorem dL_holds_329 : decode cL_holds 329 = .ok (.istore 8, 2) := by decide +kernel
theorem dL_holds_331 : decode cL_holds 331 = .ok (.iinc 9 1, 3) := by decide +kernel
theorem dL_holds_334 : decode cL_holds 334 = .ok (.goto (-242), 3) := by decide +kernel
theorem dL_holds_337 : decode cL_holds 337 = .ok (.iconst 0, 1) := by decide +kernel
theorem dL_holds_338 : decode cL_holds 338 = .ok (.istore 9, 2) := by decide +kernel
theorem dL_holds_340 : decode cL_holds 340 = .ok (.iload 9, 2) := by decide +kernel
theorem dL_holds_342 : decode cL_holds 342 = .ok (.iload_n 2, 1) := by decide +kernel
theorem dL_holds_343 : decode cL_holds 343 = .ok (.if_icmp .ge 100, 3) := by decide +kernel
theorem dL_holds_346 : decode cL_holds 346 = .ok (.iload 8, 2) := by decide +kernel
theorem dL_holds_348 : decode cL_holds 348 = .ok (.ifCond .eq 95, 3) := by decide +kernel
theorem dL_holds_351 : decode cL_holds 351 = .ok (.iload 5, 2) := by decide +kernel
theorem dL_holds_353 : decode cL_holds 353 = .ok (.aload_n 0, 1) := by decide +kernel
theorem dL_holds_354 : decode cL_holds 354 = .ok (.iload 9, 2) := by decide +kernel
theorem dL_holds_356 : decode cL_holds 356 = .ok (.iconst 4, 1) := by decide +kernel
theorem dL_holds_357 : decode cL_holds 357 = .ok (.invokevirtual 64, 3) := by decide +kernel
theorem dL_holds_360 : decode cL_holds 360 = .ok (.iadd, 1) := by decide +kernel
theorem dL_holds_361 : decode cL_holds 361 = .ok (.istore 5, 2) := by decide +kernel
theorem dL_holds_363 : decode cL_holds 363 = .ok (.iload 9, 2) := by decide +kernel
theorem dL_holds_365 : decode cL_holds 365 = .ok (.aload_n 0, 1) := by decide +kernel
theorem dL_holds_366 : decode cL_holds 366 = .ok (.iconst 0, 1) := by decide +kernel
theorem dL_holds_367 : decode cL_holds 367 = .ok (.invokevirtual 34, 3) := by decide +kernel
theorem dL_holds_370 : decode cL_holds 370 = .ok (.imul, 1) := by decide +kernel
theorem dL_holds_371 : decode cL_holds 371 = .ok (.aload_n 0, 1) := by decide +kernel
theorem dL_holds_372 : decode cL_holds 372 = .ok (.iload 9, 2) := by decide +kernel
theorem dL_holds_374 : decode cL_holds 374 = .ok (.iconst 0, 1) := by decide +kernel
theorem dL_holds_375 : decode cL_holds 375 = .ok (.invokevirtual 64, 3) := by decide +kernel
theorem dL_holds_378 : decode cL_holds 378 = .ok (.iadd, 1) := by decide +kernel
theorem dL_holds_379 : decode cL_holds 379 = .ok (.iconst 1, 1) := by decide +kernel
theorem dL_holds_380 : decode cL_holds 380 = .ok (.isub, 1) := by decide +kernel
theorem dL_holds_381 : decode cL_holds 381 = .ok (.istore 10, 2) := by decide +kernel
theorem dL_holds_383 : decode cL_holds 383 = .ok (.aload_n 0, 1) := by decide +kernel
theorem dL_holds_384 : decode cL_holds 384 = .ok (.iload 9, 2) := by decide +kernel
theorem dL_holds_386 : decode cL_holds 386 = .ok (.iconst 3, 1) := by decide +kernel
theorem dL_holds_387 : decode cL_holds 387 = .ok (.invokevirtual 64, 3) := by decide +kernel
theorem dL_holds_390 : decode cL_holds 390 = .ok (.iconst 1, 1) := by decide +kernel
theorem dL_holds_391 : decode cL_holds 391 = .ok (.if_icmp .ne 22, 3) := by decide +kernel
theorem dL_holds_394 : decode cL_holds 394 = .ok (.aload_n 0, 1) := by decide +kernel
theorem dL_holds_395 : decode cL_holds 395 = .ok (.iload 10, 2) := by decide +kernel
theorem dL_holds_397 : decode cL_holds 397 = .ok (.iconst 4, 1) := by decide +kernel
theorem dL_holds_398 : decode cL_holds 398 = .ok (.invokevirtual 24, 3) := by decide +kernel
theorem dL_holds_401 : decode cL_holds 401 = .ok (.iconst (-1), 1) := by decide +kernel
theorem dL_holds_402 : decode cL_holds 402 = .ok (.if_icmp .ne 7, 3) := by decide +kernel
theorem dL_holds_405 : decode cL_holds 405 = .ok (.iconst 1, 1) := by decide +kernel
theorem dL_holds_406 : decode cL_holds 406 = .ok (.goto 29, 3) := by decide +kernel
theorem dL_holds_409 : decode cL_holds 409 = .ok (.iconst 0, 1) := by decide +kernel
theorem dL_holds_410 : decode cL_holds 410 = .ok (.goto 25, 3) := by decide +kernel
theorem dL_holds_413 : decode cL_holds 413 = .ok (.aload_n 0, 1) := by decide +kernel
theorem dL_holds_414 : decode cL_holds 414 = .ok (.iload 10, 2) := by decide +kernel
theorem dL_holds_416 : decode cL_holds 416 = .ok (.iconst 4, 1) := by decide +kernel
theorem dL_holds_417 : decode cL_holds 417 = .ok (.invokevirtual 24, 3) := by decide +kernel
theorem dL_holds_420 : decode cL_holds 420 = .ok (.aload_n 0, 1) := by decide +kernel
theorem dL_holds_421 : decode cL_holds 421 = .ok (.iload 9, 2) := by decide +kernel
theorem dL_holds_423 : decode cL_holds 423 = .ok (.iconst 5, 1) := by decide +kernel
theorem dL_holds_424 : decode cL_holds 424 = .ok (.invokevirtual 64, 3) := by decide +kernel
theorem dL_holds_427 : decode cL_holds 427 = .ok (.if_icmp .ne 7, 3) := by decide +kernel
theorem dL_holds_430 : decode cL_holds 430 = .ok (.iconst 1, 1) := by decide +kernel
theorem dL_holds_431 : decode cL_holds 431 = .ok (.goto 4, 3) := by decide +kernel
theorem dL_holds_434 : decode cL_holds 434 = .ok (.iconst 0, 1) := by decide +kernel
theorem dL_holds_435 : decode cL_holds 435 = .ok (.istore 8, 2) := by decide +kernel
theorem dL_holds_437 : decode cL_holds 437 = .ok (.iinc 9 1, 3) := by decide +kernel
theorem dL_holds_440 : decode cL_holds 440 = .ok (.goto (-100), 3) := by decide +kernel
theorem dL_holds_443 : decode cL_holds 443 = .ok (.iload 8, 2) := by decide +kernel
theorem dL_holds_445 : decode cL_holds 445 = .ok (.ifCond .eq 56, 3) := by decide +kernel
theorem dL_holds_448 : decode cL_holds 448 = .ok (.aload_n 0, 1) := by decide +kernel
theorem dL_holds_449 : decode cL_holds 449 = .ok (.iconst 4, 1) := by decide +kernel
theorem dL_holds_450 : decode cL_holds 450 = .ok (.invokevirtual 9, 3) := by decide +kernel
theorem dL_holds_453 : decode cL_holds 453 = .ok (.iload 4, 2) := by decide +kernel
theorem dL_holds_455 : decode cL_holds 455 = .ok (.if_icmp .ne 46, 3) := by decide +kernel
theorem dL_holds_458 : decode cL_holds 458 = .ok (.aload_n 0, 1) := by decide +kernel
theorem dL_holds_459 : decode cL_holds 459 = .ok (.iconst 5, 1) := by decide +kernel
theorem dL_holds_460 : decode cL_holds 460 = .ok (.invokevirtual 9, 3) := by decide +kernel
theorem dL_holds_463 : decode cL_holds 463 = .ok (.iload 5, 2) := by decide +kernel
theorem dL_holds_465 : decode cL_holds 465 = .ok (.if_icmp .ne 36, 3) := by decide +kernel
theorem dL_holds_468 : decode cL_holds 468 = .ok (.iload 5, 2) := by decide +kernel
theorem dL_holds_470 : decode cL_holds 470 = .ok (.iload 4, 2) := by decide +kernel
theorem dL_holds_472 : decode cL_holds 472 = .ok (.if_icmp .ne 29, 3) := by decide +kernel
theorem dL_holds_475 : decode cL_holds 475 = .ok (.aload_n 0, 1) := by decide +kernel
theorem dL_holds_476 : decode cL_holds 476 = .ok (.bipush 6, 2) := by decide +kernel
theorem dL_holds_478 : decode cL_holds 478 = .ok (.invokevirtual 9, 3) := by decide +kernel
theorem dL_holds_481 : decode cL_holds 481 = .ok (.iload 6, 2) := by decide +kernel
theorem dL_holds_483 : decode cL_holds 483 = .ok (.if_icmp .ne 18, 3) := by decide +kernel
theorem dL_holds_486 : decode cL_holds 486 = .ok (.aload_n 0, 1) := by decide +kernel
theorem dL_holds_487 : decode cL_holds 487 = .ok (.bipush 7, 2) := by decide +kernel
theorem dL_holds_489 : decode cL_holds 489 = .ok (.invokevirtual 9, 3) := by decide +kernel
theorem dL_holds_492 : decode cL_holds 492 = .ok (.iload 7, 2) := by decide +kernel
theorem dL_holds_494 : decode cL_holds 494 = .ok (.if_icmp .ne 7, 3) := by decide +kernel
theorem dL_holds_497 : decode cL_holds 497 = .ok (.iconst 1, 1) := by decide +kernel
theorem dL_holds_498 : decode cL_holds 498 = .ok (.goto 4, 3) := by decide +kernel
theorem dL_holds_501 : decode cL_holds 501 = .ok (.iconst 0, 1) := by decide +kernel
theorem dL_holds_502 : decode cL_holds 502 = .ok (.istore 8, 2) := by decide +kernel
theorem dL_holds_504 : decode cL_holds 504 = .ok (.iload 8, 2) := by decide +kernel
theorem dL_holds_506 : decode cL_holds 506 = .ok (.ifCond .eq 54, 3) := by decide +kernel
theorem dL_holds_509 : decode cL_holds 509 = .ok (.aload_n 0, 1) := by decide +kernel
theorem dL_holds_510 : decode cL_holds 510 = .ok (.bipush 8, 2) := by decide +kernel
theorem dL_holds_512 : decode cL_holds 512 = .ok (.invokevirtual 9, 3) := by decide +kernel
theorem dL_holds_515 : decode cL_holds 515 = .ok (.iload_n 3, 1) := by decide +kernel
theorem dL_holds_516 : decode cL_holds 516 = .ok (.ifCond .eq 14, 3) := by decide +kernel
theorem dL_holds_519 : decode cL_holds 519 = .ok (.bipush 14, 2) := by decide +kernel
theorem dL_holds_521 : decode cL_holds 521 = .ok (.iload_n 2, 1) := by decide +kernel
theorem dL_holds_522 : decode cL_holds 522 = .ok (.imul, 1) := by decide +kernel
theorem dL_holds_523 : decode cL_holds 523 = .ok (.iconst 4, 1) := by decide +kernel
theorem dL_holds_524 : decode cL_holds 524 = .ok (.iload_n 1, 1) := by decide +kernel
theorem dL_holds_525 : decode cL_holds 525 = .ok (.imul, 1) := by decide +kernel
theorem dL_holds_526 : decode cL_holds 526 = .ok (.iadd, 1) := by decide +kernel
theorem dL_holds_527 : decode cL_holds 527 = .ok (.goto 4, 3) := by decide +kernel
theorem dL_holds_530 : decode cL_holds 530 = .ok (.iconst 0, 1) := by decide +kernel
theorem dL_holds_531 : decode cL_holds 531 = .ok (.if_icmp .ne 29, 3) := by decide +kernel
theorem dL_holds_534 : decode cL_holds 534 = .ok (.aload_n 0, 1) := by decide +kernel
theorem dL_holds_535 : decode cL_holds 535 = .ok (.invokevirtual 85, 3) := by decide +kernel
theorem dL_holds_538 : decode cL_holds 538 = .ok (.iload_n 3, 1) := by decide +kernel
theorem dL_holds_539 : decode cL_holds 539 = .ok (.ifCond .eq 12, 3) := by decide +kernel
theorem dL_holds_542 : decode cL_holds 542 = .ok (.iload 4, 2) := by decide +kernel
theorem dL_holds_544 : decode cL_holds 544 = .ok (.i2d, 1) := by decide +kernel
theorem dL_holds_545 : decode cL_holds 545 = .ok (.iload_n 1, 1) := by decide +kernel
theorem dL_holds_546 : decode cL_holds 546 = .ok (.i2d, 1) := by decide +kernel
theorem dL_holds_547 : decode cL_holds 547 = .ok (.ddiv, 1) := by decide +kernel
theorem dL_holds_548 : decode cL_holds 548 = .ok (.goto 4, 3) := by decide +kernel
theorem dL_holds_551 : decode cL_holds 551 = .ok (.dconst 0, 1) := by decide +kernel
theorem dL_holds_552 : decode cL_holds 552 = .ok (.dcmp .l, 1) := by decide +kernel
theorem dL_holds_553 : decode cL_holds 553 = .ok (.ifCond .ne 7, 3) := by decide +kernel
theorem dL_holds_556 : decode cL_holds 556 = .ok (.iconst 1, 1) := by decide +kernel
theorem dL_holds_557 : decode cL_holds 557 = .ok (.goto 4, 3) := by decide +kernel
theorem dL_holds_560 : decode cL_holds 560 = .ok (.iconst 0, 1) := by decide +kernel
theorem dL_holds_561 : decode cL_holds 561 = .ok (.ireturn, 1) := by decide +kernel
theorem dL_law_0 : decode cL_law 0 = .ok (.new 10, 3) := by decide +kernel
theorem dL_law_3 : decode cL_law 3 = .ok (.dup, 1) := by decide +kernel
theorem dL_law_4 : decode cL_law 4 = .ok (.invokespecial 89, 3) := by decide +kernel
theorem dL_law_7 : decode cL_law 7 = .ok (.astore_n 1, 1) := by decide +kernel
theorem dL_law_8 : decode cL_law 8 = .ok (.aload_n 1, 1) := by decide +kernel
theorem dL_law_9 : decode cL_law 9 = .ok (.invokestatic 90, 3) := by decide +kernel
theorem dL_law_12 : decode cL_law 12 = .ok (.ifCond .eq 25, 3) := by decide +kernel
theorem dL_law_15 : decode cL_law 15 = .ok (.aload_n 1, 1) := by decide +kernel
theorem dL_law_16 : decode cL_law 16 = .ok (.invokevirtual 93, 3) := by decide +kernel
theorem dL_law_19 : decode cL_law 19 = .ok (.fconst 0, 1) := by decide +kernel
theorem dL_law_20 : decode cL_law 20 = .ok (.fcmp .l, 1) := by decide +kernel
theorem dL_law_21 : decode cL_law 21 = .ok (.ifCond .ne 16, 3) := by decide +kernel
theorem dL_law_24 : decode cL_law 24 = .ok (.aload_n 1, 1) := by decide +kernel
theorem dL_law_25 : decode cL_law 25 = .ok (.bipush 11, 2) := by decide +kernel
theorem dL_law_27 : decode cL_law 27 = .ok (.invokevirtual 9, 3) := by decide +kernel
theorem dL_law_30 : decode cL_law 30 = .ok (.ifCond .ne 7, 3) := by decide +kernel
theorem dL_law_33 : decode cL_law 33 = .ok (.iconst 1, 1) := by decide +kernel
theorem dL_law_34 : decode cL_law 34 = .ok (.goto 4, 3) := by decide +kernel
theorem dL_law_37 : decode cL_law 37 = .ok (.iconst 0, 1) := by decide +kernel
theorem dL_law_38 : decode cL_law 38 = .ok (.istore_n 2, 1) := by decide +kernel
theorem dL_law_39 : decode cL_law 39 = .ok (.aload_n 0, 1) := by decide +kernel
theorem dL_law_40 : decode cL_law 40 = .ok (.arraylength, 1) := by decide +kernel
theorem dL_law_41 : decode cL_law 41 = .ok (.iconst 2, 1) := by decide +kernel
theorem dL_law_42 : decode cL_law 42 = .ok (.idiv, 1) := by decide +kernel
theorem dL_law_43 : decode cL_law 43 = .ok (.bipush 24, 2) := by decide +kernel
theorem dL_law_45 : decode cL_law 45 = .ok (.if_icmp .le 8, 3) := by decide +kernel
theorem dL_law_48 : decode cL_law 48 = .ok (.bipush 24, 2) := by decide +kernel
theorem dL_law_50 : decode cL_law 50 = .ok (.goto 7, 3) := by decide +kernel
theorem dL_law_53 : decode cL_law 53 = .ok (.aload_n 0, 1) := by decide +kernel
theorem dL_law_54 : decode cL_law 54 = .ok (.arraylength, 1) := by decide +kernel
theorem dL_law_55 : decode cL_law 55 = .ok (.iconst 2, 1) := by decide +kernel
theorem dL_law_56 : decode cL_law 56 = .ok (.idiv, 1) := by decide +kernel
theorem dL_law_57 : decode cL_law 57 = .ok (.istore_n 3, 1) := by decide +kernel
theorem dL_law_58 : decode cL_law 58 = .ok (.iconst 0, 1) := by decide +kernel
theorem dL_law_59 : decode cL_law 59 = .ok (.istore 4, 2) := by decide +kernel
theorem dL_law_61 : decode cL_law 61 = .ok (.iload 4, 2) := by decide +kernel
theorem dL_law_63 : decode cL_law 63 = .ok (.iload_n 3, 1) := by decide +kernel
theorem dL_law_64 : decode cL_law 64 = .ok (.if_icmp .ge 51, 3) := by decide +kernel
theorem dL_law_67 : decode cL_law 67 = .ok (.iload_n 2, 1) := by decide +kernel
theorem dL_law_68 : decode cL_law 68 = .ok (.ifCond .eq 47, 3) := by decide +kernel
theorem dL_law_71 : decode cL_law 71 = .ok (.aload_n 1, 1) := by decide +kernel
theorem dL_law_72 : decode cL_law 72 = .ok (.aload_n 0, 1) := by decide +kernel
theorem dL_law_73 : decode cL_law 73 = .ok (.iconst 2, 1) := by decide +kernel
theorem dL_law_74 : decode cL_law 74 = .ok (.iload 4, 2) := by decide +kernel
theorem dL_law_76 : decode cL_law 76 = .ok (.imul, 1) := by decide +kernel
theorem dL_law_77 : decode cL_law 77 = .ok (.invokestatic 97, 3) := by decide +kernel
theorem dL_law_80 : decode cL_law 80 = .ok (.aload_n 0, 1) := by decide +kernel
theorem dL_law_81 : decode cL_law 81 = .ok (.iconst 2, 1) := by decide +kernel
theorem dL_law_82 : decode cL_law 82 = .ok (.iload 4, 2) := by decide +kernel
theorem dL_law_84 : decode cL_law 84 = .ok (.imul, 1) := by decide +kernel
theorem dL_law_85 : decode cL_law 85 = .ok (.iconst 1, 1) := by decide +kernel
theorem dL_law_86 : decode cL_law 86 = .ok (.iadd, 1) := by decide +kernel
theorem dL_law_87 : decode cL_law 87 = .ok (.invokestatic 97, 3) := by decide +kernel
theorem dL_law_90 : decode cL_law 90 = .ok (.invokestatic 101, 3) := by decide +kernel
theorem dL_law_93 : decode cL_law 93 = .ok (.ifCond .eq 14, 3) := by decide +kernel
theorem dL_law_96 : decode cL_law 96 = .ok (.aload_n 1, 1) := by decide +kernel
theorem dL_law_97 : decode cL_law 97 = .ok (.invokestatic 90, 3) := by decide +kernel
theorem dL_law_100 : decode cL_law 100 = .ok (.ifCond .eq 7, 3) := by decide +kernel
theorem dL_law_103 : decode cL_law 103 = .ok (.iconst 1, 1) := by decide +kernel
theorem dL_law_104 : decode cL_law 104 = .ok (.goto 4, 3) := by decide +kernel
theorem dL_law_107 : decode cL_law 107 = .ok (.iconst 0, 1) := by decide +kernel
theorem dL_law_108 : decode cL_law 108 = .ok (.istore_n 2, 1) := by decide +kernel
theorem dL_law_109 : decode cL_law 109 = .ok (.iinc 4 1, 3) := by decide +kernel
theorem dL_law_112 : decode cL_law 112 = .ok (.goto (-51), 3) := by decide +kernel
theorem dL_law_115 : decode cL_law 115 = .ok (.aload_n 1, 1) := by decide +kernel
theorem dL_law_116 : decode cL_law 116 = .ok (.iconst 0, 1) := by decide +kernel
theorem dL_law_117 : decode cL_law 117 = .ok (.invokevirtual 9, 3) := by decide +kernel
theorem dL_law_120 : decode cL_law 120 = .ok (.istore 4, 2) := by decide +kernel
theorem dL_law_122 : decode cL_law 122 = .ok (.aload_n 1, 1) := by decide +kernel
theorem dL_law_123 : decode cL_law 123 = .ok (.iconst 4, 1) := by decide +kernel
theorem dL_law_124 : decode cL_law 124 = .ok (.invokevirtual 9, 3) := by decide +kernel
theorem dL_law_127 : decode cL_law 127 = .ok (.istore 5, 2) := by decide +kernel
theorem dL_law_129 : decode cL_law 129 = .ok (.aload_n 1, 1) := by decide +kernel
theorem dL_law_130 : decode cL_law 130 = .ok (.bipush 9, 2) := by decide +kernel
theorem dL_law_132 : decode cL_law 132 = .ok (.invokevirtual 9, 3) := by decide +kernel
theorem dL_law_135 : decode cL_law 135 = .ok (.istore 6, 2) := by decide +kernel
theorem dL_law_137 : decode cL_law 137 = .ok (.iload_n 2, 1) := by decide +kernel
theorem dL_law_138 : decode cL_law 138 = .ok (.ifCond .eq 71, 3) := by decide +kernel
theorem dL_law_141 : decode cL_law 141 = .ok (.aload_n 1, 1) := by decide +kernel
theorem dL_law_142 : decode cL_law 142 = .ok (.iconst 0, 1) := by decide +kernel
theorem dL_law_143 : decode cL_law 143 = .ok (.invokevirtual 104, 3) := by decide +kernel
theorem dL_law_146 : decode cL_law 146 = .ok (.iload 4, 2) := by decide +kernel
theorem dL_law_148 : decode cL_law 148 = .ok (.if_icmp .ne 61, 3) := by decide +kernel
theorem dL_law_151 : decode cL_law 151 = .ok (.aload_n 1, 1) := by decide +kernel
theorem dL_law_152 : decode cL_law 152 = .ok (.iconst 1, 1) := by decide +kernel
theorem dL_law_153 : decode cL_law 153 = .ok (.sipush 2047, 3) := by decide +kernel
theorem dL_law_156 : decode cL_law 156 = .ok (.iconst 5, 1) := by decide +kernel
theorem dL_law_157 : decode cL_law 157 = .ok (.invokevirtual 30, 3) := by decide +kernel
theorem dL_law_160 : decode cL_law 160 = .ok (.ifCond .lt 49, 3) := by decide +kernel
theorem dL_law_163 : decode cL_law 163 = .ok (.aload_n 1, 1) := by decide +kernel
theorem dL_law_164 : decode cL_law 164 = .ok (.invokevirtual 50, 3) := by decide +kernel
theorem dL_law_167 : decode cL_law 167 = .ok (.ifCond .le 42, 3) := by decide +kernel
theorem dL_law_170 : decode cL_law 170 = .ok (.aload_n 1, 1) := by decide +kernel
theorem dL_law_171 : decode cL_law 171 = .ok (.invokevirtual 107, 3) := by decide +kernel
theorem dL_law_174 : decode cL_law 174 = .ok (.ifCond .lt 35, 3) := by decide +kernel
theorem dL_law_177 : decode cL_law 177 = .ok (.aload_n 1, 1) := by decide +kernel
theorem dL_law_178 : decode cL_law 178 = .ok (.invokevirtual 107, 3) := by decide +kernel
theorem dL_law_181 : decode cL_law 181 = .ok (.ifCond .lt 28, 3) := by decide +kernel
theorem dL_law_184 : decode cL_law 184 = .ok (.aload_n 1, 1) := by decide +kernel
theorem dL_law_185 : decode cL_law 185 = .ok (.iconst 4, 1) := by decide +kernel
theorem dL_law_186 : decode cL_law 186 = .ok (.invokevirtual 9, 3) := by decide +kernel
theorem dL_law_189 : decode cL_law 189 = .ok (.iload 5, 2) := by decide +kernel
theorem dL_law_191 : decode cL_law 191 = .ok (.if_icmp .ne 18, 3) := by decide +kernel
theorem dL_law_194 : decode cL_law 194 = .ok (.aload_n 1, 1) := by decide +kernel
theorem dL_law_195 : decode cL_law 195 = .ok (.bipush 9, 2) := by decide +kernel
theorem dL_law_197 : decode cL_law 197 = .ok (.invokevirtual 9, 3) := by decide +kernel
theorem dL_law_200 : decode cL_law 200 = .ok (.iload 6, 2) := by decide +kernel
theorem dL_law_202 : decode cL_law 202 = .ok (.if_icmp .ne 7, 3) := by decide +kernel
theorem dL_law_205 : decode cL_law 205 = .ok (.iconst 1, 1) := by decide +kernel
theorem dL_law_206 : decode cL_law 206 = .ok (.goto 4, 3) := by decide +kernel
theorem dL_law_209 : decode cL_law 209 = .ok (.iconst 0, 1) := by decide +kernel
theorem dL_law_210 : decode cL_law 210 = .ok (.istore_n 2, 1) := by decide +kernel
theorem dL_law_211 : decode cL_law 211 = .ok (.iload_n 2, 1) := by decide +kernel
theorem dL_law_212 : decode cL_law 212 = .ok (.ifCond .eq 55, 3) := by decide +kernel
theorem dL_law_215 : decode cL_law 215 = .ok (.aload_n 1, 1) := by decide +kernel
theorem dL_law_216 : decode cL_law 216 = .ok (.iconst 3, 1) := by decide +kernel
theorem dL_law_217 : decode cL_law 217 = .ok (.invokevirtual 21, 3) := by decide +kernel
theorem dL_law_220 : decode cL_law 220 = .ok (.iload 4, 2) := by decide +kernel
theorem dL_law_222 : decode cL_law 222 = .ok (.if_icmp .ne 45, 3) := by decide +kernel
theorem dL_law_225 : decode cL_law 225 = .ok (.aload_n 1, 1) := by decide +kernel
theorem dL_law_226 : decode cL_law 226 = .ok (.iconst 0, 1) := by decide +kernel
theorem dL_law_227 : decode cL_law 227 = .ok (.invokevirtual 110, 3) := by decide +kernel
theorem dL_law_230 : decode cL_law 230 = .ok (.iload 4, 2) := by decide +kernel
theorem dL_law_232 : decode cL_law 232 = .ok (.if_icmp .ne 35, 3) := by decide +kernel
theorem dL_law_235 : decode cL_law 235 = .ok (.aload_n 1, 1) := by decide +kernel
theorem dL_law_236 : decode cL_law 236 = .ok (.iconst 4, 1) := by decide +kernel
theorem dL_law_237 : decode cL_law 237 = .ok (.invokevirtual 9, 3) := by decide +kernel
theorem dL_law_240 : decode cL_law 240 = .ok (.iload 5, 2) := by decide +kernel
theorem dL_law_242 : decode cL_law 242 = .ok (.if_icmp .ne 25, 3) := by decide +kernel
theorem dL_law_245 : decode cL_law 245 = .ok (.aload_n 1, 1) := by decide +kernel
theorem dL_law_246 : decode cL_law 246 = .ok (.bipush 9, 2) := by decide +kernel
theorem dL_law_248 : decode cL_law 248 = .ok (.invokevirtual 9, 3) := by decide +kernel
theorem dL_law_251 : decode cL_law 251 = .ok (.iload 6, 2) := by decide +kernel
theorem dL_law_253 : decode cL_law 253 = .ok (.if_icmp .ne 14, 3) := by decide +kernel
theorem dL_law_256 : decode cL_law 256 = .ok (.aload_n 1, 1) := by decide +kernel
theorem dL_law_257 : decode cL_law 257 = .ok (.invokestatic 90, 3) := by decide +kernel
theorem dL_law_260 : decode cL_law 260 = .ok (.ifCond .eq 7, 3) := by decide +kernel
theorem dL_law_263 : decode cL_law 263 = .ok (.iconst 1, 1) := by decide +kernel
theorem dL_law_264 : decode cL_law 264 = .ok (.goto 4, 3) := by decide +kernel
theorem dL_law_267 : decode cL_law 267 = .ok (.iconst 0, 1) := by decide +kernel
theorem dL_law_268 : decode cL_law 268 = .ok (.ireturn, 1) := by decide +kernel
end
