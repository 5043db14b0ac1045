section
-- ===== PART A: goes FIRST, ahead of the names: the tables' words, and 'selects' of the private methods out of them =====
/-- a private method of a class that the tables say can be made, by its rows of tables_1 -/
def lw_okq (q : MethodName × Nat) : Prop := (q.1.cls ≠ "java/lang/invoke/MethodHandle" ∧ q.1.cls ≠ "java/lang/invoke/VarHandle") ∧ Cond.instantiable q.1.cls q.2 ∈ tables_1 ∧ Cond.privateMethod q.1 ∈ tables_1 ∧ Cond.instanceMethod q.1 ∈ tables_1
theorem lw_p0 : lw_okq (⟨"Barrierbook$Tree", "clear", "()V"⟩, 9) := ⟨⟨by decide +kernel, by decide +kernel⟩, List.mem_of_getElem? (i := 157) (by decide +kernel), List.mem_of_getElem? (i := 303) (by decide +kernel), List.mem_of_getElem? (i := 304) (by decide +kernel)⟩
theorem lw_p1 : lw_okq (⟨"Barrierbook$Layer", "find", "(LBarrierbook$Standing;)I"⟩, 8) := ⟨⟨by decide +kernel, by decide +kernel⟩, List.mem_of_getElem? (i := 165) (by decide +kernel), List.mem_of_getElem? (i := 312) (by decide +kernel), List.mem_of_getElem? (i := 313) (by decide +kernel)⟩
theorem lw_p2 : lw_okq (⟨"Barrierbook$Tree", "growPeriod", "(LBarrierbook$Note;I)V"⟩, 9) := ⟨⟨by decide +kernel, by decide +kernel⟩, List.mem_of_getElem? (i := 157) (by decide +kernel), List.mem_of_getElem? (i := 320) (by decide +kernel), List.mem_of_getElem? (i := 321) (by decide +kernel)⟩
theorem lw_p3 : lw_okq (⟨"Barrierbook$Tree", "growBranch", "(LBarrierbook$Note;IIZ)V"⟩, 9) := ⟨⟨by decide +kernel, by decide +kernel⟩, List.mem_of_getElem? (i := 157) (by decide +kernel), List.mem_of_getElem? (i := 324) (by decide +kernel), List.mem_of_getElem? (i := 325) (by decide +kernel)⟩
theorem lw_p4 : lw_okq (⟨"Barrierbook$Standing", "takeCoupons", "(LBarrierbook$Note;I)I"⟩, 8) := ⟨⟨by decide +kernel, by decide +kernel⟩, List.mem_of_getElem? (i := 106) (by decide +kernel), List.mem_of_getElem? (i := 347) (by decide +kernel), List.mem_of_getElem? (i := 348) (by decide +kernel)⟩
theorem lw_p5 : lw_okq (⟨"Barrierbook$Standing", "endPay", "(IZ)I"⟩, 8) := ⟨⟨by decide +kernel, by decide +kernel⟩, List.mem_of_getElem? (i := 106) (by decide +kernel), List.mem_of_getElem? (i := 351) (by decide +kernel), List.mem_of_getElem? (i := 352) (by decide +kernel)⟩
theorem lw_p6 : lw_okq (⟨"Barrierbook$Tree", "end", "(IJII)V"⟩, 9) := ⟨⟨by decide +kernel, by decide +kernel⟩, List.mem_of_getElem? (i := 157) (by decide +kernel), List.mem_of_getElem? (i := 363) (by decide +kernel), List.mem_of_getElem? (i := 364) (by decide +kernel)⟩
theorem lw_p7 : lw_okq (⟨"Barrierbook", "worthOfRow", "(II)J"⟩, 5) := ⟨⟨by decide +kernel, by decide +kernel⟩, List.mem_of_getElem? (i := 16) (by decide +kernel), List.mem_of_getElem? (i := 373) (by decide +kernel), List.mem_of_getElem? (i := 374) (by decide +kernel)⟩
theorem lw_p8 : lw_okq (⟨"java/lang/Throwable", "fillInStackTrace", "(I)Ljava/lang/Throwable;"⟩, 6) := ⟨⟨by decide +kernel, by decide +kernel⟩, List.mem_of_getElem? (i := 457) (by decide +kernel), List.mem_of_getElem? (i := 455) (by decide +kernel), List.mem_of_getElem? (i := 456) (by decide +kernel)⟩
theorem lw_p9 : lw_okq (⟨"BarrierbookModel", "goes", "(I)Z"⟩, 22) := ⟨⟨by decide +kernel, by decide +kernel⟩, List.mem_of_getElem? (i := 573) (by decide +kernel), List.mem_of_getElem? (i := 657) (by decide +kernel), List.mem_of_getElem? (i := 658) (by decide +kernel)⟩
theorem lw_p10 : lw_okq (⟨"BarrierbookModel", "paidBy", "(I)I"⟩, 22) := ⟨⟨by decide +kernel, by decide +kernel⟩, List.mem_of_getElem? (i := 573) (by decide +kernel), List.mem_of_getElem? (i := 677) (by decide +kernel), List.mem_of_getElem? (i := 678) (by decide +kernel)⟩
theorem lw_p11 : lw_okq (⟨"BarrierbookModel", "runs", "(I)V"⟩, 22) := ⟨⟨by decide +kernel, by decide +kernel⟩, List.mem_of_getElem? (i := 573) (by decide +kernel), List.mem_of_getElem? (i := 681) (by decide +kernel), List.mem_of_getElem? (i := 682) (by decide +kernel)⟩
theorem lw_p12 : lw_okq (⟨"BarrierbookModel", "period", "(Z)V"⟩, 22) := ⟨⟨by decide +kernel, by decide +kernel⟩, List.mem_of_getElem? (i := 573) (by decide +kernel), List.mem_of_getElem? (i := 685) (by decide +kernel), List.mem_of_getElem? (i := 686) (by decide +kernel)⟩
theorem lw_p13 : lw_okq (⟨"BarrierbookModel", "moves", "(IZ)V"⟩, 22) := ⟨⟨by decide +kernel, by decide +kernel⟩, List.mem_of_getElem? (i := 573) (by decide +kernel), List.mem_of_getElem? (i := 689) (by decide +kernel), List.mem_of_getElem? (i := 690) (by decide +kernel)⟩
theorem lw_p14 : lw_okq (⟨"BarrierbookModel", "worstNow", "()I"⟩, 22) := ⟨⟨by decide +kernel, by decide +kernel⟩, List.mem_of_getElem? (i := 573) (by decide +kernel), List.mem_of_getElem? (i := 693) (by decide +kernel), List.mem_of_getElem? (i := 694) (by decide +kernel)⟩
theorem lw_p15 : lw_okq (⟨"BarrierbookModel", "level", "(I)I"⟩, 22) := ⟨⟨by decide +kernel, by decide +kernel⟩, List.mem_of_getElem? (i := 573) (by decide +kernel), List.mem_of_getElem? (i := 697) (by decide +kernel), List.mem_of_getElem? (i := 698) (by decide +kernel)⟩
def lw_privs_1 : List (MethodName × Nat) := [(⟨"Barrierbook$Tree", "clear", "()V"⟩, 9), (⟨"Barrierbook$Layer", "find", "(LBarrierbook$Standing;)I"⟩, 8), (⟨"Barrierbook$Tree", "growPeriod", "(LBarrierbook$Note;I)V"⟩, 9), (⟨"Barrierbook$Tree", "growBranch", "(LBarrierbook$Note;IIZ)V"⟩, 9), (⟨"Barrierbook$Standing", "takeCoupons", "(LBarrierbook$Note;I)I"⟩, 8), (⟨"Barrierbook$Standing", "endPay", "(IZ)I"⟩, 8), (⟨"Barrierbook$Tree", "end", "(IJII)V"⟩, 9), (⟨"Barrierbook", "worthOfRow", "(II)J"⟩, 5), (⟨"java/lang/Throwable", "fillInStackTrace", "(I)Ljava/lang/Throwable;"⟩, 6), (⟨"BarrierbookModel", "goes", "(I)Z"⟩, 22), (⟨"BarrierbookModel", "paidBy", "(I)I"⟩, 22), (⟨"BarrierbookModel", "runs", "(I)V"⟩, 22), (⟨"BarrierbookModel", "period", "(Z)V"⟩, 22), (⟨"BarrierbookModel", "moves", "(IZ)V"⟩, 22), (⟨"BarrierbookModel", "worstNow", "()I"⟩, 22), (⟨"BarrierbookModel", "level", "(I)I"⟩, 22)]
theorem lw_r1 : ∀ q ∈ lw_privs_1, lw_okq q := List.forall_mem_cons.mpr ⟨lw_p0, List.forall_mem_cons.mpr ⟨lw_p1, List.forall_mem_cons.mpr ⟨lw_p2, List.forall_mem_cons.mpr ⟨lw_p3, List.forall_mem_cons.mpr ⟨lw_p4, List.forall_mem_cons.mpr ⟨lw_p5, List.forall_mem_cons.mpr ⟨lw_p6, List.forall_mem_cons.mpr ⟨lw_p7, List.forall_mem_cons.mpr ⟨lw_p8, List.forall_mem_cons.mpr ⟨lw_p9, List.forall_mem_cons.mpr ⟨lw_p10, List.forall_mem_cons.mpr ⟨lw_p11, List.forall_mem_cons.mpr ⟨lw_p12, List.forall_mem_cons.mpr ⟨lw_p13, List.forall_mem_cons.mpr ⟨lw_p14, List.forall_mem_cons.mpr ⟨lw_p15, fun _ h => absurd h List.not_mem_nil⟩⟩⟩⟩⟩⟩⟩⟩⟩⟩⟩⟩⟩⟩⟩⟩
theorem lw_p16 : lw_okq (⟨"BarrierbookModel", "isOverNow", "()Z"⟩, 22) := ⟨⟨by decide +kernel, by decide +kernel⟩, List.mem_of_getElem? (i := 573) (by decide +kernel), List.mem_of_getElem? (i := 733) (by decide +kernel), List.mem_of_getElem? (i := 734) (by decide +kernel)⟩
theorem lw_p17 : lw_okq (⟨"BarrierbookModel", "sum", "()J"⟩, 22) := ⟨⟨by decide +kernel, by decide +kernel⟩, List.mem_of_getElem? (i := 573) (by decide +kernel), List.mem_of_getElem? (i := 741) (by decide +kernel), List.mem_of_getElem? (i := 742) (by decide +kernel)⟩
theorem lw_p18 : lw_okq (⟨"BarrierbookModel", "rows", "()I"⟩, 22) := ⟨⟨by decide +kernel, by decide +kernel⟩, List.mem_of_getElem? (i := 573) (by decide +kernel), List.mem_of_getElem? (i := 745) (by decide +kernel), List.mem_of_getElem? (i := 746) (by decide +kernel)⟩
theorem lw_p19 : lw_okq (⟨"BarrierbookModel", "weight", "(I)J"⟩, 22) := ⟨⟨by decide +kernel, by decide +kernel⟩, List.mem_of_getElem? (i := 573) (by decide +kernel), List.mem_of_getElem? (i := 749) (by decide +kernel), List.mem_of_getElem? (i := 750) (by decide +kernel)⟩
theorem lw_p20 : lw_okq (⟨"BarrierbookModel", "extreme", "(Z)I"⟩, 22) := ⟨⟨by decide +kernel, by decide +kernel⟩, List.mem_of_getElem? (i := 573) (by decide +kernel), List.mem_of_getElem? (i := 770) (by decide +kernel), List.mem_of_getElem? (i := 771) (by decide +kernel)⟩
def lw_privs_2 : List (MethodName × Nat) := [(⟨"BarrierbookModel", "isOverNow", "()Z"⟩, 22), (⟨"BarrierbookModel", "sum", "()J"⟩, 22), (⟨"BarrierbookModel", "rows", "()I"⟩, 22), (⟨"BarrierbookModel", "weight", "(I)J"⟩, 22), (⟨"BarrierbookModel", "extreme", "(Z)I"⟩, 22)]
theorem lw_r2 : ∀ q ∈ lw_privs_2, lw_okq q := List.forall_mem_cons.mpr ⟨lw_p16, List.forall_mem_cons.mpr ⟨lw_p17, List.forall_mem_cons.mpr ⟨lw_p18, List.forall_mem_cons.mpr ⟨lw_p19, List.forall_mem_cons.mpr ⟨lw_p20, fun _ h => absurd h List.not_mem_nil⟩⟩⟩⟩⟩
def lw_privs : List (MethodName × Nat) := lw_privs_1 ++ (lw_privs_2)
def lw_tbl : List Cond := k2_sels lw_privs ++ tables_1
theorem lw_privs_ok : ∀ q ∈ lw_privs, lw_okq q := by
  show ∀ q ∈ lw_privs_1 ++ (lw_privs_2), lw_okq q
  exact List.forall_mem_append.mpr ⟨lw_r1, lw_r2⟩
-- ===== end of PART A; then your names; then what follows =====
/-! ===== BEGIN words of one list among another's, by their places ===== -/
theorem goodIn_r {big : List Cond} (ws : List Cond) (ps : List Nat) (hp : ws = ps.filterMap (fun i => big[i]?)) (h : ws.all goodWord = true) : GoodIn big ws := by
  intro w hw
  have h1 := List.all_eq_true.mp h w hw
  rw [hp] at hw
  obtain ⟨i, -, hi⟩ := List.mem_filterMap.mp hw
  have hm : w ∈ big := by first | exact List.mem_of_getElem? hi | exact List.getElem?_mem hi
  exact ⟨hm, good_of_word h1⟩
theorem goodIn_app {big a b : List Cond} (ha : GoodIn big a) (hb : GoodIn big b) : GoodIn big (a ++ b) := fun w h => (List.mem_append.mp h).elim (ha w) (hb w)
theorem goodIn_ca {big a b : List Cond} {c : Cond} (ha : GoodIn big (c :: a)) (hb : GoodIn big b) : GoodIn big (c :: (a ++ b)) := fun w h => (List.mem_cons.mp h).elim (fun e => ha w (List.mem_cons.mpr (Or.inl e))) (fun h => (List.mem_append.mp h).elim (fun h => ha w (List.mem_cons.mpr (Or.inr h))) (hb w))
theorem goodIn_sub {big ws : List Cond} (hm : ∀ w ∈ ws, w ∈ big) (h : ws.all goodWord = true) : GoodIn big ws := fun w hw => ⟨hm w hw, good_of_word (List.all_eq_true.mp h w hw)⟩
/-! ===== END ===== -/

/-! ===== BEGIN exceptions that leave a method, and their catching by the caller (launches without stack traces) ===== -/
section VXA
/-! The laws vx_back, vx_callV, vx_callS, vx_callSW, vx_throw0, vx_throwS follow proofs of the library, with one case more: JvmDerived/Free/Laws.lean (Back.of_free), Shelf42/LK1.lean (callV, callS), Shelf/KitTraced.lean (throwNew0V, throwNewS). -/
/-- where a method has thrown q: the class by its name, the cell, what was written, the world -/
def vx_T (XC : String → State → State → Prop) (st : State) (q : Addr) (t : State) (mc ms : Nat) (free : Addr → Prop) : Prop :=
  ∃ (E : String) (ce : Cell) (L : List Loc), XC E st t ∧ t.heap[q]? = some ce ∧ ce.vm = .none ∧ st.vm.findClass E = some ce.cls ∧ st.WarmedH t.vm ∧ st.sameButNew ({ t with vm := st.vm } : State) L mc ms ∧ ∀ z ∈ L, free z.base
def vx_Q (Qc : Array Value → State → Outcome → State → Prop) (XC : String → State → State → Prop) (mc ms : Nat) (free : Addr → Prop) : Array Value → State → Outcome → State → Prop := fun a st o t =>
  (Qc a st o t ∧ ∃ L, FrameEnd st o t L mc ms ∧ ∀ q ∈ L, free q.base) ∨ ∃ q, o = .threw q ∧ vx_T XC st q t mc ms free
/-- a callee that returns or throws -/
def vx_Met (l : Launch) (y : MethodName) (ws : List Cond) (rm : Room) (Pc : Array Value → State → Prop) (Qc : Array Value → State → Outcome → State → Prop) (XC : String → State → State → Prop) (mc ms : Nat) (free : Addr → Prop) : Prop :=
  MetFree l y (headSpec ws rm) Pc (fun _ _ _ _ _ => True) (vx_Q Qc XC mc ms free)
def vx_Post (XC : String → State → State → Prop) (mc ms : Nat) (free : Addr → Prop) : Pt → Array Value → Addr → Pt → Prop := fun A a q B =>
  ∃ (g : JFrame) (mk : MethodId) (t : State) (L : List Loc) (E : String) (ce : Cell), B.U.heap = t.heap ∧ B.U.vm = t.vm ∧ XC E (A.U.calling g mk a) t ∧ t.heap[q]? = some ce ∧ ce.vm = .none ∧ A.U.vm.findClass E = some ce.cls ∧ B.locs = A.locs ++ L ∧ (∀ z ∈ L, free z.base) ∧ B.cells = A.cells + mc ∧ B.slots = A.slots + ms
def vx_Back (l : Launch) (R : Room) (p : Program) (e : Env) (below : List Frame) (s : State) (sargs : Array Value) (y : MethodName) (len W9 : Nat)
    (Pre : Pt → Array Value → Prop) (Post : Pt → Array Value → Option Value → Pt → Prop) (PostX : Pt → Array Value → Addr → Pt → Prop) : Prop :=
  ∀ (m : MethodId) (meth : Method) (c : Code) (A : Pt) (g : JFrame) (ig : Instr) (mk : MethodId) (a : Array Value),
    Stand p l e R s m sargs below meth c A.U A.locs A.cells A.slots → g.method = m → g.locals.size = c.maxLocals → decode c.code g.pc = .ok (ig, len) →
    2 * g.monitorRoom + (g.stack.map fun v => v.category).sum ≤ W9 → A.U.methodNamed? y = some mk → Pre A a →
    (∃ (v : Option Value) (B : Pt), Stand p l e R s m sargs below meth c B.U B.locs B.cells B.slots ∧ Post A a v B ∧
      Steps p.tables e below (doInvoke e (A.U.setTop g) [] mk a).1 (B.U.setTop { g with pc := g.pc + len, stack := v.toList ++ g.stack })) ∨
    (∃ (q : Addr) (B : Pt), Stand p l e R s m sargs below meth c B.U B.locs B.cells B.slots ∧ PostX A a q B ∧
      Steps p.tables e below (doInvoke e (A.U.setTop g) [] mk a).1 ((B.U.setTop g).pushFrame (.throwing q)))
section Payer
variable {l : Launch} {R : Room} {p : Program} {e : Env} {below : List Frame} {s : State} {sargs : Array Value} {y : MethodName} {len W9 : Nat}
theorem vx_back {ws : List Cond} {rm : Room} {Pc : Array Value → State → Prop} {Qc : Array Value → State → Outcome → State → Prop} {XC : String → State → State → Prop} {mc ms : Nat} {free : Addr → Prop} {bytes : ByteArray} {maxL : Nat} {ret : Option FieldType}
    (hM : vx_Met l y ws rm Pc Qc XC mc ms free) (hblind : FrameBlind Pc) (hrc : rm.cells = mc) (hrs : rm.slots = ms)
    (hframes : rm.frames + 1 ≤ R.frames) (hlocals : W9 + (maxL + 11) + rm.locals ≤ R.locals)
    (hws : ∀ w ∈ ws, ∀ a' U, s.WarmedH U.vm → w.before a' U = true) (hcode : Cond.code y bytes maxL ret ∈ ws) (hinit : ∀ a' U, s.WarmedH U.vm → (Cond.initialized y.cls).before a' U = true) :
    vx_Back l R p e below s sargs y len W9 (PreOf R mc ms Pc) (PostOf Qc mc ms free) (vx_Post XC mc ms free) := by
  intro m meth c A g ig mk a X hg hsize hdg hW hn hp
  have h1 : (headSpec ws rm).pre.before a A.U = true := atoms_intro fun w hw => hws w hw _ _ X.warmed
  have h2 : (Cond.code y bytes maxL ret).before a A.U = true := hws _ hcode _ _ X.warmed
  have h3 : (Cond.initialized y.cls).before a A.U = true := hinit _ _ X.warmed
  have h4 : A.cells + (headSpec ws rm).room.cells ≤ R.cells := by rw [show (headSpec ws rm).room.cells = mc from hrc]; exact hp.1
  have h5 : A.slots + (headSpec ws rm).room.slots ≤ R.slots := by rw [show (headSpec ws rm).room.slots = ms from hrs]; exact hp.2.1
  have hPc : Pc a (A.U.calling g mk a) := hblind _ _ _ _ hp.2.2
  obtain ⟨U, Ls, c0, s0⟩ := A
  dsimp only [Pt.U, Pt.locs, Pt.cells, Pt.slots] at h1 h2 h3 h4 h5 X hn hPc ⊢
  obtain ⟨methY, cY, hmY, hcY, -, hlY, -, -, -, -⟩ := Cond.code_spec hn h2
  obtain ⟨kY, hkY, -⟩ := className_of_methodNamed hn
  have hinitY : kY.init = .initialized := Cond.initialized_spec (findClass_of_methodNamed hn) hkY h3
  have h : At U g.method c below := by rw [hg]; exact X.here
  have hlocals9 : W9 + (maxL + 11) + (headSpec ws rm).room.locals ≤ R.locals := hlocals
  have happ : (headSpec ws rm).appliesLoose y e.platform (U.calling g mk a) = true :=
    Spec.appliesLoose_calling (g := g) h hdg hn hkY hinitY
      (X.room_calling (g := g) (R' := (headSpec ws rm).room) hsize hmY hcY hframes (by rw [hlY]; omega) h4 h5) h1
  obtain ⟨mid, hmid⟩ := h.above
  have hfr : (U.setTop g).frames = (.java g :: mid) ++ below := by rw [State.frames_setTop' g h.top, hmid]; rfl
  obtain ⟨o, s₂, hsteps, -, hend, hq⟩ := Steps.callFree hM p X.admits X.cas X.clock (acts := []) hfr happ hPc trivial
  have hq' : vx_Q Qc XC mc ms free a (U.calling g mk a) o s₂ := hq
  rw [State.frames_setTop' g h.top] at hend
  obtain ⟨g₀, hg0⟩ := Option.isSome_iff_exists.mp h.top
  obtain ⟨r, hr⟩ := State.topJava?_eq_some.mp hg0
  have hr' : (({ U with heap := s₂.heap, slotsUsed := s₂.slotsUsed } : State).setVm s₂.vm).frames = .java g₀ :: r := hr
  rcases hq' with ⟨hqc, L, hfe, hL⟩ | ⟨q, rfl, E, ce, L, hx, hce, hcv, hcl, hW₂, hsm, hL⟩
  · obtain ⟨⟨v, rfl⟩, hW₂, e2, q2, q3, q4, q5, q6⟩ := id hfe
    have e3 : s₂ = ({ (U.calling g mk a).setFrames s₂.frames with heap := s₂.heap, slotsUsed := s₂.slotsUsed } : State).setVm s₂.vm := by
      have : s₂ = ({ s₂ with vm := (U.calling g mk a).vm } : State).setVm s₂.vm := rfl
      rw [e2] at this
      exact this
    obtain ⟨c₂, i₂, len₂, hc₂, hd₂, hf₂⟩ := hend
    have hW' : U.WarmedH s₂.vm := hW₂
    have hcc : c₂ = c := by
      have h1 : s₂.code? g.method = U.code? g.method := by
        rw [State.code?_eq, State.code?_eq, hW'.alike.method?]
      exact Option.some.inj (hc₂.symm.trans (h1.trans h.code))
    subst hcc
    have hlen : len₂ = len := by rw [hdg] at hd₂; cases hd₂; rfl
    subst hlen
    have hs₂ : s₂ = (({ U with heap := s₂.heap, slotsUsed := s₂.slotsUsed } : State).setVm s₂.vm).setTop { g with pc := g.pc + len₂, stack := v.toList ++ g.stack } := by
      refine e3.trans ?_
      rw [hf₂, State.calling_eq h.top, State.setFrames_setFrames, State.setTop_of_frames _ hr', hr]
      rfl
    have hsame : U.sameButNew ({ U with heap := s₂.heap, slotsUsed := s₂.slotsUsed } : State) L mc ms := by
      refine ⟨?_, q2, q3, q4, q5, q6⟩
      obtain ⟨t, ht, -⟩ := State.frames_cons hr
      show ({ U with heap := s₂.heap, slotsUsed := s₂.slotsUsed } : State) = { U.setFrames U.frames with heap := s₂.heap, slotsUsed := s₂.slotsUsed }
      rw [State.setFrames_self ht]
    subst hg
    refine Or.inl ⟨v, ⟨(({ U with heap := s₂.heap, slotsUsed := s₂.slotsUsed } : State).setVm s₂.vm), Ls ++ L, c0 + mc, s0 + ms⟩,
      ⟨X.admits, X.cas, X.clock, X.frames, X.room, X.hears, X.method, X.code, (X.here.setHeapUsed s₂.heap s₂.slotsUsed).setVm hW'.alike, X.tail, State.WarmedH.trans X.warmed hW', X.limits, X.bytes, X.same.trans (hsame.setVm s.vm)⟩,
      ⟨g, mk, s₂, L, rfl, rfl, hqc, rfl, hL, rfl, rfl⟩, ?_⟩
    show Steps p.tables e below _ ((({ U with heap := s₂.heap, slotsUsed := s₂.slotsUsed } : State).setVm s₂.vm).setTop { g with pc := g.pc + len₂, stack := v.toList ++ g.stack })
    rw [← hs₂]
    exact hsteps
  · obtain ⟨e2, q2, q3, q4, q5, q6⟩ := id hsm
    have e3 : s₂ = ({ (U.calling g mk a).setFrames s₂.frames with heap := s₂.heap, slotsUsed := s₂.slotsUsed } : State).setVm s₂.vm := by
      have : s₂ = ({ s₂ with vm := (U.calling g mk a).vm } : State).setVm s₂.vm := rfl
      rw [e2] at this
      exact this
    have hf₂ : s₂.frames = .throwing q :: .java g :: U.frames.tail := hend
    have hW' : U.WarmedH s₂.vm := hW₂
    have hs₂ : s₂ = ((({ U with heap := s₂.heap, slotsUsed := s₂.slotsUsed } : State).setVm s₂.vm).setTop g).pushFrame (.throwing q) := by
      refine e3.trans ?_
      rw [hf₂, State.calling_eq h.top, State.setFrames_setFrames, State.pushFrame, State.frames_setTop _ hr', State.setTop_of_frames _ hr', State.setFrames_setFrames, hr]
      rfl
    have hsame : U.sameButNew ({ U with heap := s₂.heap, slotsUsed := s₂.slotsUsed } : State) L mc ms := by
      refine ⟨?_, q2, q3, q4, q5, q6⟩
      obtain ⟨t, ht, -⟩ := State.frames_cons hr
      show ({ U with heap := s₂.heap, slotsUsed := s₂.slotsUsed } : State) = { U.setFrames U.frames with heap := s₂.heap, slotsUsed := s₂.slotsUsed }
      rw [State.setFrames_self ht]
    subst hg
    refine Or.inr ⟨q, ⟨(({ U with heap := s₂.heap, slotsUsed := s₂.slotsUsed } : State).setVm s₂.vm), Ls ++ L, c0 + mc, s0 + ms⟩,
      ⟨X.admits, X.cas, X.clock, X.frames, X.room, X.hears, X.method, X.code, (X.here.setHeapUsed s₂.heap s₂.slotsUsed).setVm hW'.alike, X.tail, State.WarmedH.trans X.warmed hW', X.limits, X.bytes, X.same.trans (hsame.setVm s.vm)⟩,
      ⟨g, mk, s₂, L, E, ce, rfl, rfl, hx, hce, hcv, hcl, rfl, hL, rfl, rfl⟩, ?_⟩
    show Steps p.tables e below _ (((({ U with heap := s₂.heap, slotsUsed := s₂.slotsUsed } : State).setVm s₂.vm).setTop g).pushFrame (.throwing q))
    rw [← hs₂]
    exact hsteps
end Payer
section Calls
variable {p : Program} {l : Launch} {e : Env} {R : Room} {s : State} {m : MethodId} {args : Array Value} {below : List Frame} {meth : Method} {c : Code} {T : State} {locs : List Loc} {cells slots : Nat}
theorem vx_callV (X : Stand p l e R s m args below meth c T locs cells slots) (hexec : p.tables.exec = Jvm.exec) {own C : String} {index : Nat} {y : MethodName} {bytes : ByteArray} {maxL : Nat} {ret : Option FieldType}
    (hown : s.vm.findClass own = some m.cls) (hlink : (Cond.methodLink own index y).before args s = true) (hinst : (Cond.instanceMethod y).before args s = true) (hsel : (Cond.selects C y y).before args s = true)
    (hcode : (Cond.code y bytes maxL ret).before args s = true) (hy : y.cls ≠ "java/lang/invoke/MethodHandle" ∧ y.cls ≠ "java/lang/invoke/VarHandle")
    {W9 : Nat} {Pre : Pt → Array Value → Prop} {Post : Pt → Array Value → Option Value → Pt → Prop} {PostX : Pt → Array Value → Addr → Pt → Prop} (hK : vx_Back l R p e below s args y 3 W9 Pre Post PostX)
    {b : Addr} {cellB : Cell} (hcell : T.heap[b]? = some cellB) (hobj : cellB.vm.isStatics = false) (hcls : s.vm.findClass C = some cellB.cls)
    {g : JFrame} (hg : g.method = m) (hsize : g.locals.size = c.maxLocals) {argsL rest : List Value} (hlen : ∀ sig, parseMethodDescriptor y.desc = some sig → argsL.length = sig.parameters.length)
    (hstack : g.stack = argsL.reverse ++ .ref b :: rest) (hW : 2 * g.monitorRoom + (rest.map fun v => v.category).sum ≤ W9) (hdg : decode c.code g.pc = .ok (.invokevirtual index, 3))
    (hpre : ∀ vm₁, s.WarmedH vm₁ → Pre ⟨T.setVm vm₁, locs, cells, slots⟩ (Value.ref b :: argsL).toArray) :
    (∃ (v : Option Value) (vm₁ : Vm) (B : Pt), s.WarmedH vm₁ ∧ Stand p l e R s m args below meth c B.U B.locs B.cells B.slots ∧ Post ⟨T.setVm vm₁, locs, cells, slots⟩ (Value.ref b :: argsL).toArray v B ∧
      ∀ target, Steps p.tables e below (B.U.setTop { g with pc := g.pc + 3, stack := v.toList ++ rest }) target → Steps p.tables e below (T.setTop g) target) ∨
    (∃ (q : Addr) (vm₁ : Vm) (B : Pt), s.WarmedH vm₁ ∧ Stand p l e R s m args below meth c B.U B.locs B.cells B.slots ∧ PostX ⟨T.setVm vm₁, locs, cells, slots⟩ (Value.ref b :: argsL).toArray q B ∧
      Steps p.tables e below (T.setTop g) ((B.U.setTop { g with stack := rest }).pushFrame (.throwing q))) := by
  obtain ⟨mk, methM, hnamed, hmethM, hstM, habM⟩ := Cond.instanceMethod_spec hinst
  obtain ⟨methM', cM, hmethM', -, -, -, -, -, -, hsigM⟩ := Cond.code_spec hnamed hcode
  cases hmethM.symm.trans hmethM'
  obtain ⟨c2, r2, m2, q1, q2, q3, q4, kP, hkP, hkPi⟩ := Cond.selects_spec hsel
  cases hcls.symm.trans q1
  cases (State.methodFound?_of_named hnamed hy).symm.trans q2
  cases hnamed.symm.trans q3
  have hselP : selectMethod e.platform s.vm cellB.cls mk = .method mk := by rw [Launch.admits_selectMethod X.admits]; exact q4
  obtain ⟨vm₁, X₁, hstep₁⟩ := X.invokevirtual hexec hown hlink hnamed hmethM hstM hkP hkPi hy (a := b) (cell := cellB) hcell
    (fun z h => by rw [h] at hobj; cases hobj) hselP hmethM habM hkP hkPi (g := g) hg (argsL := argsL) (rest := rest) (hlen _ hsigM) hstack hdg
  rcases hK m meth c ⟨T.setVm vm₁, locs, cells, slots⟩ { g with stack := rest } (.invokevirtual index) mk (Value.ref b :: argsL).toArray X₁ hg hsize hdg hW (X₁.named hnamed) (hpre vm₁ X₁.warmed) with ⟨v, B, X', hpost, hsteps⟩ | ⟨q, B, X', hpost, hsteps⟩
  · exact Or.inl ⟨v, vm₁, B, X₁.warmed, X', hpost, fun target h => hstep₁ _ fun acts => by rw [doInvoke_state]; exact hsteps.trans h⟩
  · exact Or.inr ⟨q, vm₁, B, X₁.warmed, X', hpost, hstep₁ _ fun acts => by rw [doInvoke_state]; exact hsteps⟩
theorem vx_callS (X : Stand p l e R s m args below meth c T locs cells slots) (hexec : p.tables.exec = Jvm.exec) {own : String} {index : Nat} {y : MethodName} {bytes : ByteArray} {maxL : Nat} {ret : Option FieldType}
    (hown : s.vm.findClass own = some m.cls) (hlink : (Cond.methodLink own index y).before args s = true) (hstat : (Cond.static y).before args s = true) (hinit : (Cond.initialized y.cls).before args s = true)
    (hcode : (Cond.code y bytes maxL ret).before args s = true) (hy : y.cls ≠ "java/lang/invoke/MethodHandle" ∧ y.cls ≠ "java/lang/invoke/VarHandle")
    {W9 : Nat} {Pre : Pt → Array Value → Prop} {Post : Pt → Array Value → Option Value → Pt → Prop} {PostX : Pt → Array Value → Addr → Pt → Prop} (hK : vx_Back l R p e below s args y 3 W9 Pre Post PostX)
    {g : JFrame} (hg : g.method = m) (hsize : g.locals.size = c.maxLocals) {argsL rest : List Value} (hlen : ∀ sig, parseMethodDescriptor y.desc = some sig → argsL.length = sig.parameters.length)
    (hstack : g.stack = argsL.reverse ++ rest) (hW : 2 * g.monitorRoom + (rest.map fun v => v.category).sum ≤ W9) (hdg : decode c.code g.pc = .ok (.invokestatic index, 3))
    (hpre : ∀ vm₁, s.WarmedH vm₁ → Pre ⟨T.setVm vm₁, locs, cells, slots⟩ argsL.toArray) :
    (∃ (v : Option Value) (vm₁ : Vm) (B : Pt), s.WarmedH vm₁ ∧ Stand p l e R s m args below meth c B.U B.locs B.cells B.slots ∧ Post ⟨T.setVm vm₁, locs, cells, slots⟩ argsL.toArray v B ∧
      ∀ target, Steps p.tables e below (B.U.setTop { g with pc := g.pc + 3, stack := v.toList ++ rest }) target → Steps p.tables e below (T.setTop g) target) ∨
    (∃ (q : Addr) (vm₁ : Vm) (B : Pt), s.WarmedH vm₁ ∧ Stand p l e R s m args below meth c B.U B.locs B.cells B.slots ∧ PostX ⟨T.setVm vm₁, locs, cells, slots⟩ argsL.toArray q B ∧
      Steps p.tables e below (T.setTop g) ((B.U.setTop { g with stack := rest }).pushFrame (.throwing q))) := by
  obtain ⟨mk, hnamed⟩ := Cond.code_named hcode
  obtain ⟨methM, cM, hmethM, -, -, -, -, -, -, hsigM⟩ := Cond.code_spec hnamed hcode
  have hstatic : methM.isStatic = true := Cond.static_spec hnamed hmethM hstat
  obtain ⟨kP, hkP, -⟩ := className_of_methodNamed hnamed
  have hinitP : kP.init = .initialized := Cond.initialized_spec (findClass_of_methodNamed hnamed) hkP hinit
  obtain ⟨vm₁, X₁, hstep₁⟩ := X.invokestatic hexec hown hlink hnamed hmethM hstatic hkP hinitP hy (g := g) hg (argsL := argsL) (rest := rest) (hlen _ hsigM) hstack hdg
  rcases hK m meth c ⟨T.setVm vm₁, locs, cells, slots⟩ { g with stack := rest } (.invokestatic index) mk argsL.toArray X₁ hg hsize hdg hW (X₁.named hnamed) (hpre vm₁ X₁.warmed) with ⟨v, B, X', hpost, hsteps⟩ | ⟨q, B, X', hpost, hsteps⟩
  · exact Or.inl ⟨v, vm₁, B, X₁.warmed, X', hpost, fun target h => hstep₁ _ fun acts => by rw [doInvoke_state]; exact hsteps.trans h⟩
  · exact Or.inr ⟨q, vm₁, B, X₁.warmed, X', hpost, hstep₁ _ fun acts => by rw [doInvoke_state]; exact hsteps⟩
end Calls
theorem vx_cls {s : State} {T : State} {vm₁ : Vm} {E : String} {k : ClassId} (hW : s.WarmedH vm₁) (h : (T.setVm vm₁).vm.findClass E = some k) : s.vm.findClass E = some k := by
  have h1 : vm₁.findClass E = some k := h
  rw [hW.alike.findClass] at h1
  exact h1
/-- the method's frame g, with q thrown over it -/
def vx_W (p : Program) (l : Launch) (e : Env) (R : Room) (s : State) (m : MethodId) (args : Array Value) (below : List Frame) (meth : Method) (c : Code) (H : Heap) (locs : List Loc) (cells slots : Nat) (Q : State → Prop) (g : JFrame) (q : Addr) : Prop :=
  ∀ T : State, T.heap = H → Stand p l e R s m args below meth c T locs cells slots → ∃ t, Steps p.tables e below ((T.setTop g).pushFrame (.throwing q)) t ∧ Q t
def vx_Run (p : Program) (l : Launch) (e : Env) (R : Room) (s : State) (m : MethodId) (args : Array Value) (below : List Frame) (meth : Method) (c : Code) (H : Heap) (locs : List Loc) (cells slots mc ms : Nat) (g : JFrame) (rest : List Value) (Qa : State → Outcome → State → Prop) (XC : String → State → State → Prop) (free : Addr → Prop) : Prop :=
  ∀ T : State, T.heap = H → Stand p l e R s m args below meth c T locs cells slots →
    (∃ (v : Option Value) (st₀ t T' : State) (L : List Loc), st₀.heap = H ∧ Stand p l e R s m args below meth c T' (locs ++ L) (cells + mc) (slots + ms) ∧ (∀ q ∈ L, free q.base) ∧ T'.heap = t.heap ∧ T'.vm = t.vm ∧ Qa st₀ (.returned v) t ∧
      Goes p e below T g T' { g with pc := g.pc + 3, stack := v.toList ++ rest }) ∨
    (∃ (q : Addr) (st₀ t T' : State) (L : List Loc) (E : String) (ce : Cell), st₀.heap = H ∧ Stand p l e R s m args below meth c T' (locs ++ L) (cells + mc) (slots + ms) ∧ (∀ z ∈ L, free z.base) ∧ T'.heap = t.heap ∧ T'.vm = t.vm ∧ XC E st₀ t ∧ t.heap[q]? = some ce ∧ ce.vm = .none ∧ s.vm.findClass E = some ce.cls ∧
      Steps p.tables e below (T.setTop g) ((T'.setTop { g with stack := rest }).pushFrame (.throwing q)))
def vx_X {S : Type} (px : S → Prop) (B : String → S → State → Prop) (A : Nat → Prop) : String → State → State → Prop := fun E st t => ∃ u : S, px u ∧ B E u t ∧ va_F A st t
section Runs
variable {p : Program} {l : Launch} {e : Env} {R : Room} {s : State} {m : MethodId} {args : Array Value} {below : List Frame} {meth : Method} {c : Code} {H : Heap} {locs : List Loc} {cells slots : Nat}
variable {y : MethodName} {bytes cc : ByteArray} {maxL nL mc ms n index : Nat} {ret : Option FieldType} {ws : List Cond} {rm : Room} {Pc : Array Value → State → Prop} {Qc : Array Value → State → Outcome → State → Prop} {XC : String → State → State → Prop} {free : Addr → Prop} {Ts : List Cond} {own C : String} {b : Addr} {As rest : List Value} {g : JFrame}
theorem vx_callBack (cb : CallB R s args own index y bytes maxL ret ws rm mc ms n) (hM : vx_Met l y ws rm Pc Qc XC mc ms free) (hbl : FrameBlind Pc) : vx_Back l R p e below s args y 3 8 (PreOf R mc ms Pc) (PostOf Qc mc ms free) (vx_Post XC mc ms free) := by
  obtain ⟨hrc, hrs, hfr, hlo, hws, hcw, -, hini, -⟩ := cb
  exact vx_back (bytes := bytes) (maxL := maxL) (ret := ret) hM hbl hrc hrs hfr hlo hws hcw (fun a' U hW => word_at hW (Or.inl (by first | rfl | simp [Cond.onTables, Cond.keeps, Cond.steady])) hini)
theorem vx_runV (S : CallFix p m c cc nL s args Ts own) (hM : vx_Met l y ws rm Pc Qc XC mc ms free) (cw : CallW R s args own C index y bytes maxL ret ws rm mc ms n) (hp : PreV s H C b Pc As)
    (hg : g.method = m) (hn : As.length = n) (hsize : g.locals.size = nL) (hstack : g.stack = As.reverse ++ .ref b :: rest) (hW : 2 * g.monitorRoom + (rest.map fun v => v.category).sum ≤ 8) (hdg : decode cc g.pc = .ok (.invokevirtual index, 3)) (hf : cells + mc ≤ R.cells ∧ slots + ms ≤ R.slots) :
    vx_Run p l e R s m args below meth c H locs cells slots mc ms g rest (Qc (Value.ref b :: As).toArray) XC free := by
  have hK : vx_Back l R p e below s args y 3 8 (PreOf R mc ms Pc) (PostOf Qc mc ms free) (vx_Post XC mc ms free) := vx_callBack cw.1 hM hp.1
  obtain ⟨⟨-, -, -, -, -, -, hcode, -, hy, hlen, hl⟩, hin, hse⟩ := cw
  obtain ⟨hx, hb, hml, ho, -⟩ := S
  obtain ⟨-, ⟨cellB, hcB, hoB, hclB⟩, hPc⟩ := hp
  intro T hT X
  rcases vx_callV X hx (C := C) (bytes := bytes) (maxL := maxL) (ret := ret) ho hl hin hse hcode hy hK (by rw [hT]; exact hcB) hoB hclB hg (hsize.trans hml.symm) (argsL := As) (rest := rest) (fun sig h => hn.trans (hlen sig h)) hstack hW (by rw [hb]; exact hdg)
    (fun vm₁ hW₁ => ⟨hf.1, hf.2, hPc (T.setVm vm₁) hT hW₁⟩) with ⟨v, vm₁, ⟨U', l2, c2, s2⟩, hW₁, X', ⟨g', mk, t, L, e1, e2, hq, h1, hL, h2, h3⟩, st⟩ | ⟨q, vm₁, ⟨U', l2, c2, s2⟩, hW₁, X', ⟨g', mk, t, L, E, ce, e1, e2, hq, hce, hcv, hcl, h1, hL, h2, h3⟩, st⟩
  · dsimp only [Pt.U, Pt.locs, Pt.cells, Pt.slots] at X' e1 e2 h1 h2 h3 st
    subst h1; subst h2; subst h3
    exact Or.inl ⟨v, (T.setVm vm₁).calling g' mk (Value.ref b :: As).toArray, t, U', L, hT, X', hL, e1, e2, hq, st⟩
  · dsimp only [Pt.U, Pt.locs, Pt.cells, Pt.slots] at X' e1 e2 h1 h2 h3 st hcl
    subst h1; subst h2; subst h3
    exact Or.inr ⟨q, (T.setVm vm₁).calling g' mk (Value.ref b :: As).toArray, t, U', L, E, ce, hT, X', hL, e1, e2, hq, hce, hcv, vx_cls hW₁ hcl, st⟩
theorem vx_runS (S : CallFix p m c cc nL s args Ts own) (hM : vx_Met l y ws rm Pc Qc XC mc ms free) (cw : CallB R s args own index y bytes maxL ret ws rm mc ms n ∧ (Cond.static y).before args s = true) (hp : PreS s H Pc As)
    (hg : g.method = m) (hn : As.length = n) (hsize : g.locals.size = nL) (hstack : g.stack = As.reverse ++ rest) (hW : 2 * g.monitorRoom + (rest.map fun v => v.category).sum ≤ 8) (hdg : decode cc g.pc = .ok (.invokestatic index, 3)) (hf : cells + mc ≤ R.cells ∧ slots + ms ≤ R.slots) :
    vx_Run p l e R s m args below meth c H locs cells slots mc ms g rest (Qc As.toArray) XC free := by
  have hK : vx_Back l R p e below s args y 3 8 (PreOf R mc ms Pc) (PostOf Qc mc ms free) (vx_Post XC mc ms free) := vx_callBack cw.1 hM hp.1
  obtain ⟨⟨-, -, -, -, -, -, hcode, hini, hy, hlen, hl⟩, hstt⟩ := cw
  obtain ⟨hx, hb, hml, ho, -⟩ := S
  intro T hT X
  rcases vx_callS X hx (bytes := bytes) (maxL := maxL) (ret := ret) ho hl hstt hini hcode hy hK hg (hsize.trans hml.symm) (argsL := As) (rest := rest) (fun sig h => hn.trans (hlen sig h)) hstack hW (by rw [hb]; exact hdg)
    (fun vm₁ hW₁ => ⟨hf.1, hf.2, hp.2 (T.setVm vm₁) hT hW₁⟩) with ⟨v, vm₁, ⟨U', l2, c2, s2⟩, hW₁, X', ⟨g', mk, t, L, e1, e2, hq, h1, hL, h2, h3⟩, st⟩ | ⟨q, vm₁, ⟨U', l2, c2, s2⟩, hW₁, X', ⟨g', mk, t, L, E, ce, e1, e2, hq, hce, hcv, hcl, h1, hL, h2, h3⟩, st⟩
  · dsimp only [Pt.U, Pt.locs, Pt.cells, Pt.slots] at X' e1 e2 h1 h2 h3 st
    subst h1; subst h2; subst h3
    exact Or.inl ⟨v, (T.setVm vm₁).calling g' mk As.toArray, t, U', L, hT, X', hL, e1, e2, hq, st⟩
  · dsimp only [Pt.U, Pt.locs, Pt.cells, Pt.slots] at X' e1 e2 h1 h2 h3 st hcl
    subst h1; subst h2; subst h3
    exact Or.inr ⟨q, (T.setVm vm₁).calling g' mk As.toArray, t, U', L, E, ce, hT, X', hL, e1, e2, hq, hce, hcv, vx_cls hW₁ hcl, st⟩
end Runs
section Rows
variable {p : Program} {l : Launch} {e : Env} {R : Room} {s : State} {m : MethodId} {args : Array Value} {below : List Frame} {meth : Method} {c : Code} {H : Heap} {locs : List Loc} {cells slots : Nat} {Q : State → Prop}
variable {mc ms : Nat} {free : Addr → Prop} {A0 A1 : Nat → Prop} {H0 : Heap} {a : Array Value} {pc : Nat} {ls : Array Slot} {st0 rest : List Value}
theorem vx_keep {st₀ t T' : State} {L : List Loc} (h0 : st₀.heap = H) (e1 : T'.heap = t.heap) (hS : va_S A0 H0 H locs) (hA : ∀ q, q < H.size → A1 q → A0 q) (hf : ∀ q, free q → A0 q) (hL : ∀ q ∈ L, free q.base) (hF : va_F A1 st₀ t) :
    H.size ≤ T'.heap.size ∧ (∀ q : Nat, q < H.size → ¬ A1 q → T'.heap[q]? = H[q]?) ∧ va_S A0 H0 T'.heap (locs ++ L) := by
  obtain ⟨hz, hk⟩ := hF
  rw [h0] at hz hk
  exact ⟨by rw [e1]; exact hz, fun q h1 h2 => by rw [e1]; exact hk q h1 h2,
    ⟨Nat.le_trans hS.1 (by rw [e1]; exact hz), fun q h1 h2 => by rw [e1, hk q (Nat.lt_of_lt_of_le h1 hS.1) (fun z => h2 (hA q (Nat.lt_of_lt_of_le h1 hS.1) z))]; exact hS.2.1 q h1 h2, fun q hq => by
      rcases List.mem_append.mp hq with h | h
      · exact hS.2.2 q h
      · exact hf _ (hL q h)⟩⟩
theorem vx_calli {S SX : Type} {post : Int32 → S → Prop} {px : SX → Prop} {B : S → State → Prop} {BX : String → SX → State → Prop} {AX : Nat → Prop} (hr : vx_Run p l e R s m args below meth c H locs cells slots mc ms (F0 m pc ls st0) rest (va_Qi post B A1 a) (vx_X px BX AX) free) (hS : va_S A0 H0 H locs) (hA : ∀ q, q < H.size → A1 q → A0 q) (hf : ∀ q, free q → A0 q) (hAX : ∀ q, q < H.size → AX q → A0 q)
    (kx : ∀ (E : String) (ce : Cell) (q9 : Addr) (u : SX) (t : State) (H1 : Heap) (locs1 : List Loc), t.heap = H1 → s.vm.Alike t.vm → px u → BX E u t → H.size ≤ H1.size → (∀ q : Nat, q < H.size → ¬ AX q → H1[q]? = H[q]?) → va_S A0 H0 H1 locs1 → H1[q9]? = some ce → ce.vm = .none → s.vm.findClass E = some ce.cls → vx_W p l e R s m args below meth c H1 locs1 (cells + mc) (slots + ms) Q (F0 m pc ls rest) q9)
    (kk : ∀ (r : Int32) (u : S) (t : State) (H1 : Heap) (locs1 : List Loc), t.heap = H1 → s.vm.Alike t.vm → post r u → B u t → H.size ≤ H1.size → (∀ q : Nat, q < H.size → ¬ A1 q → H1[q]? = H[q]?) → va_S A0 H0 H1 locs1 → W p l e R s m args below meth c H1 locs1 (cells + mc) (slots + ms) Q (F0 m (pc + 3) ls (.int r :: rest))) : W p l e R s m args below meth c H locs cells slots Q (F0 m pc ls st0) := by
  intro T hT X
  rcases hr T hT X with ⟨v, st₀, t, T', L, h0, X', hL, e1, e2, ⟨⟨r, u, hv, hp, hb⟩, hF⟩, st⟩ | ⟨q, st₀, t, T', L, E, ce, h0, X', hL, e1, e2, ⟨u, hp, hb, hF⟩, hce, hcv, hcl, st⟩
  · cases hv
    obtain ⟨k1, k2, k3⟩ := vx_keep h0 e1 hS hA hf hL hF
    obtain ⟨t2, a1, b1⟩ := kk r u t T'.heap (locs ++ L) e1.symm (by rw [← e2]; exact X'.warmed.alike) hp hb k1 k2 k3 T' rfl X'
    exact ⟨t2, st t2 a1, b1⟩
  · obtain ⟨k1, k2, k3⟩ := vx_keep h0 e1 hS hAX hf hL hF
    obtain ⟨t2, a1, b1⟩ := kx E ce q u t T'.heap (locs ++ L) e1.symm (by rw [← e2]; exact X'.warmed.alike) hp hb k1 k2 k3 (by rw [e1]; exact hce) hcv hcl T' rfl X'
    exact ⟨t2, st.trans a1, b1⟩
theorem vx_calll {S SX : Type} {post : Int64 → S → Prop} {px : SX → Prop} {B : S → State → Prop} {BX : String → SX → State → Prop} {AX : Nat → Prop} (hr : vx_Run p l e R s m args below meth c H locs cells slots mc ms (F0 m pc ls st0) rest (va_Ql post B A1 a) (vx_X px BX AX) free) (hS : va_S A0 H0 H locs) (hA : ∀ q, q < H.size → A1 q → A0 q) (hf : ∀ q, free q → A0 q) (hAX : ∀ q, q < H.size → AX q → A0 q)
    (kx : ∀ (E : String) (ce : Cell) (q9 : Addr) (u : SX) (t : State) (H1 : Heap) (locs1 : List Loc), t.heap = H1 → s.vm.Alike t.vm → px u → BX E u t → H.size ≤ H1.size → (∀ q : Nat, q < H.size → ¬ AX q → H1[q]? = H[q]?) → va_S A0 H0 H1 locs1 → H1[q9]? = some ce → ce.vm = .none → s.vm.findClass E = some ce.cls → vx_W p l e R s m args below meth c H1 locs1 (cells + mc) (slots + ms) Q (F0 m pc ls rest) q9)
    (kk : ∀ (r : Int64) (u : S) (t : State) (H1 : Heap) (locs1 : List Loc), t.heap = H1 → s.vm.Alike t.vm → post r u → B u t → H.size ≤ H1.size → (∀ q : Nat, q < H.size → ¬ A1 q → H1[q]? = H[q]?) → va_S A0 H0 H1 locs1 → W p l e R s m args below meth c H1 locs1 (cells + mc) (slots + ms) Q (F0 m (pc + 3) ls (.long r :: rest))) : W p l e R s m args below meth c H locs cells slots Q (F0 m pc ls st0) := by
  intro T hT X
  rcases hr T hT X with ⟨v, st₀, t, T', L, h0, X', hL, e1, e2, ⟨⟨r, u, hv, hp, hb⟩, hF⟩, st⟩ | ⟨q, st₀, t, T', L, E, ce, h0, X', hL, e1, e2, ⟨u, hp, hb, hF⟩, hce, hcv, hcl, st⟩
  · cases hv
    obtain ⟨k1, k2, k3⟩ := vx_keep h0 e1 hS hA hf hL hF
    obtain ⟨t2, a1, b1⟩ := kk r u t T'.heap (locs ++ L) e1.symm (by rw [← e2]; exact X'.warmed.alike) hp hb k1 k2 k3 T' rfl X'
    exact ⟨t2, st t2 a1, b1⟩
  · obtain ⟨k1, k2, k3⟩ := vx_keep h0 e1 hS hAX hf hL hF
    obtain ⟨t2, a1, b1⟩ := kx E ce q u t T'.heap (locs ++ L) e1.symm (by rw [← e2]; exact X'.warmed.alike) hp hb k1 k2 k3 (by rw [e1]; exact hce) hcv hcl T' rfl X'
    exact ⟨t2, st.trans a1, b1⟩
theorem vx_callf {S SX : Type} {post : UInt32 → S → Prop} {px : SX → Prop} {B : S → State → Prop} {BX : String → SX → State → Prop} {AX : Nat → Prop} (hr : vx_Run p l e R s m args below meth c H locs cells slots mc ms (F0 m pc ls st0) rest (va_Qf post B A1 a) (vx_X px BX AX) free) (hS : va_S A0 H0 H locs) (hA : ∀ q, q < H.size → A1 q → A0 q) (hf : ∀ q, free q → A0 q) (hAX : ∀ q, q < H.size → AX q → A0 q)
    (kx : ∀ (E : String) (ce : Cell) (q9 : Addr) (u : SX) (t : State) (H1 : Heap) (locs1 : List Loc), t.heap = H1 → s.vm.Alike t.vm → px u → BX E u t → H.size ≤ H1.size → (∀ q : Nat, q < H.size → ¬ AX q → H1[q]? = H[q]?) → va_S A0 H0 H1 locs1 → H1[q9]? = some ce → ce.vm = .none → s.vm.findClass E = some ce.cls → vx_W p l e R s m args below meth c H1 locs1 (cells + mc) (slots + ms) Q (F0 m pc ls rest) q9)
    (kk : ∀ (r : UInt32) (u : S) (t : State) (H1 : Heap) (locs1 : List Loc), t.heap = H1 → s.vm.Alike t.vm → post r u → B u t → H.size ≤ H1.size → (∀ q : Nat, q < H.size → ¬ A1 q → H1[q]? = H[q]?) → va_S A0 H0 H1 locs1 → W p l e R s m args below meth c H1 locs1 (cells + mc) (slots + ms) Q (F0 m (pc + 3) ls (.float r :: rest))) : W p l e R s m args below meth c H locs cells slots Q (F0 m pc ls st0) := by
  intro T hT X
  rcases hr T hT X with ⟨v, st₀, t, T', L, h0, X', hL, e1, e2, ⟨⟨r, u, hv, hp, hb⟩, hF⟩, st⟩ | ⟨q, st₀, t, T', L, E, ce, h0, X', hL, e1, e2, ⟨u, hp, hb, hF⟩, hce, hcv, hcl, st⟩
  · cases hv
    obtain ⟨k1, k2, k3⟩ := vx_keep h0 e1 hS hA hf hL hF
    obtain ⟨t2, a1, b1⟩ := kk r u t T'.heap (locs ++ L) e1.symm (by rw [← e2]; exact X'.warmed.alike) hp hb k1 k2 k3 T' rfl X'
    exact ⟨t2, st t2 a1, b1⟩
  · obtain ⟨k1, k2, k3⟩ := vx_keep h0 e1 hS hAX hf hL hF
    obtain ⟨t2, a1, b1⟩ := kx E ce q u t T'.heap (locs ++ L) e1.symm (by rw [← e2]; exact X'.warmed.alike) hp hb k1 k2 k3 (by rw [e1]; exact hce) hcv hcl T' rfl X'
    exact ⟨t2, st.trans a1, b1⟩
theorem vx_calld {S SX : Type} {post : UInt64 → S → Prop} {px : SX → Prop} {B : S → State → Prop} {BX : String → SX → State → Prop} {AX : Nat → Prop} (hr : vx_Run p l e R s m args below meth c H locs cells slots mc ms (F0 m pc ls st0) rest (va_Qd post B A1 a) (vx_X px BX AX) free) (hS : va_S A0 H0 H locs) (hA : ∀ q, q < H.size → A1 q → A0 q) (hf : ∀ q, free q → A0 q) (hAX : ∀ q, q < H.size → AX q → A0 q)
    (kx : ∀ (E : String) (ce : Cell) (q9 : Addr) (u : SX) (t : State) (H1 : Heap) (locs1 : List Loc), t.heap = H1 → s.vm.Alike t.vm → px u → BX E u t → H.size ≤ H1.size → (∀ q : Nat, q < H.size → ¬ AX q → H1[q]? = H[q]?) → va_S A0 H0 H1 locs1 → H1[q9]? = some ce → ce.vm = .none → s.vm.findClass E = some ce.cls → vx_W p l e R s m args below meth c H1 locs1 (cells + mc) (slots + ms) Q (F0 m pc ls rest) q9)
    (kk : ∀ (r : UInt64) (u : S) (t : State) (H1 : Heap) (locs1 : List Loc), t.heap = H1 → s.vm.Alike t.vm → post r u → B u t → H.size ≤ H1.size → (∀ q : Nat, q < H.size → ¬ A1 q → H1[q]? = H[q]?) → va_S A0 H0 H1 locs1 → W p l e R s m args below meth c H1 locs1 (cells + mc) (slots + ms) Q (F0 m (pc + 3) ls (.double r :: rest))) : W p l e R s m args below meth c H locs cells slots Q (F0 m pc ls st0) := by
  intro T hT X
  rcases hr T hT X with ⟨v, st₀, t, T', L, h0, X', hL, e1, e2, ⟨⟨r, u, hv, hp, hb⟩, hF⟩, st⟩ | ⟨q, st₀, t, T', L, E, ce, h0, X', hL, e1, e2, ⟨u, hp, hb, hF⟩, hce, hcv, hcl, st⟩
  · cases hv
    obtain ⟨k1, k2, k3⟩ := vx_keep h0 e1 hS hA hf hL hF
    obtain ⟨t2, a1, b1⟩ := kk r u t T'.heap (locs ++ L) e1.symm (by rw [← e2]; exact X'.warmed.alike) hp hb k1 k2 k3 T' rfl X'
    exact ⟨t2, st t2 a1, b1⟩
  · obtain ⟨k1, k2, k3⟩ := vx_keep h0 e1 hS hAX hf hL hF
    obtain ⟨t2, a1, b1⟩ := kx E ce q u t T'.heap (locs ++ L) e1.symm (by rw [← e2]; exact X'.warmed.alike) hp hb k1 k2 k3 (by rw [e1]; exact hce) hcv hcl T' rfl X'
    exact ⟨t2, st.trans a1, b1⟩
theorem vx_callv {S SX : Type} {post : S → Prop} {px : SX → Prop} {B : S → State → Prop} {BX : String → SX → State → Prop} {AX : Nat → Prop} (hr : vx_Run p l e R s m args below meth c H locs cells slots mc ms (F0 m pc ls st0) rest (va_Qv post B A1 a) (vx_X px BX AX) free) (hS : va_S A0 H0 H locs) (hA : ∀ q, q < H.size → A1 q → A0 q) (hf : ∀ q, free q → A0 q) (hAX : ∀ q, q < H.size → AX q → A0 q)
    (kx : ∀ (E : String) (ce : Cell) (q9 : Addr) (u : SX) (t : State) (H1 : Heap) (locs1 : List Loc), t.heap = H1 → s.vm.Alike t.vm → px u → BX E u t → H.size ≤ H1.size → (∀ q : Nat, q < H.size → ¬ AX q → H1[q]? = H[q]?) → va_S A0 H0 H1 locs1 → H1[q9]? = some ce → ce.vm = .none → s.vm.findClass E = some ce.cls → vx_W p l e R s m args below meth c H1 locs1 (cells + mc) (slots + ms) Q (F0 m pc ls rest) q9)
    (kk : ∀ (u : S) (t : State) (H1 : Heap) (locs1 : List Loc), t.heap = H1 → s.vm.Alike t.vm → post u → B u t → H.size ≤ H1.size → (∀ q : Nat, q < H.size → ¬ A1 q → H1[q]? = H[q]?) → va_S A0 H0 H1 locs1 → W p l e R s m args below meth c H1 locs1 (cells + mc) (slots + ms) Q (F0 m (pc + 3) ls (rest))) : W p l e R s m args below meth c H locs cells slots Q (F0 m pc ls st0) := by
  intro T hT X
  rcases hr T hT X with ⟨v, st₀, t, T', L, h0, X', hL, e1, e2, ⟨⟨u, hv, hp, hb⟩, hF⟩, st⟩ | ⟨q, st₀, t, T', L, E, ce, h0, X', hL, e1, e2, ⟨u, hp, hb, hF⟩, hce, hcv, hcl, st⟩
  · cases hv
    obtain ⟨k1, k2, k3⟩ := vx_keep h0 e1 hS hA hf hL hF
    obtain ⟨t2, a1, b1⟩ := kk u t T'.heap (locs ++ L) e1.symm (by rw [← e2]; exact X'.warmed.alike) hp hb k1 k2 k3 T' rfl X'
    exact ⟨t2, st t2 a1, b1⟩
  · obtain ⟨k1, k2, k3⟩ := vx_keep h0 e1 hS hAX hf hL hF
    obtain ⟨t2, a1, b1⟩ := kx E ce q u t T'.heap (locs ++ L) e1.symm (by rw [← e2]; exact X'.warmed.alike) hp hb k1 k2 k3 (by rw [e1]; exact hce) hcv hcl T' rfl X'
    exact ⟨t2, st.trans a1, b1⟩
/-- caught by the row x of this method's table; the rows ahead don't take it -/
theorem vx_catch {own name : String} {E : String} {ce : Cell} {q : Addr} (hown : s.vm.findClass own = some m.cls) (pre : List ExceptionTableEntry) (x : ExceptionTableEntry) (suf : List ExceptionTableEntry) (hsplit : c.exceptionTable.toList = pre ++ x :: suf)
    (hpass : ∀ z ∈ pre, covers z pc = false ∨ (z.catchType ≠ 0 ∧ ∃ nm : String, (Cond.classLink own z.catchType nm).before args s = true ∧ va_Nc E nm s)) (hx : covers x pc = true) (h0 : x.catchType ≠ 0)
    (hlink : (Cond.classLink own x.catchType name).before args s = true) (hcast : (Cond.castable E name).before args s = true) (hcell : H[q]? = some ce) (hv : ce.vm = .none) (hcl : s.vm.findClass E = some ce.cls)
    (kk : W p l e R s m args below meth c H locs cells slots Q (F0 m x.handlerPc ls [.ref q])) : vx_W p l e R s m args below meth c H locs cells slots Q (F0 m pc ls rest) q := by
  intro T hT X
  have hpl : e.platform.magicAccessors = ({} : Platform).magicAccessors := by rw [X.admits.platform]
  obtain ⟨c3, c4, hc3, hc4, hasg⟩ := Cond.castable_spec hcast
  cases Option.some.inj (hc3.symm.trans hcl)
  obtain ⟨c5, hc5, hcl5⟩ := Cond.classLink_spec hown hlink e.platform hpl
  cases Option.some.inj (hc4.symm.trans hc5)
  obtain ⟨vm', X', st⟩ := X.thenCaughtThrough q (g := F0 m pc ls rest) rfl (Steps.refl _) (by rw [hT]; exact hcell) (by rw [hv]; rfl) (by obtain ⟨k9, h9, -⟩ := Vm.findClass_spec hcl; exact ⟨k9, h9⟩) pre x suf hsplit
    (fun z hz => by
      rcases hpass z hz with h | ⟨hz0, nm, hl1, hn1⟩
      · exact Or.inl h
      · obtain ⟨c6, hc6, hcl6⟩ := Cond.classLink_spec hown hl1 e.platform hpl
        obtain ⟨a8, b8, h1, h2, h3⟩ := hn1
        cases Option.some.inj (h1.symm.trans hcl)
        cases Option.some.inj (h2.symm.trans hc6)
        exact Or.inr ⟨hz0, _, hcl6, h3⟩) hx (Or.inr ⟨h0, c4, hcl5, hasg⟩)
  obtain ⟨t, a1, b1⟩ := kk (T.setVm vm') hT X'
  exact ⟨t, st.trans a1, b1⟩
end Rows
section Ends
variable {p : Program} {l : Launch} {e : Env} {R : Room} {s : State} {m : MethodId} {args : Array Value} {below : List Frame} {meth : Method} {c : Code} {H : Heap} {locs : List Loc} {cells slots : Nat} {Q : State → Prop}
variable {mc ms : Nat} {free : Addr → Prop} {A0 A1 : Nat → Prop} {H0 : Heap} {a : Array Value} {ls : Array Slot} {st0 rest : List Value}
variable {Qc : Array Value → State → Outcome → State → Prop} {XC : String → State → State → Prop}
/-- what a body that may throw owes at its end -/
def vx_MQ (below : List Frame) (Qc : Array Value → State → Outcome → State → Prop) (XC : String → State → State → Prop) (a : Array Value) (s : State) (mc ms : Nat) (free : Addr → Prop) : State → Prop := fun t =>
  ∃ o, t.status = .running ∧ Ended t below o ∧ vx_Q Qc XC mc ms free a s o t
theorem vx_ret {g : JFrame} {mc ms : Nat} (k : W p l e R s m args below meth c H locs cells slots (MQ below Qc args s mc ms free) g) : W p l e R s m args below meth c H locs cells slots (vx_MQ below Qc XC args s mc ms free) g := by
  intro T hT X
  obtain ⟨t, a1, o, b1, b2, b3, b4⟩ := k T hT X
  exact ⟨t, a1, o, b1, b2, Or.inl ⟨b3, b4⟩⟩
/-- not caught here: it goes on to the caller -/
theorem vx_widen {g : JFrame} {q : Addr} {k n : Nat} (h1 : cells ≤ k) (h2 : slots ≤ n) (kk : vx_W p l e R s m args below meth c H locs k n Q g q) : vx_W p l e R s m args below meth c H locs cells slots Q g q := fun T hT X => kk T hT (stand_widen X h1 h2)
theorem vx_out {pc : Nat} {E : String} {ce : Cell} {q : Addr} {mc ms : Nat} (hout : ∀ x ∈ c.exceptionTable.toList, covers x pc = false) (hlocks : meth.locks = false) (hcell : H[q]? = some ce) (hv : ce.vm = .none) (hcl : s.vm.findClass E = some ce.cls)
    (hx : ∀ t : State, t.heap = H → s.vm.Alike t.vm → XC E s t) (hf : ∀ z ∈ locs, free z.base) (hc : cells ≤ mc) (hs : slots ≤ ms) :
    vx_W p l e R s m args below meth c H locs cells slots (vx_MQ below Qc XC args s mc ms free) (F0 m pc ls rest) q := by
  intro T hT X
  obtain ⟨st1, hrun, hend, hW, hsm⟩ := X.leaveThrown q (g := F0 m pc ls rest) rfl rfl rfl hout hlocks
  have hcell9 : (T.setFrames (.throwing q :: below)).heap[q]? = some ce := by
    show T.heap[q]? = some ce
    rw [hT]; exact hcell
  exact ⟨_, st1, .threw q, hrun, hend, Or.inr ⟨q, rfl, E, ce, locs, hx _ hT hW.alike, hcell9, hv, hcl, hW, hsm.mono hc hs, hf⟩⟩
theorem vx_frame {U : State} {k n : Nat} (h : s.sameButNew ({ U with vm := s.vm } : State) locs k n) : s.heap.size ≤ U.heap.size ∧ ∀ q : Nat, q < s.heap.size → (∀ z ∈ locs, z.base ≠ q) → U.heap[q]? = s.heap[q]? := by
  obtain ⟨-, h2, -, -, -, h6⟩ := h
  refine ⟨h2, fun q hq hz => ?_⟩
  obtain ⟨c9, e1, e2, e3, e4⟩ := h6 q _ (Array.getElem?_eq_getElem hq)
  have hs : c9.slots = (s.heap[q]).slots := Array.ext_getElem? fun i => e4 i fun hm => hz _ hm rfl
  have h9 : c9 = s.heap[q] := by
    rw [hs] at e2
    exact e2
  have e5 : U.heap[q]? = some c9 := e1
  rw [e5, h9, Array.getElem?_eq_getElem hq]
/-- the words of a throw but the four that speak of the heap -/
def vx_no (w : Cond) : Bool := decide (w ≠ .isRef (.static Bundle.tN "UNASSIGNED_STACK" Bundle.steD)) && decide (w ≠ .isRef (.static Bundle.tN "SUPPRESSED_SENTINEL" Bundle.listD)) && decide (w ≠ .laysStatic Bundle.tN "UNASSIGNED_STACK" Bundle.steD) && decide (w ≠ .laysStatic Bundle.tN "SUPPRESSED_SENTINEL" Bundle.listD)
def vx_at0 (own : String) (ic : Nat) (X : String) (names : List String) : List Cond := (Bundle.ownAtoms0 own ic X names).filter vx_no
def vx_atS (own : String) (ic : Nat) (X : String) (names : List String) : List Cond := (Bundle.ownAtoms own ic X names).filter vx_no
/-- a word that the tables alone decide, or a good one -/
def vx_ot (w : Cond) : Bool := w.onTables || goodWord w
theorem vx_ot_at {args a' : Array Value} {s U : State} {w : Cond} (hW : s.WarmedH U.vm) (hvm : s.vm = U.vm) (hg : vx_ot w = true) (h : w.before args s = true) : w.before a' U = true := by
  simp only [vx_ot, Bool.or_eq_true] at hg
  rcases hg with hg | hg
  · exact va_tabs hg hvm h
  · exact word_at hW (good_of_word hg) h
/-- a list's words: the good ones out of the method's own list, the others by premises of their own -/
theorem vx_hat {args : Array Value} {s : State} {L B : List Cond} (h1 : ∀ w ∈ L.filter goodWord, w.before args s = true) (h2 : ∀ w ∈ L.filter (fun w => !goodWord w), w ∈ B) (h3 : ∀ w ∈ B, w.before args s = true) : ∀ w ∈ L, w.before args s = true := by
  intro w hw
  by_cases g : goodWord w = true
  · exact h1 w (List.mem_filter.mpr ⟨hw, g⟩)
  · refine h3 w (h2 w (List.mem_filter.mpr ⟨hw, ?_⟩))
    show (!goodWord w) = true
    cases hgw : goodWord w
    · rfl
    · exact absurd hgw g
theorem vx_c {args : Array Value} {s : State} {w : Cond} {B : List Cond} (h : w.before args s = true) (t : ∀ w ∈ B, w.before args s = true) : ∀ w' ∈ w :: B, w'.before args s = true := fun w' h' => (List.mem_cons.mp h').elim (fun e => by rw [e]; exact h) (t w')
theorem vx_n {args : Array Value} {s : State} : ∀ w ∈ ([] : List Cond), w.before args s = true := fun _ h => nomatch h
theorem vx_own {args : Array Value} {s : State} {L : List Cond} (h1 : ∀ w ∈ L.filter vx_no, w.before args s = true)
    (hU : (Cond.isRef (.static Bundle.tN "UNASSIGNED_STACK" Bundle.steD)).before args s = true) (hN : (Cond.isRef (.static Bundle.tN "SUPPRESSED_SENTINEL" Bundle.listD)).before args s = true)
    (lU : (Cond.laysStatic Bundle.tN "UNASSIGNED_STACK" Bundle.steD).before args s = true) (lN : (Cond.laysStatic Bundle.tN "SUPPRESSED_SENTINEL" Bundle.listD).before args s = true) : ∀ w ∈ L, w.before args s = true := by
  intro w hw
  by_cases e1 : w = .isRef (.static Bundle.tN "UNASSIGNED_STACK" Bundle.steD)
  · rw [e1]; exact hU
  · by_cases e2 : w = .isRef (.static Bundle.tN "SUPPRESSED_SENTINEL" Bundle.listD)
    · rw [e2]; exact hN
    · by_cases e3 : w = .laysStatic Bundle.tN "UNASSIGNED_STACK" Bundle.steD
      · rw [e3]; exact lU
      · by_cases e4 : w = .laysStatic Bundle.tN "SUPPRESSED_SENTINEL" Bundle.listD
        · rw [e4]; exact lN
        · exact h1 w (List.mem_filter.mpr ⟨hw, by unfold vx_no; rw [decide_eq_true e1, decide_eq_true e2, decide_eq_true e3, decide_eq_true e4]; rfl⟩)
/-- where a static field lies, its class's statics cell in H -/
def vx_L (C n d : String) (A : Nat → Prop) (U : State) (H : Heap) : Prop := ∃ (c : ClassId) (k : Class) (i : Nat) (f : Field) (a : Nat) (cell : Cell), U.vm.findClass C = some c ∧ U.fieldFound? C n d = some (c, k, i, f) ∧ f.isStatic = true ∧ k.statics = some a ∧ H[a]? = some cell ∧ cell.vm.isStatics = true ∧ cell.cls = c ∧ f.slot < cell.slots.size ∧ k.staticTypes[f.slot]? = some f.type ∧ ¬ A a
theorem vx_L.moved {C n d : String} {A : Nat → Prop} {u U : State} {H : Heap} (hvm : u.vm.Alike U.vm) (h : vx_L C n d A u H) : vx_L C n d A U H := by
  obtain ⟨c, k, i, f, a, cell, h1, h2, h3, h4, h5, h6, h7, h8, h9, h10⟩ := h
  obtain ⟨k', hi', he⟩ := State.fieldFound?_setVm hvm h2
  exact ⟨c, k', i, f, a, cell, by rw [hvm.findClass]; exact h1, hi', h3, by rw [he]; exact h4, h5, h6, h7, h8, by rw [he]; exact h9, h10⟩
theorem vx_L.kept {C n d : String} {A : Nat → Prop} {U : State} {H H1 : Heap} (h : vx_L C n d A U H) (hq : ∀ a : Nat, a < H.size → ¬ A a → H1[a]? = H[a]?) : vx_L C n d A U H1 := by
  obtain ⟨c, k, i, f, a, cell, h1, h2, h3, h4, h5, h6, h7, h8, h9, h10⟩ := h
  exact ⟨c, k, i, f, a, cell, h1, h2, h3, h4, by rw [hq a (Array.getElem?_eq_some_iff.mp h5).1 h10]; exact h5, h6, h7, h8, h9, h10⟩
theorem vx_L.narrow {C n d : String} {A B : Nat → Prop} {U : State} {H : Heap} (h : vx_L C n d A U H) (hAB : ∀ q, B q → A q) : vx_L C n d B U H := by
  obtain ⟨c, k, i, f, a, cell, h1, h2, h3, h4, h5, h6, h7, h8, h9, h10⟩ := h
  exact ⟨c, k, i, f, a, cell, h1, h2, h3, h4, h5, h6, h7, h8, h9, fun z => h10 (hAB _ z)⟩
theorem vx_L.word {C n d : String} {A : Nat → Prop} {s : State} {args : Array Value} (h : vx_L C n d A s s.heap) : (Cond.laysStatic C n d).before args s = true := by
  obtain ⟨c, k, i, f, a, cell, h1, h2, h3, h4, h5, h6, h7, h8, h9, -⟩ := h
  show (Cond.laysStatic C n d).holds args s none s [] = true
  exact Cond.laysStatic_of h1 h2 h3 h4 h5 h6 h7 h8 h9
/-- .. and what it holds: null or some reference -/
def vx_Zq (C n d : String) (A : Nat → Prop) (U : State) (H : Heap) : Prop := va_Zq C n d A U H ∧ vx_L C n d A U H
theorem vx_Zq.moved {C n d : String} {A : Nat → Prop} {u U : State} {H : Heap} (hvm : u.vm.Alike U.vm) (h : vx_Zq C n d A u H) : vx_Zq C n d A U H := ⟨va_Zq.moved hvm h.1, vx_L.moved hvm h.2⟩
theorem vx_Zq.kept {C n d : String} {A : Nat → Prop} {U : State} {H H1 : Heap} (h : vx_Zq C n d A U H) (hq : ∀ a : Nat, a < H.size → ¬ A a → H1[a]? = H[a]?) : vx_Zq C n d A U H1 := ⟨va_Zq.kept h.1 hq, vx_L.kept h.2 hq⟩
theorem vx_Zq.narrow {C n d : String} {A B : Nat → Prop} {U : State} {H : Heap} (h : vx_Zq C n d A U H) (hAB : ∀ q, B q → A q) : vx_Zq C n d B U H := ⟨va_Zq.narrow h.1 hAB, vx_L.narrow h.2 hAB⟩
theorem vx_Zqof {args : Array Value} {s : State} {C n d : String} {A : Nat → Prop} (hl : (Cond.laysStatic C n d).before args s = true) (hini : (Cond.initialized C).before args s = true) (h : (Cond.isRef (.static C n d)).before args s = true) (hA : ∀ a : Nat, a < s.heap.size → ¬ A a) : vx_Zq C n d A s s.heap := by
  refine ⟨va_Zqof hl hini h hA, ?_⟩
  obtain ⟨c, k, i, f, a, cell, h1, h2, h3, h4, h5, h6, h7, h8, h9⟩ := Cond.laysStatic_spec hl
  exact ⟨c, k, i, f, a, cell, h1, h2, h3, h4, h5, h6, h7, h8, h9, hA a (Array.getElem?_eq_some_iff.mp h5).1⟩
theorem vx_isRef {C n d : String} {v : Value} {A : Nat → Prop} {s : State} {args : Array Value} (h : va_Z C n d v A s s.heap) (hv : v.isRef = true) : (Cond.isRef (.static C n d)).before args s = true := by
  obtain ⟨cf, kf, fi, f, a, cell, h1, h2, h3, h4, h5, h6, h7, -⟩ := h
  have he : (Term.static C n d).eval args s none [] s = some v := by
    simp [Term.eval, State.fieldNamed?, h1, h2, h4, h5, h6, h7]
  simp only [Cond.before, Cond.holds, Cond.value, he]
  cases v <;> simp_all [Value.isRef]
theorem vx_isRefq {C n d : String} {A : Nat → Prop} {s : State} {args : Array Value} (h : va_Zq C n d A s s.heap) : (Cond.isRef (.static C n d)).before args s = true := by
  rcases h with h | ⟨t, h⟩
  · exact vx_isRef h rfl
  · exact vx_isRef h rfl
/-- the same frame, seen from here: as if the method were called anew in this heap -/
theorem vx_rebase {T : State} (X : Stand p l e R s m args below meth c T locs cells slots) {R' : Room} (hf : R'.frames ≤ R.frames) (hl : R'.locals ≤ R.locals) (hc : cells + R'.cells ≤ R.cells) (hs : slots + R'.slots ≤ R.slots) :
    Stand p l e R' ((T.setVm s.vm).setFrames (.invoking m args :: below)) m args below meth c T [] 0 0 := by
  have htop : (T.setVm s.vm).topJava?.isSome := X.here.top
  have hF : ((T.setVm s.vm).setFrames (.invoking m args :: below)).frames = .invoking m args :: below := State.frames_setFrames _ (State.cur_lt_of_top htop)
  obtain ⟨g₀, hg0⟩ := Option.isSome_iff_exists.mp htop
  obtain ⟨r, hr⟩ := State.topJava?_eq_some.mp hg0
  have hl9 : e.platform.stackLimits (T.setVm s.vm).me = e.platform.stackLimits s.me := X.limits
  have hb9 : (T.setVm s.vm).me.stackBytes = s.me.stackBytes := X.bytes
  refine ⟨X.admits, X.cas, X.clock, hF, ?_, X.hears, X.method, X.code, X.here, X.tail, X.warmed, ?_, ?_, ?_⟩
  · have h := X.room
    have hU : ((T.setVm s.vm).setFrames (.invoking m args :: below)).localsInUse = s.localsInUse := by
      rw [State.localsInUse_invoking hF (meth := meth) (c := c) X.method X.code, State.localsInUse_invoking X.frames X.method X.code]
    simp only [State.hasRoom, Bool.and_eq_true, decide_eq_true_eq] at h ⊢
    obtain ⟨⟨⟨⟨h1, h2, h3, h4, h5, h6⟩, h7⟩, h8⟩, h9⟩ := h
    rw [X.frames, List.length_cons] at h2 h3
    have q1 := X.heapSize
    have q2 := X.used
    simp only [hF, hU, List.length_cons, State.stackLimits_setFrames, State.stackBytes_setFrames, hl9, hb9]
    refine ⟨⟨⟨⟨by omega, by omega, by omega, by omega, by omega, h6⟩, ?_⟩, ?_⟩, X.book⟩
    · show T.heap.size + R'.cells ≤ e.platform.maxCells
      omega
    · show T.slotsUsed + R'.slots ≤ e.platform.maxSlots
      omega
  · rw [State.stackLimits_setFrames]; rfl
  · rw [State.stackBytes_setFrames]; rfl
  · refine ⟨?_, Nat.le_refl _, Nat.le_refl _, ?_, ?_, fun a c9 h9 => ⟨c9, h9, rfl, rfl, fun _ _ => rfl⟩⟩
    · obtain ⟨t, ht, -⟩ := State.frames_cons hr
      show T.setVm s.vm = { ((T.setVm s.vm).setFrames (.invoking m args :: below)).setFrames (T.setVm s.vm).frames with heap := T.heap, slotsUsed := T.slotsUsed }
      rw [State.setFrames_setFrames, State.setFrames_self ht]
      rfl
    · show T.slotsUsed = T.slotsUsed + ((T.heap.toList.drop T.heap.size).map (·.slots.size)).sum
      rw [List.drop_eq_nil_of_le (Nat.le_of_eq Array.length_toList)]
      rfl
    · show ((T.heap.toList.drop T.heap.size).map (·.slots.size)).sum ≤ 0
      rw [List.drop_eq_nil_of_le (Nat.le_of_eq Array.length_toList)]
      exact Nat.le_refl _
/-- 'throw new E()': new; dup; invokespecial; athrow -/
theorem vx_throw0 {cc : ByteArray} {pc : Nat} (hexec : p.tables.exec = Jvm.exec) (hb : c.code = cc) (hl : l.stackTraces = false) {own cls : String} {names : List String} {ik ic mc ms : Nat} {A : Nat → Prop}
    (hown : s.vm.findClass own = some m.cls) (hcls : Bundle.fit cls = true) (hnames : ∀ n ∈ names, Bundle.fit n = true)
    (hk : (Cond.classLink own ik cls).before args s = true) (hini : (Cond.initialized cls).before args s = true) (hat : ∀ w ∈ vx_at0 own ic cls names, w.before args s = true)
    (hgood : ∀ w ∈ Cond.classLink own ik cls :: Cond.initialized cls :: vx_at0 own ic cls names, vx_ot w = true)
    (hU : vx_Zq Bundle.tN "UNASSIGNED_STACK" Bundle.steD A s s.heap) (hN : vx_Zq Bundle.tN "SUPPRESSED_SENTINEL" Bundle.listD A s s.heap) (hS : va_S A s.heap H locs) (hsize : ls.size = c.maxLocals)
    (d0 : decode cc pc = .ok (.new ik, 3)) (d3 : decode cc (pc + 3) = .ok (.dup, 1)) (d4 : decode cc (pc + 4) = .ok (.invokespecial ic, 3)) (d7 : decode cc (pc + 7) = .ok (.athrow, 1))
    (hout : ∀ x ∈ c.exceptionTable.toList, covers x (pc + 7) = false)
    (hRframes : names.length + 3 < R.frames) (hRlocals : (rest.map fun v => v.category).sum + (13 * (names.length + 1) + 42) ≤ R.locals) (hRcells : cells + 1 ≤ R.cells) (hRslots : slots + 6 ≤ R.slots) (hlocks : meth.locks = false)
    (hx : ∀ t : State, s.vm.Alike t.vm → H.size ≤ t.heap.size → (∀ q : Nat, q < H.size → t.heap[q]? = H[q]?) → XC cls s t)
    (hf : ∀ z ∈ locs, free z.base) (hc : cells + 1 ≤ mc) (hs : slots + 6 ≤ ms) :
    W p l e R s m args below meth c H locs cells slots (vx_MQ below Qc XC args s mc ms free) (F0 m pc ls rest) := by
  intro T hT X
  have htr : e.platform.stackTraces = false := (show e.platform.stackTraces = l.stackTraces by rw [X.admits.platform]).trans hl
  have Y := vx_rebase X (R' := { frames := R.frames, locals := R.locals, cells := 1, slots := 6 }) (Nat.le_refl _) (Nat.le_refl _) hRcells hRslots
  obtain ⟨s', hA⟩ : ∃ z, z = (T.setVm s.vm).setFrames (.invoking m args :: below) := ⟨_, rfl⟩
  rw [← hA] at Y
  have hvm : s'.vm = s.vm := by rw [hA]; rfl
  have hhp : s'.heap = H := by rw [hA]; exact hT
  have hW0 : s.WarmedH s'.vm := by rw [hvm]; exact State.WarmedH.refl s
  have hat' : ∀ w ∈ vx_at0 own ic cls names, w.before args s' = true := fun w hw => vx_ot_at hW0 hvm.symm (hgood w (List.mem_cons_of_mem _ (List.mem_cons_of_mem _ hw))) (hat w hw)
  have hk' : (Cond.classLink own ik cls).before args s' = true := vx_ot_at hW0 hvm.symm (hgood _ List.mem_cons_self) hk
  have hini' : (Cond.initialized cls).before args s' = true := vx_ot_at hW0 hvm.symm (hgood _ (List.mem_cons_of_mem _ List.mem_cons_self)) hini
  have hU' : vx_Zq Bundle.tN "UNASSIGNED_STACK" Bundle.steD A s' s'.heap := by rw [hhp]; exact vx_Zq.moved hW0.alike (hU.kept hS.2.1)
  have hN' : vx_Zq Bundle.tN "SUPPRESSED_SENTINEL" Bundle.listD A s' s'.heap := by rw [hhp]; exact vx_Zq.moved hW0.alike (hN.kept hS.2.1)
  have h : ∀ w ∈ Bundle.ownAtoms0 own ic cls names, w.before args s' = true := vx_own hat' (vx_isRefq hU'.1) (vx_isRefq hN'.1) hU'.2.word hN'.2.word
  have hown' : s'.vm.findClass own = some m.cls := by rw [hvm]; exact hown
  have hins : (Cond.instantiable cls 6).before args s' = true := h _ (by simp [Bundle.ownAtoms0])
  obtain ⟨vm₁, cX, kX, hfX, hkX, -, -, X₁, st1⟩ := Y.newCold hexec (own := own) (C := cls) (index := ik) (n := 6) hown' hk' hins hini'
    (g := F0 m pc ls rest) rfl (by rw [hb]; exact d0) (Nat.le_refl _) (Nat.le_refl _)
  generalize hT1 : (T.setVm vm₁).pushCell { cls := cX, slots := kX.instanceTypes.map defaultValue, vm := .none } = T1 at X₁ st1
  have hcat : (Value.ref T.heap.size).category = 1 := rfl
  have hcellA : T1.heap[T.heap.size]? = some (freshCell cX kX) := by rw [← hT1]; exact State.heap_pushCell_size _ _
  have d3' : decode c.code (pc + 3) = .ok (.dup, 1) := by rw [hb]; exact d3
  obtain ⟨U, hsteps, hrun, hend, hW, hsame, ce, hce, hO⟩ := X₁.ctorThrow0 hexec htr (own := own) (cls := cls) (names := names) (ic := ic) hown' hcls hnames h (fun x hx => nomatch hx) hfX hkX hcellA (by rw [hhp, hT]; exact Nat.le_refl _)
    (g := { method := m, pc := pc + 4, locals := ls, stack := .ref T.heap.size :: .ref T.heap.size :: rest, locked := none }) rfl hsize rfl rfl (rest := rest) rfl
    (by rw [hb]; exact d4) (by rw [hb]; exact d7) hout hRframes (by simp only [List.map_cons, List.sum_cons, hcat]; omega) hlocks
  obtain ⟨f1, f2⟩ := vx_frame hsame
  rw [hhp] at f1 f2
  have hWs : s.WarmedH U.vm := State.WarmedH.trans hW0 hW
  have hcl : s.vm.findClass cls = some ce.cls := by
    have h9 := hO.cls
    rw [hvm] at h9
    exact h9
  have hall : s.sameButNew ({ U with vm := s.vm } : State) locs mc ms := by
    subst hA
    obtain ⟨e1, e2⟩ := hsame
    rw [State.setFrames_setFrames] at e1
    have h2 : (T.setVm s.vm).sameButNew ({ U with vm := s.vm } : State) [] (0 + 1) (0 + 6) := ⟨e1, e2⟩
    have h3 := X.same.trans h2
    rw [List.append_nil] at h3
    exact h3.mono hc hs
  refine ⟨U, ?_, .threw T.heap.size, hrun, hend, Or.inr ⟨T.heap.size, rfl, cls, ce, locs, hx U hWs.alike f1 (fun q hq => f2 q hq (fun z hz => nomatch hz)), hce, hO.vm, hcl, hWs, hall, hf⟩⟩
  refine st1 _ ?_
  show Steps p.tables e below (T1.setTop { method := m, pc := pc + 3, locals := ls, stack := .ref T.heap.size :: rest, locked := none }) _
  jvm_step X₁.here [X₁.here.top, hexec, d3', Value.category]
  exact hsteps
/-- 'throw new E("text")': new; dup; ldc; invokespecial; athrow -/
theorem vx_throwS {cc : ByteArray} {pc : Nat} (hexec : p.tables.exec = Jvm.exec) (hb : c.code = cc) (hl : l.stackTraces = false) {own cls text : String} {names : List String} {ik is ic mc ms sa : Nat} {A : Nat → Prop}
    (hown : s.vm.findClass own = some m.cls) (hcls : Bundle.fit cls = true) (hnames : ∀ n ∈ names, Bundle.fit n = true)
    (hk : (Cond.classLink own ik cls).before args s = true) (hini : (Cond.initialized cls).before args s = true) (hstr : vk_R own is text sa s) (hat : ∀ w ∈ vx_atS own ic cls names, w.before args s = true)
    (hgood : ∀ w ∈ Cond.classLink own ik cls :: Cond.initialized cls :: vx_atS own ic cls names, vx_ot w = true)
    (hU : vx_Zq Bundle.tN "UNASSIGNED_STACK" Bundle.steD A s s.heap) (hN : vx_Zq Bundle.tN "SUPPRESSED_SENTINEL" Bundle.listD A s s.heap) (hS : va_S A s.heap H locs) (hsize : ls.size = c.maxLocals)
    (d0 : decode cc pc = .ok (.new ik, 3)) (d3 : decode cc (pc + 3) = .ok (.dup, 1)) (d4 : decode cc (pc + 4) = .ok (.ldc is, 2)) (d6 : decode cc (pc + 6) = .ok (.invokespecial ic, 3)) (d9 : decode cc (pc + 9) = .ok (.athrow, 1))
    (hout : ∀ x ∈ c.exceptionTable.toList, covers x (pc + 9) = false)
    (hRframes : names.length + 3 < R.frames) (hRlocals : (rest.map fun v => v.category).sum + (13 * (names.length + 1) + 43) ≤ R.locals) (hRcells : cells + 1 ≤ R.cells) (hRslots : slots + 6 ≤ R.slots) (hlocks : meth.locks = false)
    (hx : ∀ t : State, s.vm.Alike t.vm → H.size ≤ t.heap.size → (∀ q : Nat, q < H.size → t.heap[q]? = H[q]?) → XC cls s t)
    (hf : ∀ z ∈ locs, free z.base) (hc : cells + 1 ≤ mc) (hs : slots + 6 ≤ ms) :
    W p l e R s m args below meth c H locs cells slots (vx_MQ below Qc XC args s mc ms free) (F0 m pc ls rest) := by
  intro T hT X
  have htr : e.platform.stackTraces = false := (show e.platform.stackTraces = l.stackTraces by rw [X.admits.platform]).trans hl
  have Y := vx_rebase X (R' := { frames := R.frames, locals := R.locals, cells := 1, slots := 6 }) (Nat.le_refl _) (Nat.le_refl _) hRcells hRslots
  obtain ⟨s', hA⟩ : ∃ z, z = (T.setVm s.vm).setFrames (.invoking m args :: below) := ⟨_, rfl⟩
  rw [← hA] at Y
  have hvm : s'.vm = s.vm := by rw [hA]; rfl
  have hhp : s'.heap = H := by rw [hA]; exact hT
  have hW0 : s.WarmedH s'.vm := by rw [hvm]; exact State.WarmedH.refl s
  have hat' : ∀ w ∈ vx_atS own ic cls names, w.before args s' = true := fun w hw => vx_ot_at hW0 hvm.symm (hgood w (List.mem_cons_of_mem _ (List.mem_cons_of_mem _ hw))) (hat w hw)
  have hk' : (Cond.classLink own ik cls).before args s' = true := vx_ot_at hW0 hvm.symm (hgood _ List.mem_cons_self) hk
  have hini' : (Cond.initialized cls).before args s' = true := vx_ot_at hW0 hvm.symm (hgood _ (List.mem_cons_of_mem _ List.mem_cons_self)) hini
  have hU' : vx_Zq Bundle.tN "UNASSIGNED_STACK" Bundle.steD A s' s'.heap := by rw [hhp]; exact vx_Zq.moved hW0.alike (hU.kept hS.2.1)
  have hN' : vx_Zq Bundle.tN "SUPPRESSED_SENTINEL" Bundle.listD A s' s'.heap := by rw [hhp]; exact vx_Zq.moved hW0.alike (hN.kept hS.2.1)
  have h : ∀ w ∈ Bundle.ownAtoms own ic cls names, w.before args s' = true := vx_own hat' (vx_isRefq hU'.1) (vx_isRefq hN'.1) hU'.2.word hN'.2.word
  have hown' : s'.vm.findClass own = some m.cls := by rw [hvm]; exact hown
  have hins : (Cond.instantiable cls 6).before args s' = true := h _ (by simp [Bundle.ownAtoms])
  obtain ⟨vm₁, cX, kX, hfX, hkX, -, -, X₁, st1⟩ := Y.newCold hexec (own := own) (C := cls) (index := ik) (n := 6) hown' hk' hins hini'
    (g := F0 m pc ls rest) rfl (by rw [hb]; exact d0) (Nat.le_refl _) (Nat.le_refl _)
  generalize hT1 : (T.setVm vm₁).pushCell { cls := cX, slots := kX.instanceTypes.map defaultValue, vm := .none } = T1 at X₁ st1
  have hcat : (Value.ref T.heap.size).category = 1 := rfl
  have hcellA : T1.heap[T.heap.size]? = some (freshCell cX kX) := by rw [← hT1]; exact State.heap_pushCell_size _ _
  have d3' : decode c.code (pc + 3) = .ok (.dup, 1) := by rw [hb]; exact d3
  have d4' : decode c.code (pc + 4) = .ok (.ldc is, 2) := by rw [hb]; exact d4
  have hstr' : vk_R own is text sa s' := vk_R.warm hW0 hstr
  obtain ⟨U, hsteps, hrun, hend, hW, hsame, ce, hce, hO⟩ := X₁.ctorThrowS hexec htr (own := own) (cls := cls) (names := names) (ic := ic) hown' hcls hnames h (fun x hx => nomatch hx) hfX hkX hcellA (by rw [hhp, hT]; exact Nat.le_refl _) (msg := .ref sa) rfl
    (g := { method := m, pc := pc + 6, locals := ls, stack := .ref sa :: .ref T.heap.size :: .ref T.heap.size :: rest, locked := none }) rfl hsize rfl rfl (rest := rest) rfl
    (by rw [hb]; exact d6) (by rw [hb]; exact d9) hout hRframes (by simp only [List.map_cons, List.sum_cons, hcat]; omega) hlocks
  obtain ⟨f1, f2⟩ := vx_frame hsame
  rw [hhp] at f1 f2
  have hWs : s.WarmedH U.vm := State.WarmedH.trans hW0 hW
  have hcl : s.vm.findClass cls = some ce.cls := by
    have h9 := hO.cls
    rw [hvm] at h9
    exact h9
  have hall : s.sameButNew ({ U with vm := s.vm } : State) locs mc ms := by
    subst hA
    obtain ⟨e1, e2⟩ := hsame
    rw [State.setFrames_setFrames] at e1
    have h2 : (T.setVm s.vm).sameButNew ({ U with vm := s.vm } : State) [] (0 + 1) (0 + 6) := ⟨e1, e2⟩
    have h3 := X.same.trans h2
    rw [List.append_nil] at h3
    exact h3.mono hc hs
  refine ⟨U, ?_, .threw T.heap.size, hrun, hend, Or.inr ⟨T.heap.size, rfl, cls, ce, locs, hx U hWs.alike f1 (fun q hq => f2 q hq (fun z hz => nomatch hz)), hce, hO.vm, hcl, hWs, hall, hf⟩⟩
  refine st1 _ ?_
  show Steps p.tables e below (T1.setTop { method := m, pc := pc + 3, locals := ls, stack := .ref T.heap.size :: rest, locked := none }) _
  jvm_step X₁.here [X₁.here.top, hexec, d3', Value.category]
  exact X₁.ldcString hexec (own := own) (text := text) (index := is) (a := sa) hown' hstr'.1 hstr'.2
    (g := { method := m, pc := pc + 4, locals := ls, stack := .ref T.heap.size :: .ref T.heap.size :: rest, locked := none }) rfl d4' _ hsteps
/-- 'throw new E("text")', the text by a wide index -/
theorem vx_throwSW {cc : ByteArray} {pc : Nat} (hexec : p.tables.exec = Jvm.exec) (hb : c.code = cc) (hl : l.stackTraces = false) {own cls text : String} {names : List String} {ik is ic mc ms sa : Nat} {A : Nat → Prop}
    (hown : s.vm.findClass own = some m.cls) (hcls : Bundle.fit cls = true) (hnames : ∀ n ∈ names, Bundle.fit n = true)
    (hk : (Cond.classLink own ik cls).before args s = true) (hini : (Cond.initialized cls).before args s = true) (hstr : vk_R own is text sa s) (hat : ∀ w ∈ vx_atS own ic cls names, w.before args s = true)
    (hgood : ∀ w ∈ Cond.classLink own ik cls :: Cond.initialized cls :: vx_atS own ic cls names, vx_ot w = true)
    (hU : vx_Zq Bundle.tN "UNASSIGNED_STACK" Bundle.steD A s s.heap) (hN : vx_Zq Bundle.tN "SUPPRESSED_SENTINEL" Bundle.listD A s s.heap) (hS : va_S A s.heap H locs) (hsize : ls.size = c.maxLocals)
    (d0 : decode cc pc = .ok (.new ik, 3)) (d3 : decode cc (pc + 3) = .ok (.dup, 1)) (d4 : decode cc (pc + 4) = .ok (.ldc_w is, 3)) (d7 : decode cc (pc + 7) = .ok (.invokespecial ic, 3)) (d10 : decode cc (pc + 10) = .ok (.athrow, 1))
    (hout : ∀ x ∈ c.exceptionTable.toList, covers x (pc + 10) = false)
    (hRframes : names.length + 3 < R.frames) (hRlocals : (rest.map fun v => v.category).sum + (13 * (names.length + 1) + 43) ≤ R.locals) (hRcells : cells + 1 ≤ R.cells) (hRslots : slots + 6 ≤ R.slots) (hlocks : meth.locks = false)
    (hx : ∀ t : State, s.vm.Alike t.vm → H.size ≤ t.heap.size → (∀ q : Nat, q < H.size → t.heap[q]? = H[q]?) → XC cls s t)
    (hf : ∀ z ∈ locs, free z.base) (hc : cells + 1 ≤ mc) (hs : slots + 6 ≤ ms) :
    W p l e R s m args below meth c H locs cells slots (vx_MQ below Qc XC args s mc ms free) (F0 m pc ls rest) := by
  intro T hT X
  have htr : e.platform.stackTraces = false := (show e.platform.stackTraces = l.stackTraces by rw [X.admits.platform]).trans hl
  have Y := vx_rebase X (R' := { frames := R.frames, locals := R.locals, cells := 1, slots := 6 }) (Nat.le_refl _) (Nat.le_refl _) hRcells hRslots
  obtain ⟨s', hA⟩ : ∃ z, z = (T.setVm s.vm).setFrames (.invoking m args :: below) := ⟨_, rfl⟩
  rw [← hA] at Y
  have hvm : s'.vm = s.vm := by rw [hA]; rfl
  have hhp : s'.heap = H := by rw [hA]; exact hT
  have hW0 : s.WarmedH s'.vm := by rw [hvm]; exact State.WarmedH.refl s
  have hat' : ∀ w ∈ vx_atS own ic cls names, w.before args s' = true := fun w hw => vx_ot_at hW0 hvm.symm (hgood w (List.mem_cons_of_mem _ (List.mem_cons_of_mem _ hw))) (hat w hw)
  have hk' : (Cond.classLink own ik cls).before args s' = true := vx_ot_at hW0 hvm.symm (hgood _ List.mem_cons_self) hk
  have hini' : (Cond.initialized cls).before args s' = true := vx_ot_at hW0 hvm.symm (hgood _ (List.mem_cons_of_mem _ List.mem_cons_self)) hini
  have hU' : vx_Zq Bundle.tN "UNASSIGNED_STACK" Bundle.steD A s' s'.heap := by rw [hhp]; exact vx_Zq.moved hW0.alike (hU.kept hS.2.1)
  have hN' : vx_Zq Bundle.tN "SUPPRESSED_SENTINEL" Bundle.listD A s' s'.heap := by rw [hhp]; exact vx_Zq.moved hW0.alike (hN.kept hS.2.1)
  have h : ∀ w ∈ Bundle.ownAtoms own ic cls names, w.before args s' = true := vx_own hat' (vx_isRefq hU'.1) (vx_isRefq hN'.1) hU'.2.word hN'.2.word
  have hown' : s'.vm.findClass own = some m.cls := by rw [hvm]; exact hown
  have hins : (Cond.instantiable cls 6).before args s' = true := h _ (by simp [Bundle.ownAtoms])
  obtain ⟨vm₁, cX, kX, hfX, hkX, -, -, X₁, st1⟩ := Y.newCold hexec (own := own) (C := cls) (index := ik) (n := 6) hown' hk' hins hini'
    (g := F0 m pc ls rest) rfl (by rw [hb]; exact d0) (Nat.le_refl _) (Nat.le_refl _)
  generalize hT1 : (T.setVm vm₁).pushCell { cls := cX, slots := kX.instanceTypes.map defaultValue, vm := .none } = T1 at X₁ st1
  have hcat : (Value.ref T.heap.size).category = 1 := rfl
  have hcellA : T1.heap[T.heap.size]? = some (freshCell cX kX) := by rw [← hT1]; exact State.heap_pushCell_size _ _
  have d3' : decode c.code (pc + 3) = .ok (.dup, 1) := by rw [hb]; exact d3
  have d4' : decode c.code (pc + 4) = .ok (.ldc_w is, 3) := by rw [hb]; exact d4
  have hstr' : vk_R own is text sa s' := vk_R.warm hW0 hstr
  obtain ⟨U, hsteps, hrun, hend, hW, hsame, ce, hce, hO⟩ := X₁.ctorThrowS hexec htr (own := own) (cls := cls) (names := names) (ic := ic) hown' hcls hnames h (fun x hx => nomatch hx) hfX hkX hcellA (by rw [hhp, hT]; exact Nat.le_refl _) (msg := .ref sa) rfl
    (g := { method := m, pc := pc + 7, locals := ls, stack := .ref sa :: .ref T.heap.size :: .ref T.heap.size :: rest, locked := none }) rfl hsize rfl rfl (rest := rest) rfl
    (by rw [hb]; exact d7) (by rw [hb]; exact d10) hout hRframes (by simp only [List.map_cons, List.sum_cons, hcat]; omega) hlocks
  obtain ⟨f1, f2⟩ := vx_frame hsame
  rw [hhp] at f1 f2
  have hWs : s.WarmedH U.vm := State.WarmedH.trans hW0 hW
  have hcl : s.vm.findClass cls = some ce.cls := by
    have h9 := hO.cls
    rw [hvm] at h9
    exact h9
  have hall : s.sameButNew ({ U with vm := s.vm } : State) locs mc ms := by
    subst hA
    obtain ⟨e1, e2⟩ := hsame
    rw [State.setFrames_setFrames] at e1
    have h2 : (T.setVm s.vm).sameButNew ({ U with vm := s.vm } : State) [] (0 + 1) (0 + 6) := ⟨e1, e2⟩
    have h3 := X.same.trans h2
    rw [List.append_nil] at h3
    exact h3.mono hc hs
  refine ⟨U, ?_, .threw T.heap.size, hrun, hend, Or.inr ⟨T.heap.size, rfl, cls, ce, locs, hx U hWs.alike f1 (fun q hq => f2 q hq (fun z hz => nomatch hz)), hce, hO.vm, hcl, hWs, hall, hf⟩⟩
  refine st1 _ ?_
  show Steps p.tables e below (T1.setTop { method := m, pc := pc + 3, locals := ls, stack := .ref T.heap.size :: rest, locked := none }) _
  jvm_step X₁.here [X₁.here.top, hexec, d3', Value.category]
  exact X₁.ldcStringW hexec (own := own) (text := text) (index := is) (a := sa) hown' hstr'.1 hstr'.2
    (g := { method := m, pc := pc + 4, locals := ls, stack := .ref T.heap.size :: .ref T.heap.size :: rest, locked := none }) rfl d4' _ hsteps
end Ends
section Bodies
variable {l : Launch}
theorem vx_ofW {y : MethodName} {ws ws' : List Cond} {rm : Room} {Pc : Array Value → State → Prop} {Qc : Array Value → State → Outcome → State → Prop} {XC : String → State → State → Prop} {mc ms : Nat} {free : Addr → Prop} {cc : ByteArray} {maxL : Nat} {ret : Option FieldType}
    (hy : plainName y.cls = true) (hw : ws = Cond.code y cc maxL ret :: ws')
    (body : ∀ p e s m args below meth c s₁, BodyLoose p l y (headSpec ws rm) cc maxL ret e s m args below meth c s₁ → c.maxLocals = maxL → (∀ x ∈ c.exceptionTable.toList, False) → Pc args s →
      W p l e (headSpec ws rm).room s m args below meth c s.heap [] 0 0 (vx_MQ below Qc XC args s mc ms free) (entryFrame m args maxL)) : vx_Met l y ws rm Pc Qc XC mc ms free := by
  refine MetFree.of_bodyS (code := cc) (maxLocals := maxL) (ret := ret) hy ?_ ?_
  · intro args s m h hn
    obtain ⟨meth, c, h1, h2, h3, h4, h5, h6, -, -⟩ := Cond.code_spec hn (atoms_spec (ws := ws) h _ (by rw [hw]; exact List.mem_cons_self))
    exact ⟨meth, c, h1, h2, h3, h4, h5, h6⟩
  · intro p e s m args below meth c s₁ B hml hP _
    have hh0 : s₁.heap = s.heap := by rw [B.state]; rfl
    have ht : ∀ x ∈ c.exceptionTable.toList, False := by
      obtain ⟨meth9, c9, h1, h2, -, -, -, -, h7, -⟩ := Cond.code_spec B.named (atoms_spec (ws := ws) B.pre _ (by rw [hw]; exact List.mem_cons_self))
      cases Option.some.inj (h1.symm.trans B.method)
      cases Option.some.inj (h2.symm.trans (Stand.of_body B).code)
      intro x hx
      rw [Array.isEmpty_iff.mp h7] at hx
      cases hx
    obtain ⟨t, a1, o, b1, b2, b3⟩ := body p e s m args below meth c s₁ B hml ht hP s₁ hh0 (Stand.of_body B)
    exact ⟨t, o, a1, b1, b2, b3⟩
/-- the table of a body with handlers -/
theorem vx_table {p : Program} {x y : MethodName} {S : Spec} {cc bytes : ByteArray} {maxL maxL' : Nat} {ret ret' : Option FieldType} {e : Env} {s s₁ : State} {m : MethodId} {args : Array Value} {below : List Frame} {meth : Method} {c : Code} {hh : List (Nat × Nat × Nat × Nat)}
    (B : BodyLoose p l y S cc maxL ret e s m args below meth c s₁) (h : (Cond.codeWith y bytes maxL' ret' hh).before args s = true) : c.exceptionTable.toList = tableOf hh := by
  obtain ⟨m9, meth9, c9, hn9, h1, h2, -, -, h6, -⟩ := Cond.codeWith_spec h
  cases Option.some.inj (hn9.symm.trans B.named)
  cases Option.some.inj (h1.symm.trans B.method)
  cases Option.some.inj (h2.symm.trans (Stand.of_body B).code)
  rw [← h6, table_eq]
end Bodies
end VXA
/-! ===== END ===== -/
/-! ===== BEGIN a static call of a method with an exception table ===== -/
section VXS
variable {p : Program} {l : Launch} {e : Env} {R : Room} {s : State} {m : MethodId} {args : Array Value} {below : List Frame} {meth : Method} {c : Code} {T : State} {H : Heap} {locs : List Loc} {cells slots : Nat}
abbrev vx_CSW (R : Room) (s : State) (args : Array Value) (own : String) (index : Nat) (y : MethodName) (bytes : ByteArray) (maxL : Nat) (ret : Option FieldType) (hh : List (Nat × Nat × Nat × Nat)) (ws : List Cond) (rm : Room) (mc ms n : Nat) : Prop :=
  (rm.cells = mc ∧ rm.slots = ms ∧ rm.frames + 1 ≤ R.frames ∧ 8 + (maxL + 11) + rm.locals ≤ R.locals ∧ (∀ w ∈ ws, ∀ (a' : Array Value) (U : State), s.WarmedH U.vm → w.before a' U = true) ∧ Cond.codeWith y bytes maxL ret hh ∈ ws) ∧
  (Cond.codeWith y bytes maxL ret hh).before args s = true ∧ (Cond.initialized y.cls).before args s = true ∧ (y.cls ≠ "java/lang/invoke/MethodHandle" ∧ y.cls ≠ "java/lang/invoke/VarHandle") ∧
  (∀ sig, parseMethodDescriptor y.desc = some sig → n = sig.parameters.length) ∧ (Cond.methodLink own index y).before args s = true ∧ (Cond.static y).before args s = true
theorem vx_cwSW {own : String} {index maxL mc ms : Nat} {y : MethodName} {bytes : ByteArray} {ret : Option FieldType} {hh : List (Nat × Nat × Nat × Nat)} {Ts ws ws' : List Cond} {rm : Room} (n : Nat) (ht : ∀ w ∈ Ts, w.before args s = true) (hT : GoodIn Ts (va_wsS own index y ws)) (hw : ws = Cond.codeWith y bytes maxL ret hh :: ws') (hrc : rm.cells = mc) (hrs : rm.slots = ms)
    (hd : y.cls ≠ "java/lang/invoke/MethodHandle" ∧ y.cls ≠ "java/lang/invoke/VarHandle" ∧ (parseMethodDescriptor y.desc).map (fun d => d.parameters.length) = some n) (hR : rm.frames + 1 ≤ R.frames ∧ 8 + (maxL + 11) + rm.locals ≤ R.locals) :
    vx_CSW R s args own index y bytes maxL ret hh ws rm mc ms n := by
  have ok : ∀ w ∈ va_wsS own index y ws, w.before args s = true := fun w h => ht w (hT w h).1
  have hG : GoodIn Ts ws := fun w h => hT w (by unfold va_wsS; exact List.mem_append_right _ h)
  have hc : Cond.codeWith y bytes maxL ret hh ∈ ws := by rw [hw]; exact List.mem_cons_self
  refine ⟨⟨hrc, hrs, hR.1, hR.2, pay_in ht hG, hc⟩, ht _ (hG _ hc).1, ok _ (by simp [va_wsS]), ⟨hd.1, hd.2.1⟩, fun sig h => ?_, ok _ (by simp [va_wsS]), ok _ (by simp [va_wsS])⟩
  have h2 := hd.2.2
  rw [h] at h2
  exact (Option.some.inj h2).symm
theorem vx_callSW (X : Stand p l e R s m args below meth c T locs cells slots) (hexec : p.tables.exec = Jvm.exec) {own : String} {index : Nat} {y : MethodName} {bytes : ByteArray} {maxL : Nat} {ret : Option FieldType} {hh : List (Nat × Nat × Nat × Nat)}
    (hown : s.vm.findClass own = some m.cls) (hlink : (Cond.methodLink own index y).before args s = true) (hstat : (Cond.static y).before args s = true) (hinit : (Cond.initialized y.cls).before args s = true)
    (hcode : (Cond.codeWith y bytes maxL ret hh).before args s = true) (hy : y.cls ≠ "java/lang/invoke/MethodHandle" ∧ y.cls ≠ "java/lang/invoke/VarHandle")
    {W9 : Nat} {Pre : Pt → Array Value → Prop} {Post : Pt → Array Value → Option Value → Pt → Prop} (hK : Back l R p e below s args y 3 W9 Pre Post)
    {g : JFrame} (hg : g.method = m) (hsize : g.locals.size = c.maxLocals) {argsL rest : List Value} (hlen : ∀ sig, parseMethodDescriptor y.desc = some sig → argsL.length = sig.parameters.length)
    (hstack : g.stack = argsL.reverse ++ rest) (hW : 2 * g.monitorRoom + (rest.map fun v => v.category).sum ≤ W9) (hdg : decode c.code g.pc = .ok (.invokestatic index, 3))
    (hpre : ∀ vm₁, s.WarmedH vm₁ → Pre ⟨T.setVm vm₁, locs, cells, slots⟩ argsL.toArray) :
    ∃ (v : Option Value) (vm₁ : Vm) (B : Pt), s.WarmedH vm₁ ∧ Stand p l e R s m args below meth c B.U B.locs B.cells B.slots ∧ Post ⟨T.setVm vm₁, locs, cells, slots⟩ argsL.toArray v B ∧
      ∀ target, Steps p.tables e below (B.U.setTop { g with pc := g.pc + 3, stack := v.toList ++ rest }) target → Steps p.tables e below (T.setTop g) target := by
  obtain ⟨mk, methM, cM, hnamed, hmethM, -, -, -, -, -, -, hsigM⟩ := Cond.codeWith_spec hcode
  have hstatic : methM.isStatic = true := Cond.static_spec hnamed hmethM hstat
  obtain ⟨kP, hkP, -⟩ := className_of_methodNamed hnamed
  have hinitP : kP.init = .initialized := Cond.initialized_spec (findClass_of_methodNamed hnamed) hkP hinit
  obtain ⟨vm₁, X₁, hstep₁⟩ := X.invokestatic hexec hown hlink hnamed hmethM hstatic hkP hinitP hy (g := g) hg (argsL := argsL) (rest := rest) (hlen _ hsigM) hstack hdg
  obtain ⟨v, B, X', hpost, hsteps⟩ := hK m meth c ⟨T.setVm vm₁, locs, cells, slots⟩ { g with stack := rest } (.invokestatic index) mk argsL.toArray X₁ hg hsize hdg hW (X₁.named hnamed) (hpre vm₁ X₁.warmed)
  exact ⟨v, vm₁, B, X₁.warmed, X', hpost, fun target h => hstep₁ _ fun acts => by rw [doInvoke_state]; exact hsteps.trans h⟩
theorem vx_runSW {y : MethodName} {bytes cc : ByteArray} {maxL nL mc ms n index : Nat} {ret : Option FieldType} {hh : List (Nat × Nat × Nat × Nat)} {ws : List Cond} {rm : Room} {Pc : Array Value → State → Prop} {Qc : Array Value → State → Outcome → State → Prop} {free : Addr → Prop} {Ts : List Cond} {own : String} {As rest : List Value} {g : JFrame}
    (S : CallFix p m c cc nL s args Ts own) (hM : Met l y ws rm Pc Qc mc ms free) (cw : vx_CSW R s args own index y bytes maxL ret hh ws rm mc ms n) (hp : PreS s H Pc As)
    (hg : g.method = m) (hn : As.length = n) (hsize : g.locals.size = nL) (hstack : g.stack = As.reverse ++ rest) (hW : 2 * g.monitorRoom + (rest.map fun v => v.category).sum ≤ 8) (hdg : decode cc g.pc = .ok (.invokestatic index, 3)) (hf : cells + mc ≤ R.cells ∧ slots + ms ≤ R.slots) :
    va_Run p l e R s m args below meth c H locs cells slots mc ms g rest (Qc As.toArray) (free) := by
  obtain ⟨⟨hrc, hrs, hfr, hlo, hws, hcw⟩, hcode, hini, hy, hlen, hl, hstt⟩ := cw
  have hK : Back l R p e below s args y 3 8 (PreOf R mc ms Pc) (PostOf Qc mc ms free) := va_backW (hh := hh) (bytes := bytes) (maxL := maxL) (ret := ret) hM hp.1 hrc hrs hfr hlo hws hcw (fun a' U hW => word_at hW (Or.inl (by first | rfl | simp [Cond.onTables, Cond.keeps, Cond.steady])) hini)
  obtain ⟨hx, hb, hml, ho, -⟩ := S
  intro T hT X
  obtain ⟨v, vm₁, ⟨U', l2, c2, s2⟩, hW₁, X', ⟨g', mk, t, L, e1, e2, hq, h1, hL, h2, h3⟩, st⟩ := vx_callSW X hx (hh := hh) (bytes := bytes) (maxL := maxL) (ret := ret) ho hl hstt hini hcode hy hK hg (hsize.trans hml.symm) (argsL := As) (rest := rest) (fun sig h => hn.trans (hlen sig h)) hstack hW (by rw [hb]; exact hdg)
    (fun vm₁ hW₁ => ⟨hf.1, hf.2, hp.2 (T.setVm vm₁) hT hW₁⟩)
  dsimp only [Pt.U, Pt.locs, Pt.cells, Pt.slots] at X' e1 e2 h1 h2 h3 st
  subst h1; subst h2; subst h3
  exact ⟨v, (T.setVm vm₁).calling g' mk As.toArray, t, U', L, hT, X', hL, e1, e2, hq, st⟩
/-- not caught here, past rows that name other classes: it goes on to the caller -/
theorem vx_outP {p : Program} {l : Launch} {e : Env} {R : Room} {s : State} {m : MethodId} {args : Array Value} {below : List Frame} {meth : Method} {c : Code} {H : Heap} {locs : List Loc} {cells slots : Nat} {free : Addr → Prop} {ls : Array Slot} {rest : List Value} {Qc : Array Value → State → Outcome → State → Prop} {XC : String → State → State → Prop}
    {pc : Nat} {own E : String} {ce : Cell} {q : Addr} {mc ms : Nat} (hown : s.vm.findClass own = some m.cls) (hlocks : meth.locks = false)
    (hpass : ∀ z ∈ c.exceptionTable.toList, covers z pc = false ∨ (z.catchType ≠ 0 ∧ ∃ nm : String, (Cond.classLink own z.catchType nm).before args s = true ∧ va_Nc E nm s)) (hcell : H[q]? = some ce) (hv : ce.vm = .none) (hcl : s.vm.findClass E = some ce.cls)
    (hx : ∀ t : State, t.heap = H → s.vm.Alike t.vm → XC E s t) (hf : ∀ z ∈ locs, free z.base) (hc : cells ≤ mc) (hs : slots ≤ ms) :
    vx_W p l e R s m args below meth c H locs cells slots (vx_MQ below Qc XC args s mc ms free) (F0 m pc ls rest) q := by
  intro T hT X
  have hpl : e.platform.magicAccessors = ({} : Platform).magicAccessors := by rw [X.admits.platform]
  obtain ⟨vm', hW', X', st⟩ := X.outThrough hlocks q (g := F0 m pc ls rest) rfl rfl rfl (cell := ce) (by rw [hT]; exact hcell) (by rw [hv]; rfl)
    (by obtain ⟨k9, h9, -⟩ := Vm.findClass_spec hcl; exact ⟨k9, h9⟩) (fun z hz => by
      rcases hpass z hz with h | ⟨hz0, nm, hl1, hn1⟩
      · exact Or.inl h
      · obtain ⟨c6, hc6, hcl6⟩ := Cond.classLink_spec hown hl1 e.platform hpl
        obtain ⟨a8, b8, h1, h2, h3⟩ := hn1
        cases Option.some.inj (h1.symm.trans hcl)
        cases Option.some.inj (h2.symm.trans hc6)
        exact Or.inr ⟨hz0, _, hcl6, h3⟩)
  obtain ⟨g₀, hfr⟩ := X'.frames_eq
  have hcell9 : ((T.setVm vm').setFrames (.throwing q :: below)).heap[q]? = some ce := by
    show T.heap[q]? = some ce
    rw [hT]; exact hcell
  have hend : Ended ((T.setVm vm').setFrames (.throwing q :: below)) below (.threw q) := State.frames_setFrames _ (State.cur_lt_of_frames hfr)
  refine ⟨(T.setVm vm').setFrames (.throwing q :: below), ?_, .threw q, X'.here.running, hend, Or.inr ⟨q, rfl, E, ce, locs, hx _ hT (X'.ends _).1.alike, hcell9, hv, hcl, (X'.ends _).1, (X'.ends _).2.mono hc hs, hf⟩⟩
  rw [X.pushThrowing_eq]
  exact st
/-- a thing of a world lies in the heap -/
theorem vx_lt {D : va_G} {cl : List vw_C} {ws : va_W} {H1 : Heap} (h : va_P D cl ws H1) {k : Nat} {q : Nat × va_E} (hk : ws[k]? = some q) : q.1 < H1.size := (h k q hk).lt
end VXS
/-! ===== END ===== -/
/-! ===== BEGIN methods with a table of their own: called by a name, returning or throwing ===== -/
section VXH
/-! vx_backW, vx_callVX, vx_callSX, vx_callVW, vx_runVW, vx_runVX, vx_runSX, vx_ofWH follow the same proofs as their sisters above (Free/Laws.lean, Shelf42/LK1.lean); vx_outP calls Shelf42/NT130.lean (outThrough). -/
section
variable {l : Launch} {R : Room} {p : Program} {e : Env} {below : List Frame} {s : State} {sargs : Array Value} {y : MethodName} {len W9 : Nat}
theorem vx_backW {ws : List Cond} {rm : Room} {Pc : Array Value → State → Prop} {Qc : Array Value → State → Outcome → State → Prop} {XC : String → State → State → Prop} {mc ms : Nat} {free : Addr → Prop} {bytes : ByteArray} {maxL : Nat} {ret : Option FieldType} {hh : List (Nat × Nat × Nat × Nat)}
    (hM : vx_Met l y ws rm Pc Qc XC mc ms free) (hblind : FrameBlind Pc) (hrc : rm.cells = mc) (hrs : rm.slots = ms)
    (hframes : rm.frames + 1 ≤ R.frames) (hlocals : W9 + (maxL + 11) + rm.locals ≤ R.locals)
    (hws : ∀ w ∈ ws, ∀ a' U, s.WarmedH U.vm → w.before a' U = true) (hcode : Cond.codeWith y bytes maxL ret hh ∈ ws) (hinit : ∀ a' U, s.WarmedH U.vm → (Cond.initialized y.cls).before a' U = true) :
    vx_Back l R p e below s sargs y len W9 (PreOf R mc ms Pc) (PostOf Qc mc ms free) (vx_Post XC mc ms free) := by
  intro m meth c A g ig mk a X hg hsize hdg hW hn hp
  have h1 : (headSpec ws rm).pre.before a A.U = true := atoms_intro fun w hw => hws w hw _ _ X.warmed
  have h2 : (Cond.codeWith y bytes maxL ret hh).before a A.U = true := hws _ hcode _ _ X.warmed
  have h3 : (Cond.initialized y.cls).before a A.U = true := hinit _ _ X.warmed
  have h4 : A.cells + (headSpec ws rm).room.cells ≤ R.cells := by rw [show (headSpec ws rm).room.cells = mc from hrc]; exact hp.1
  have h5 : A.slots + (headSpec ws rm).room.slots ≤ R.slots := by rw [show (headSpec ws rm).room.slots = ms from hrs]; exact hp.2.1
  have hPc : Pc a (A.U.calling g mk a) := hblind _ _ _ _ hp.2.2
  obtain ⟨U, Ls, c0, s0⟩ := A
  dsimp only [Pt.U, Pt.locs, Pt.cells, Pt.slots] at h1 h2 h3 h4 h5 X hn hPc ⊢
  obtain ⟨m9, methY, cY, hn9, hmY, hcY, -, hlY, -⟩ := Cond.codeWith_spec h2
  cases Option.some.inj (hn9.symm.trans hn)
  obtain ⟨kY, hkY, -⟩ := className_of_methodNamed hn
  have hinitY : kY.init = .initialized := Cond.initialized_spec (findClass_of_methodNamed hn) hkY h3
  have h : At U g.method c below := by rw [hg]; exact X.here
  have hlocals9 : W9 + (maxL + 11) + (headSpec ws rm).room.locals ≤ R.locals := hlocals
  have happ : (headSpec ws rm).appliesLoose y e.platform (U.calling g mk a) = true :=
    Spec.appliesLoose_calling (g := g) h hdg hn hkY hinitY
      (X.room_calling (g := g) (R' := (headSpec ws rm).room) hsize hmY hcY hframes (by rw [hlY]; omega) h4 h5) h1
  obtain ⟨mid, hmid⟩ := h.above
  have hfr : (U.setTop g).frames = (.java g :: mid) ++ below := by rw [State.frames_setTop' g h.top, hmid]; rfl
  obtain ⟨o, s₂, hsteps, -, hend, hq⟩ := Steps.callFree hM p X.admits X.cas X.clock (acts := []) hfr happ hPc trivial
  have hq' : vx_Q Qc XC mc ms free a (U.calling g mk a) o s₂ := hq
  rw [State.frames_setTop' g h.top] at hend
  obtain ⟨g₀, hg0⟩ := Option.isSome_iff_exists.mp h.top
  obtain ⟨r, hr⟩ := State.topJava?_eq_some.mp hg0
  have hr' : (({ U with heap := s₂.heap, slotsUsed := s₂.slotsUsed } : State).setVm s₂.vm).frames = .java g₀ :: r := hr
  rcases hq' with ⟨hqc, L, hfe, hL⟩ | ⟨q, rfl, E, ce, L, hx, hce, hcv, hcl, hW₂, hsm, hL⟩
  · obtain ⟨⟨v, rfl⟩, hW₂, e2, q2, q3, q4, q5, q6⟩ := id hfe
    have e3 : s₂ = ({ (U.calling g mk a).setFrames s₂.frames with heap := s₂.heap, slotsUsed := s₂.slotsUsed } : State).setVm s₂.vm := by
      have : s₂ = ({ s₂ with vm := (U.calling g mk a).vm } : State).setVm s₂.vm := rfl
      rw [e2] at this
      exact this
    obtain ⟨c₂, i₂, len₂, hc₂, hd₂, hf₂⟩ := hend
    have hW' : U.WarmedH s₂.vm := hW₂
    have hcc : c₂ = c := by
      have h1 : s₂.code? g.method = U.code? g.method := by
        rw [State.code?_eq, State.code?_eq, hW'.alike.method?]
      exact Option.some.inj (hc₂.symm.trans (h1.trans h.code))
    subst hcc
    have hlen : len₂ = len := by rw [hdg] at hd₂; cases hd₂; rfl
    subst hlen
    have hs₂ : s₂ = (({ U with heap := s₂.heap, slotsUsed := s₂.slotsUsed } : State).setVm s₂.vm).setTop { g with pc := g.pc + len₂, stack := v.toList ++ g.stack } := by
      refine e3.trans ?_
      rw [hf₂, State.calling_eq h.top, State.setFrames_setFrames, State.setTop_of_frames _ hr', hr]
      rfl
    have hsame : U.sameButNew ({ U with heap := s₂.heap, slotsUsed := s₂.slotsUsed } : State) L mc ms := by
      refine ⟨?_, q2, q3, q4, q5, q6⟩
      obtain ⟨t, ht, -⟩ := State.frames_cons hr
      show ({ U with heap := s₂.heap, slotsUsed := s₂.slotsUsed } : State) = { U.setFrames U.frames with heap := s₂.heap, slotsUsed := s₂.slotsUsed }
      rw [State.setFrames_self ht]
    subst hg
    refine Or.inl ⟨v, ⟨(({ U with heap := s₂.heap, slotsUsed := s₂.slotsUsed } : State).setVm s₂.vm), Ls ++ L, c0 + mc, s0 + ms⟩,
      ⟨X.admits, X.cas, X.clock, X.frames, X.room, X.hears, X.method, X.code, (X.here.setHeapUsed s₂.heap s₂.slotsUsed).setVm hW'.alike, X.tail, State.WarmedH.trans X.warmed hW', X.limits, X.bytes, X.same.trans (hsame.setVm s.vm)⟩,
      ⟨g, mk, s₂, L, rfl, rfl, hqc, rfl, hL, rfl, rfl⟩, ?_⟩
    show Steps p.tables e below _ ((({ U with heap := s₂.heap, slotsUsed := s₂.slotsUsed } : State).setVm s₂.vm).setTop { g with pc := g.pc + len₂, stack := v.toList ++ g.stack })
    rw [← hs₂]
    exact hsteps
  · obtain ⟨e2, q2, q3, q4, q5, q6⟩ := id hsm
    have e3 : s₂ = ({ (U.calling g mk a).setFrames s₂.frames with heap := s₂.heap, slotsUsed := s₂.slotsUsed } : State).setVm s₂.vm := by
      have : s₂ = ({ s₂ with vm := (U.calling g mk a).vm } : State).setVm s₂.vm := rfl
      rw [e2] at this
      exact this
    have hf₂ : s₂.frames = .throwing q :: .java g :: U.frames.tail := hend
    have hW' : U.WarmedH s₂.vm := hW₂
    have hs₂ : s₂ = ((({ U with heap := s₂.heap, slotsUsed := s₂.slotsUsed } : State).setVm s₂.vm).setTop g).pushFrame (.throwing q) := by
      refine e3.trans ?_
      rw [hf₂, State.calling_eq h.top, State.setFrames_setFrames, State.pushFrame, State.frames_setTop _ hr', State.setTop_of_frames _ hr', State.setFrames_setFrames, hr]
      rfl
    have hsame : U.sameButNew ({ U with heap := s₂.heap, slotsUsed := s₂.slotsUsed } : State) L mc ms := by
      refine ⟨?_, q2, q3, q4, q5, q6⟩
      obtain ⟨t, ht, -⟩ := State.frames_cons hr
      show ({ U with heap := s₂.heap, slotsUsed := s₂.slotsUsed } : State) = { U.setFrames U.frames with heap := s₂.heap, slotsUsed := s₂.slotsUsed }
      rw [State.setFrames_self ht]
    subst hg
    refine Or.inr ⟨q, ⟨(({ U with heap := s₂.heap, slotsUsed := s₂.slotsUsed } : State).setVm s₂.vm), Ls ++ L, c0 + mc, s0 + ms⟩,
      ⟨X.admits, X.cas, X.clock, X.frames, X.room, X.hears, X.method, X.code, (X.here.setHeapUsed s₂.heap s₂.slotsUsed).setVm hW'.alike, X.tail, State.WarmedH.trans X.warmed hW', X.limits, X.bytes, X.same.trans (hsame.setVm s.vm)⟩,
      ⟨g, mk, s₂, L, E, ce, rfl, rfl, hx, hce, hcv, hcl, rfl, hL, rfl, rfl⟩, ?_⟩
    show Steps p.tables e below _ (((({ U with heap := s₂.heap, slotsUsed := s₂.slotsUsed } : State).setVm s₂.vm).setTop g).pushFrame (.throwing q))
    rw [← hs₂]
    exact hsteps
end
variable {p : Program} {l : Launch} {e : Env} {R : Room} {s : State} {m : MethodId} {args : Array Value} {below : List Frame} {meth : Method} {c : Code} {T : State} {H : Heap} {locs : List Loc} {cells slots : Nat}
theorem vx_callVX (X : Stand p l e R s m args below meth c T locs cells slots) (hexec : p.tables.exec = Jvm.exec) {own C : String} {index : Nat} {y : MethodName} {bytes : ByteArray} {maxL : Nat} {ret : Option FieldType} {hh : List (Nat × Nat × Nat × Nat)}
    (hown : s.vm.findClass own = some m.cls) (hlink : (Cond.methodLink own index y).before args s = true) (hinst : (Cond.instanceMethod y).before args s = true) (hsel : (Cond.selects C y y).before args s = true)
    (hcode : (Cond.codeWith y bytes maxL ret hh).before args s = true) (hy : y.cls ≠ "java/lang/invoke/MethodHandle" ∧ y.cls ≠ "java/lang/invoke/VarHandle")
    {W9 : Nat} {Pre : Pt → Array Value → Prop} {Post : Pt → Array Value → Option Value → Pt → Prop} {PostX : Pt → Array Value → Addr → Pt → Prop} (hK : vx_Back l R p e below s args y 3 W9 Pre Post PostX)
    {b : Addr} {cellB : Cell} (hcell : T.heap[b]? = some cellB) (hobj : cellB.vm.isStatics = false) (hcls : s.vm.findClass C = some cellB.cls)
    {g : JFrame} (hg : g.method = m) (hsize : g.locals.size = c.maxLocals) {argsL rest : List Value} (hlen : ∀ sig, parseMethodDescriptor y.desc = some sig → argsL.length = sig.parameters.length)
    (hstack : g.stack = argsL.reverse ++ .ref b :: rest) (hW : 2 * g.monitorRoom + (rest.map fun v => v.category).sum ≤ W9) (hdg : decode c.code g.pc = .ok (.invokevirtual index, 3))
    (hpre : ∀ vm₁, s.WarmedH vm₁ → Pre ⟨T.setVm vm₁, locs, cells, slots⟩ (Value.ref b :: argsL).toArray) :
    (∃ (v : Option Value) (vm₁ : Vm) (B : Pt), s.WarmedH vm₁ ∧ Stand p l e R s m args below meth c B.U B.locs B.cells B.slots ∧ Post ⟨T.setVm vm₁, locs, cells, slots⟩ (Value.ref b :: argsL).toArray v B ∧
      ∀ target, Steps p.tables e below (B.U.setTop { g with pc := g.pc + 3, stack := v.toList ++ rest }) target → Steps p.tables e below (T.setTop g) target) ∨
    (∃ (q : Addr) (vm₁ : Vm) (B : Pt), s.WarmedH vm₁ ∧ Stand p l e R s m args below meth c B.U B.locs B.cells B.slots ∧ PostX ⟨T.setVm vm₁, locs, cells, slots⟩ (Value.ref b :: argsL).toArray q B ∧
      Steps p.tables e below (T.setTop g) ((B.U.setTop { g with stack := rest }).pushFrame (.throwing q))) := by
  obtain ⟨mk, methM, hnamed, hmethM, hstM, habM⟩ := Cond.instanceMethod_spec hinst
  obtain ⟨m8, methM', cM, hn8, hmethM', -, -, -, -, -, -, hsigM⟩ := Cond.codeWith_spec hcode
  cases Option.some.inj (hn8.symm.trans hnamed)
  cases hmethM.symm.trans hmethM'
  obtain ⟨c2, r2, m2, q1, q2, q3, q4, kP, hkP, hkPi⟩ := Cond.selects_spec hsel
  cases hcls.symm.trans q1
  cases (State.methodFound?_of_named hnamed hy).symm.trans q2
  cases hnamed.symm.trans q3
  have hselP : selectMethod e.platform s.vm cellB.cls mk = .method mk := by rw [Launch.admits_selectMethod X.admits]; exact q4
  obtain ⟨vm₁, X₁, hstep₁⟩ := X.invokevirtual hexec hown hlink hnamed hmethM hstM hkP hkPi hy (a := b) (cell := cellB) hcell
    (fun z h => by rw [h] at hobj; cases hobj) hselP hmethM habM hkP hkPi (g := g) hg (argsL := argsL) (rest := rest) (hlen _ hsigM) hstack hdg
  rcases hK m meth c ⟨T.setVm vm₁, locs, cells, slots⟩ { g with stack := rest } (.invokevirtual index) mk (Value.ref b :: argsL).toArray X₁ hg hsize hdg hW (X₁.named hnamed) (hpre vm₁ X₁.warmed) with ⟨v, B, X', hpost, hsteps⟩ | ⟨q, B, X', hpost, hsteps⟩
  · exact Or.inl ⟨v, vm₁, B, X₁.warmed, X', hpost, fun target h => hstep₁ _ fun acts => by rw [doInvoke_state]; exact hsteps.trans h⟩
  · exact Or.inr ⟨q, vm₁, B, X₁.warmed, X', hpost, hstep₁ _ fun acts => by rw [doInvoke_state]; exact hsteps⟩
theorem vx_callSX (X : Stand p l e R s m args below meth c T locs cells slots) (hexec : p.tables.exec = Jvm.exec) {own : String} {index : Nat} {y : MethodName} {bytes : ByteArray} {maxL : Nat} {ret : Option FieldType} {hh : List (Nat × Nat × Nat × Nat)}
    (hown : s.vm.findClass own = some m.cls) (hlink : (Cond.methodLink own index y).before args s = true) (hstat : (Cond.static y).before args s = true) (hinit : (Cond.initialized y.cls).before args s = true)
    (hcode : (Cond.codeWith y bytes maxL ret hh).before args s = true) (hy : y.cls ≠ "java/lang/invoke/MethodHandle" ∧ y.cls ≠ "java/lang/invoke/VarHandle")
    {W9 : Nat} {Pre : Pt → Array Value → Prop} {Post : Pt → Array Value → Option Value → Pt → Prop} {PostX : Pt → Array Value → Addr → Pt → Prop} (hK : vx_Back l R p e below s args y 3 W9 Pre Post PostX)
    {g : JFrame} (hg : g.method = m) (hsize : g.locals.size = c.maxLocals) {argsL rest : List Value} (hlen : ∀ sig, parseMethodDescriptor y.desc = some sig → argsL.length = sig.parameters.length)
    (hstack : g.stack = argsL.reverse ++ rest) (hW : 2 * g.monitorRoom + (rest.map fun v => v.category).sum ≤ W9) (hdg : decode c.code g.pc = .ok (.invokestatic index, 3))
    (hpre : ∀ vm₁, s.WarmedH vm₁ → Pre ⟨T.setVm vm₁, locs, cells, slots⟩ argsL.toArray) :
    (∃ (v : Option Value) (vm₁ : Vm) (B : Pt), s.WarmedH vm₁ ∧ Stand p l e R s m args below meth c B.U B.locs B.cells B.slots ∧ Post ⟨T.setVm vm₁, locs, cells, slots⟩ argsL.toArray v B ∧
      ∀ target, Steps p.tables e below (B.U.setTop { g with pc := g.pc + 3, stack := v.toList ++ rest }) target → Steps p.tables e below (T.setTop g) target) ∨
    (∃ (q : Addr) (vm₁ : Vm) (B : Pt), s.WarmedH vm₁ ∧ Stand p l e R s m args below meth c B.U B.locs B.cells B.slots ∧ PostX ⟨T.setVm vm₁, locs, cells, slots⟩ argsL.toArray q B ∧
      Steps p.tables e below (T.setTop g) ((B.U.setTop { g with stack := rest }).pushFrame (.throwing q))) := by
  obtain ⟨mk, methM, cM, hnamed, hmethM, -, -, -, -, -, -, hsigM⟩ := Cond.codeWith_spec hcode
  have hstatic : methM.isStatic = true := Cond.static_spec hnamed hmethM hstat
  obtain ⟨kP, hkP, -⟩ := className_of_methodNamed hnamed
  have hinitP : kP.init = .initialized := Cond.initialized_spec (findClass_of_methodNamed hnamed) hkP hinit
  obtain ⟨vm₁, X₁, hstep₁⟩ := X.invokestatic hexec hown hlink hnamed hmethM hstatic hkP hinitP hy (g := g) hg (argsL := argsL) (rest := rest) (hlen _ hsigM) hstack hdg
  rcases hK m meth c ⟨T.setVm vm₁, locs, cells, slots⟩ { g with stack := rest } (.invokestatic index) mk argsL.toArray X₁ hg hsize hdg hW (X₁.named hnamed) (hpre vm₁ X₁.warmed) with ⟨v, B, X', hpost, hsteps⟩ | ⟨q, B, X', hpost, hsteps⟩
  · exact Or.inl ⟨v, vm₁, B, X₁.warmed, X', hpost, fun target h => hstep₁ _ fun acts => by rw [doInvoke_state]; exact hsteps.trans h⟩
  · exact Or.inr ⟨q, vm₁, B, X₁.warmed, X', hpost, hstep₁ _ fun acts => by rw [doInvoke_state]; exact hsteps⟩
theorem vx_callVW (X : Stand p l e R s m args below meth c T locs cells slots) (hexec : p.tables.exec = Jvm.exec) {own C : String} {index : Nat} {y : MethodName} {bytes : ByteArray} {maxL : Nat} {ret : Option FieldType} {hh : List (Nat × Nat × Nat × Nat)}
    (hown : s.vm.findClass own = some m.cls) (hlink : (Cond.methodLink own index y).before args s = true) (hinst : (Cond.instanceMethod y).before args s = true) (hsel : (Cond.selects C y y).before args s = true)
    (hcode : (Cond.codeWith y bytes maxL ret hh).before args s = true) (hy : y.cls ≠ "java/lang/invoke/MethodHandle" ∧ y.cls ≠ "java/lang/invoke/VarHandle")
    {W9 : Nat} {Pre : Pt → Array Value → Prop} {Post : Pt → Array Value → Option Value → Pt → Prop} (hK : Back l R p e below s args y 3 W9 Pre Post)
    {b : Addr} {cellB : Cell} (hcell : T.heap[b]? = some cellB) (hobj : cellB.vm.isStatics = false) (hcls : s.vm.findClass C = some cellB.cls)
    {g : JFrame} (hg : g.method = m) (hsize : g.locals.size = c.maxLocals) {argsL rest : List Value} (hlen : ∀ sig, parseMethodDescriptor y.desc = some sig → argsL.length = sig.parameters.length)
    (hstack : g.stack = argsL.reverse ++ .ref b :: rest) (hW : 2 * g.monitorRoom + (rest.map fun v => v.category).sum ≤ W9) (hdg : decode c.code g.pc = .ok (.invokevirtual index, 3))
    (hpre : ∀ vm₁, s.WarmedH vm₁ → Pre ⟨T.setVm vm₁, locs, cells, slots⟩ (Value.ref b :: argsL).toArray) :
    ∃ (v : Option Value) (vm₁ : Vm) (B : Pt), s.WarmedH vm₁ ∧ Stand p l e R s m args below meth c B.U B.locs B.cells B.slots ∧ Post ⟨T.setVm vm₁, locs, cells, slots⟩ (Value.ref b :: argsL).toArray v B ∧
      ∀ target, Steps p.tables e below (B.U.setTop { g with pc := g.pc + 3, stack := v.toList ++ rest }) target → Steps p.tables e below (T.setTop g) target := by
  obtain ⟨mk, methM, hnamed, hmethM, hstM, habM⟩ := Cond.instanceMethod_spec hinst
  obtain ⟨m8, methM', cM, hn8, hmethM', -, -, -, -, -, -, hsigM⟩ := Cond.codeWith_spec hcode
  cases Option.some.inj (hn8.symm.trans hnamed)
  cases hmethM.symm.trans hmethM'
  obtain ⟨c2, r2, m2, q1, q2, q3, q4, kP, hkP, hkPi⟩ := Cond.selects_spec hsel
  cases hcls.symm.trans q1
  cases (State.methodFound?_of_named hnamed hy).symm.trans q2
  cases hnamed.symm.trans q3
  have hselP : selectMethod e.platform s.vm cellB.cls mk = .method mk := by rw [Launch.admits_selectMethod X.admits]; exact q4
  obtain ⟨vm₁, X₁, hstep₁⟩ := X.invokevirtual hexec hown hlink hnamed hmethM hstM hkP hkPi hy (a := b) (cell := cellB) hcell
    (fun z h => by rw [h] at hobj; cases hobj) hselP hmethM habM hkP hkPi (g := g) hg (argsL := argsL) (rest := rest) (hlen _ hsigM) hstack hdg
  obtain ⟨v, B, X', hpost, hsteps⟩ := hK m meth c ⟨T.setVm vm₁, locs, cells, slots⟩ { g with stack := rest } (.invokevirtual index) mk (Value.ref b :: argsL).toArray X₁ hg hsize hdg hW (X₁.named hnamed) (hpre vm₁ X₁.warmed)
  exact ⟨v, vm₁, B, X₁.warmed, X', hpost, fun target h => hstep₁ _ fun acts => by rw [doInvoke_state]; exact hsteps.trans h⟩
abbrev vx_CVW (R : Room) (s : State) (args : Array Value) (own C : String) (index : Nat) (y : MethodName) (bytes : ByteArray) (maxL : Nat) (ret : Option FieldType) (hh : List (Nat × Nat × Nat × Nat)) (ws : List Cond) (rm : Room) (mc ms n : Nat) : Prop :=
  (rm.cells = mc ∧ rm.slots = ms ∧ rm.frames + 1 ≤ R.frames ∧ 8 + (maxL + 11) + rm.locals ≤ R.locals ∧ (∀ w ∈ ws, ∀ (a' : Array Value) (U : State), s.WarmedH U.vm → w.before a' U = true) ∧ Cond.codeWith y bytes maxL ret hh ∈ ws) ∧
  (Cond.codeWith y bytes maxL ret hh).before args s = true ∧ (Cond.initialized y.cls).before args s = true ∧ (y.cls ≠ "java/lang/invoke/MethodHandle" ∧ y.cls ≠ "java/lang/invoke/VarHandle") ∧
  (∀ sig, parseMethodDescriptor y.desc = some sig → n = sig.parameters.length) ∧ (Cond.methodLink own index y).before args s = true ∧ (Cond.instanceMethod y).before args s = true ∧ (Cond.selects C y y).before args s = true
theorem vx_cwVW {own C : String} {index maxL mc ms : Nat} {y : MethodName} {bytes : ByteArray} {ret : Option FieldType} {hh : List (Nat × Nat × Nat × Nat)} {Ts ws ws' : List Cond} {rm : Room} (n : Nat) (ht : ∀ w ∈ Ts, w.before args s = true) (hT : GoodIn Ts (wsV own index C y ws)) (hw : ws = Cond.codeWith y bytes maxL ret hh :: ws') (hrc : rm.cells = mc) (hrs : rm.slots = ms)
    (hd : y.cls = C ∧ y.cls ≠ "java/lang/invoke/MethodHandle" ∧ y.cls ≠ "java/lang/invoke/VarHandle" ∧ (parseMethodDescriptor y.desc).map (fun d => d.parameters.length) = some n) (hR : rm.frames + 1 ≤ R.frames ∧ 8 + (maxL + 11) + rm.locals ≤ R.locals) :
    vx_CVW R s args own C index y bytes maxL ret hh ws rm mc ms n := by
  obtain ⟨hC, hd⟩ := hd
  subst hC
  have ok : ∀ w ∈ wsV own index y.cls y ws, w.before args s = true := fun w h => ht w (hT w h).1
  have hG : GoodIn Ts ws := fun w h => hT w (by unfold wsV; exact List.mem_append_right _ h)
  have hc : Cond.codeWith y bytes maxL ret hh ∈ ws := by rw [hw]; exact List.mem_cons_self
  refine ⟨⟨hrc, hrs, hR.1, hR.2, pay_in ht hG, hc⟩, ht _ (hG _ hc).1, ok _ (by simp [wsV]), ⟨hd.1, hd.2.1⟩, fun sig h => ?_, ok _ (by simp [wsV]), ok _ (by simp [wsV]), ok _ (by simp [wsV])⟩
  have h2 := hd.2.2
  rw [h] at h2
  exact (Option.some.inj h2).symm
theorem vx_runVW {y : MethodName} {bytes cc : ByteArray} {maxL nL mc ms n index : Nat} {ret : Option FieldType} {hh : List (Nat × Nat × Nat × Nat)} {ws : List Cond} {rm : Room} {Pc : Array Value → State → Prop} {Qc : Array Value → State → Outcome → State → Prop} {free : Addr → Prop} {Ts : List Cond} {own C : String} {b : Addr} {As rest : List Value} {g : JFrame}
    (S : CallFix p m c cc nL s args Ts own) (hM : Met l y ws rm Pc Qc mc ms free) (cw : vx_CVW R s args own C index y bytes maxL ret hh ws rm mc ms n) (hp : PreV s H C b Pc As)
    (hg : g.method = m) (hn : As.length = n) (hsize : g.locals.size = nL) (hstack : g.stack = As.reverse ++ .ref b :: rest) (hW : 2 * g.monitorRoom + (rest.map fun v => v.category).sum ≤ 8) (hdg : decode cc g.pc = .ok (.invokevirtual index, 3)) (hf : cells + mc ≤ R.cells ∧ slots + ms ≤ R.slots) :
    va_Run p l e R s m args below meth c H locs cells slots mc ms g rest (Qc (Value.ref b :: As).toArray) free := by
  obtain ⟨⟨hrc, hrs, hfr, hlo, hws, hcw⟩, hcode, hini, hy, hlen, hl, hin, hse⟩ := cw
  have hK : Back l R p e below s args y 3 8 (PreOf R mc ms Pc) (PostOf Qc mc ms free) := va_backW (hh := hh) (bytes := bytes) (maxL := maxL) (ret := ret) hM hp.1 hrc hrs hfr hlo hws hcw (fun a' U hW => word_at hW (Or.inl (by first | rfl | simp [Cond.onTables, Cond.keeps, Cond.steady])) hini)
  obtain ⟨hx, hb, hml, ho, -⟩ := S
  obtain ⟨-, ⟨cellB, hcB, hoB, hclB⟩, hPc⟩ := hp
  intro T hT X
  obtain ⟨v, vm₁, ⟨U', l2, c2, s2⟩, hW₁, X', ⟨g', mk, t, L, e1, e2, hq, h1, hL, h2, h3⟩, st⟩ := vx_callVW X hx (C := C) (hh := hh) (bytes := bytes) (maxL := maxL) (ret := ret) ho hl hin hse hcode hy hK (by rw [hT]; exact hcB) hoB hclB hg (hsize.trans hml.symm) (argsL := As) (rest := rest) (fun sig h => hn.trans (hlen sig h)) hstack hW (by rw [hb]; exact hdg)
    (fun vm₁ hW₁ => ⟨hf.1, hf.2, hPc (T.setVm vm₁) hT hW₁⟩)
  dsimp only [Pt.U, Pt.locs, Pt.cells, Pt.slots] at X' e1 e2 h1 h2 h3 st
  subst h1; subst h2; subst h3
  exact ⟨v, (T.setVm vm₁).calling g' mk (Value.ref b :: As).toArray, t, U', L, hT, X', hL, e1, e2, hq, st⟩
section
variable {y : MethodName} {bytes cc : ByteArray} {maxL nL mc ms n index : Nat} {ret : Option FieldType} {ws : List Cond} {rm : Room} {Pc : Array Value → State → Prop} {Qc : Array Value → State → Outcome → State → Prop} {XC : String → State → State → Prop} {free : Addr → Prop} {Ts : List Cond} {own C : String} {b : Addr} {As rest : List Value} {g : JFrame}
theorem vx_runVX {hh : List (Nat × Nat × Nat × Nat)} (S : CallFix p m c cc nL s args Ts own) (hM : vx_Met l y ws rm Pc Qc XC mc ms free) (cw : vx_CVW R s args own C index y bytes maxL ret hh ws rm mc ms n) (hp : PreV s H C b Pc As)
    (hg : g.method = m) (hn : As.length = n) (hsize : g.locals.size = nL) (hstack : g.stack = As.reverse ++ .ref b :: rest) (hW : 2 * g.monitorRoom + (rest.map fun v => v.category).sum ≤ 8) (hdg : decode cc g.pc = .ok (.invokevirtual index, 3)) (hf : cells + mc ≤ R.cells ∧ slots + ms ≤ R.slots) :
    vx_Run p l e R s m args below meth c H locs cells slots mc ms g rest (Qc (Value.ref b :: As).toArray) XC free := by
  obtain ⟨⟨hrc, hrs, hfr, hlo, hws, hcw⟩, hcode, hini, hy, hlen, hl, hin, hse⟩ := cw
  have hK : vx_Back l R p e below s args y 3 8 (PreOf R mc ms Pc) (PostOf Qc mc ms free) (vx_Post XC mc ms free) := vx_backW (hh := hh) (bytes := bytes) (maxL := maxL) (ret := ret) hM hp.1 hrc hrs hfr hlo hws hcw (fun a' U hW => word_at hW (Or.inl (by first | rfl | simp [Cond.onTables, Cond.keeps, Cond.steady])) hini)
  obtain ⟨hx, hb, hml, ho, -⟩ := S
  obtain ⟨-, ⟨cellB, hcB, hoB, hclB⟩, hPc⟩ := hp
  intro T hT X
  rcases vx_callVX X hx (C := C) (hh := hh) (bytes := bytes) (maxL := maxL) (ret := ret) ho hl hin hse hcode hy hK (by rw [hT]; exact hcB) hoB hclB hg (hsize.trans hml.symm) (argsL := As) (rest := rest) (fun sig h => hn.trans (hlen sig h)) hstack hW (by rw [hb]; exact hdg)
    (fun vm₁ hW₁ => ⟨hf.1, hf.2, hPc (T.setVm vm₁) hT hW₁⟩) with ⟨v, vm₁, ⟨U', l2, c2, s2⟩, hW₁, X', ⟨g', mk, t, L, e1, e2, hq, h1, hL, h2, h3⟩, st⟩ | ⟨q, vm₁, ⟨U', l2, c2, s2⟩, hW₁, X', ⟨g', mk, t, L, E, ce, e1, e2, hq, hce, hcv, hcl, h1, hL, h2, h3⟩, st⟩
  · dsimp only [Pt.U, Pt.locs, Pt.cells, Pt.slots] at X' e1 e2 h1 h2 h3 st
    subst h1; subst h2; subst h3
    exact Or.inl ⟨v, (T.setVm vm₁).calling g' mk (Value.ref b :: As).toArray, t, U', L, hT, X', hL, e1, e2, hq, st⟩
  · dsimp only [Pt.U, Pt.locs, Pt.cells, Pt.slots] at X' e1 e2 h1 h2 h3 st hcl
    subst h1; subst h2; subst h3
    exact Or.inr ⟨q, (T.setVm vm₁).calling g' mk (Value.ref b :: As).toArray, t, U', L, E, ce, hT, X', hL, e1, e2, hq, hce, hcv, vx_cls hW₁ hcl, st⟩
theorem vx_runSX {hh : List (Nat × Nat × Nat × Nat)} (S : CallFix p m c cc nL s args Ts own) (hM : vx_Met l y ws rm Pc Qc XC mc ms free) (cw : vx_CSW R s args own index y bytes maxL ret hh ws rm mc ms n) (hp : PreS s H Pc As)
    (hg : g.method = m) (hn : As.length = n) (hsize : g.locals.size = nL) (hstack : g.stack = As.reverse ++ rest) (hW : 2 * g.monitorRoom + (rest.map fun v => v.category).sum ≤ 8) (hdg : decode cc g.pc = .ok (.invokestatic index, 3)) (hf : cells + mc ≤ R.cells ∧ slots + ms ≤ R.slots) :
    vx_Run p l e R s m args below meth c H locs cells slots mc ms g rest (Qc As.toArray) XC free := by
  obtain ⟨⟨hrc, hrs, hfr, hlo, hws, hcw⟩, hcode, hini, hy, hlen, hl, hstt⟩ := cw
  have hK : vx_Back l R p e below s args y 3 8 (PreOf R mc ms Pc) (PostOf Qc mc ms free) (vx_Post XC mc ms free) := vx_backW (hh := hh) (bytes := bytes) (maxL := maxL) (ret := ret) hM hp.1 hrc hrs hfr hlo hws hcw (fun a' U hW => word_at hW (Or.inl (by first | rfl | simp [Cond.onTables, Cond.keeps, Cond.steady])) hini)
  obtain ⟨hx, hb, hml, ho, -⟩ := S
  intro T hT X
  rcases vx_callSX X hx (hh := hh) (bytes := bytes) (maxL := maxL) (ret := ret) ho hl hstt hini hcode hy hK hg (hsize.trans hml.symm) (argsL := As) (rest := rest) (fun sig h => hn.trans (hlen sig h)) hstack hW (by rw [hb]; exact hdg)
    (fun vm₁ hW₁ => ⟨hf.1, hf.2, hp.2 (T.setVm vm₁) hT hW₁⟩) with ⟨v, vm₁, ⟨U', l2, c2, s2⟩, hW₁, X', ⟨g', mk, t, L, e1, e2, hq, h1, hL, h2, h3⟩, st⟩ | ⟨q, vm₁, ⟨U', l2, c2, s2⟩, hW₁, X', ⟨g', mk, t, L, E, ce, e1, e2, hq, hce, hcv, hcl, h1, hL, h2, h3⟩, st⟩
  · dsimp only [Pt.U, Pt.locs, Pt.cells, Pt.slots] at X' e1 e2 h1 h2 h3 st
    subst h1; subst h2; subst h3
    exact Or.inl ⟨v, (T.setVm vm₁).calling g' mk As.toArray, t, U', L, hT, X', hL, e1, e2, hq, st⟩
  · dsimp only [Pt.U, Pt.locs, Pt.cells, Pt.slots] at X' e1 e2 h1 h2 h3 st hcl
    subst h1; subst h2; subst h3
    exact Or.inr ⟨q, (T.setVm vm₁).calling g' mk As.toArray, t, U', L, E, ce, hT, X', hL, e1, e2, hq, hce, hcv, vx_cls hW₁ hcl, st⟩
end
end VXH
theorem vx_ofWH {l : Launch} {y : MethodName} {ws ws' : List Cond} {rm : Room} {Pc : Array Value → State → Prop} {Qc : Array Value → State → Outcome → State → Prop} {XC : String → State → State → Prop} {mc ms : Nat} {free : Addr → Prop} {cc : ByteArray} {maxL : Nat} {ret : Option FieldType} {hh : List (Nat × Nat × Nat × Nat)}
    (hy : plainName y.cls = true) (hw : ws = Cond.codeWith y cc maxL ret hh :: ws')
    (body : ∀ p e s m args below meth c s₁, BodyLoose p l y (headSpec ws rm) cc maxL ret e s m args below meth c s₁ → c.maxLocals = maxL → Pc args s →
      W p l e (headSpec ws rm).room s m args below meth c s.heap [] 0 0 (vx_MQ below Qc XC args s mc ms free) (entryFrame m args maxL)) : vx_Met l y ws rm Pc Qc XC mc ms free := by
  refine MetFree.of_bodyS (code := cc) (maxLocals := maxL) (ret := ret) hy ?_ ?_
  · intro args s m h hn
    obtain ⟨m9, meth, c, hn9, h1, h2, h3, h4, -, h5, h6, -⟩ := Cond.codeWith_spec (atoms_spec (ws := ws) h _ (by rw [hw]; exact List.mem_cons_self))
    cases hn.symm.trans hn9
    exact ⟨meth, c, h1, h2, h3, h4, h5, h6⟩
  · intro p e s m args below meth c s₁ B hml hP _
    have hh0 : s₁.heap = s.heap := by rw [B.state]; rfl
    obtain ⟨t, a1, o, b1, b2, b3⟩ := body p e s m args below meth c s₁ B hml hP s₁ hh0 (Stand.of_body B)
    exact ⟨t, o, a1, b1, b2, b3⟩
/-! ===== END ===== -/
end
section
/-! ===== BEGIN printed: names, fields, word lists, decode rows ===== -/
def RX0 : String := "Barrierbook$Asset"
def TX0 : u_T := fun k => match k with
  | 0 => ("Barrierbook$Asset", "first", "I", false)
  | 1 => ("Barrierbook$Asset", "rise", "I", false)
  | _ => ("Barrierbook$Asset", "fall", "I", false)
def tyX0 : Nat → FieldType := fun k => match k with
  | 0 => .int
  | 1 => .int
  | _ => .int
abbrev wsX00 : List Cond := u_ws RX0 TX0 3
theorem nmX0 : ∀ a, a < 3 → ∀ b, b < 3 → a ≠ b → (TX0 a).2.1 ≠ (TX0 b).2.1 := by decide +kernel
theorem tyX0_ok : ∀ k, k < 3 → parseFieldDescriptor (TX0 k).2.2.1 = some (tyX0 k) := by decide +kernel
abbrev cX0_init : ByteArray := prog_2_method_1_code
def yX0_init : MethodName := ⟨RX0, "<init>", "()V"⟩
abbrev cX0_priceBehind : ByteArray := prog_2_method_2_code
def yX0_priceBehind : MethodName := ⟨RX0, "priceBehind", "(IZ)I"⟩
abbrev cX0_levelAt : ByteArray := prog_2_method_3_code
def yX0_levelAt : MethodName := ⟨RX0, "levelAt", "(I)I"⟩
def RX1 : String := "Barrierbook$Layer"
def TX1 : u_T := fun k => match k with
  | 0 => ("Barrierbook$Layer", "prices0", "[I", true)
  | 1 => ("Barrierbook$Layer", "prices1", "[I", true)
  | 2 => ("Barrierbook$Layer", "misses", "[I", true)
  | 3 => ("Barrierbook$Layer", "knocked", "[Z", true)
  | 4 => ("Barrierbook$Layer", "weights", "[J", true)
  | 5 => ("Barrierbook$Layer", "leasts", "[I", true)
  | 6 => ("Barrierbook$Layer", "mosts", "[I", true)
  | _ => ("Barrierbook$Layer", "size", "I", false)
def tyX1 : Nat → FieldType := fun k => match k with
  | 0 => .array .int
  | 1 => .array .int
  | 2 => .array .int
  | 3 => .array .boolean
  | 4 => .array .long
  | 5 => .array .int
  | 6 => .array .int
  | _ => .int
abbrev wsX10 : List Cond := u_ws RX1 TX1 8
theorem nmX1 : ∀ a, a < 8 → ∀ b, b < 8 → a ≠ b → (TX1 a).2.1 ≠ (TX1 b).2.1 := by decide +kernel
theorem tyX1_ok : ∀ k, k < 8 → parseFieldDescriptor (TX1 k).2.2.1 = some (tyX1 k) := by decide +kernel
abbrev cX1_init : ByteArray := prog_3_method_1_code
def yX1_init : MethodName := ⟨RX1, "<init>", "()V"⟩
abbrev cX1_holds : ByteArray := prog_3_method_2_code
def yX1_holds : MethodName := ⟨RX1, "holds", "(I)Z"⟩
abbrev cX1_add : ByteArray := prog_3_method_3_code
def yX1_add : MethodName := ⟨RX1, "add", "(LBarrierbook$Standing;JII)V"⟩
abbrev cX1_find : ByteArray := prog_3_method_4_code
def yX1_find : MethodName := ⟨RX1, "find", "(LBarrierbook$Standing;)I"⟩
abbrev cX1_show : ByteArray := prog_3_method_5_code
def yX1_show : MethodName := ⟨RX1, "show", "(IILBarrierbook$Standing;)V"⟩
def RX2 : String := "Barrierbook$Note"
def TX2 : u_T := fun k => match k with
  | 0 => ("Barrierbook$Note", "asset0", "LBarrierbook$Asset;", true)
  | 1 => ("Barrierbook$Note", "asset1", "LBarrierbook$Asset;", true)
  | 2 => ("Barrierbook$Note", "isAgainst", "Z", false)
  | 3 => ("Barrierbook$Note", "chance", "I", false)
  | 4 => ("Barrierbook$Note", "periods", "I", false)
  | 5 => ("Barrierbook$Note", "barrier", "I", false)
  | 6 => ("Barrierbook$Note", "couponLevel", "I", false)
  | 7 => ("Barrierbook$Note", "callLevel", "I", false)
  | 8 => ("Barrierbook$Note", "coupon", "I", false)
  | 9 => ("Barrierbook$Note", "isAtEnd", "Z", false)
  | _ => ("Barrierbook$Note", "remembers", "Z", false)
def tyX2 : Nat → FieldType := fun k => match k with
  | 0 => .object "Barrierbook$Asset"
  | 1 => .object "Barrierbook$Asset"
  | 2 => .boolean
  | 3 => .int
  | 4 => .int
  | 5 => .int
  | 6 => .int
  | 7 => .int
  | 8 => .int
  | 9 => .boolean
  | _ => .boolean
abbrev wsX20 : List Cond := u_ws RX2 TX2 11
theorem nmX2 : ∀ a, a < 11 → ∀ b, b < 11 → a ≠ b → (TX2 a).2.1 ≠ (TX2 b).2.1 := by decide +kernel
theorem tyX2_ok : ∀ k, k < 11 → parseFieldDescriptor (TX2 k).2.2.1 = some (tyX2 k) := by decide +kernel
abbrev cX2_init : ByteArray := prog_4_method_1_code
def yX2_init : MethodName := ⟨RX2, "<init>", "()V"⟩
abbrev cX2_weightOf : ByteArray := prog_4_method_2_code
def yX2_weightOf : MethodName := ⟨RX2, "weightOf", "(Z)I"⟩
def RX3 : String := "Barrierbook$Standing"
def TX3 : u_T := fun k => match k with
  | 0 => ("Barrierbook$Standing", "told", "I", false)
  | 1 => ("Barrierbook$Standing", "price0", "I", false)
  | 2 => ("Barrierbook$Standing", "price1", "I", false)
  | 3 => ("Barrierbook$Standing", "missed", "I", false)
  | 4 => ("Barrierbook$Standing", "isKnocked", "Z", false)
  | 5 => ("Barrierbook$Standing", "isOver", "Z", false)
  | 6 => ("Barrierbook$Standing", "paidLast", "I", false)
  | _ => ("Barrierbook$Standing", "paidInAll", "I", false)
def tyX3 : Nat → FieldType := fun k => match k with
  | 0 => .int
  | 1 => .int
  | 2 => .int
  | 3 => .int
  | 4 => .boolean
  | 5 => .boolean
  | 6 => .int
  | _ => .int
abbrev wsX30 : List Cond := u_ws RX3 TX3 8
theorem nmX3 : ∀ a, a < 8 → ∀ b, b < 8 → a ≠ b → (TX3 a).2.1 ≠ (TX3 b).2.1 := by decide +kernel
theorem tyX3_ok : ∀ k, k < 8 → parseFieldDescriptor (TX3 k).2.2.1 = some (tyX3 k) := by decide +kernel
abbrev cX3_init : ByteArray := prog_5_method_1_code
def yX3_init : MethodName := ⟨RX3, "<init>", "()V"⟩
abbrev cX3_begin : ByteArray := prog_5_method_2_code
def yX3_begin : MethodName := ⟨RX3, "begin", "(LBarrierbook$Note;)V"⟩
abbrev cX3_copy : ByteArray := prog_5_method_3_code
def yX3_copy : MethodName := ⟨RX3, "copy", "(LBarrierbook$Standing;)V"⟩
abbrev cX3_worstLevel : ByteArray := prog_5_method_4_code
def yX3_worstLevel : MethodName := ⟨RX3, "worstLevel", "(LBarrierbook$Note;)I"⟩
abbrev cX3_move : ByteArray := prog_5_method_5_code
def yX3_move : MethodName := ⟨RX3, "move", "(LBarrierbook$Note;Z)V"⟩
abbrev cX3_takeCoupons : ByteArray := prog_5_method_6_code
def yX3_takeCoupons : MethodName := ⟨RX3, "takeCoupons", "(LBarrierbook$Note;I)I"⟩
abbrev cX3_endPay : ByteArray := prog_5_method_7_code
def yX3_endPay : MethodName := ⟨RX3, "endPay", "(IZ)I"⟩
def RX4 : String := "Barrierbook$Tree"
def TX4 : u_T := fun k => match k with
  | 0 => ("Barrierbook$Tree", "branch", "LBarrierbook$Standing;", true)
  | 1 => ("Barrierbook$Tree", "endSums", "[J", true)
  | 2 => ("Barrierbook$Tree", "from", "LBarrierbook$Layer;", false)
  | 3 => ("Barrierbook$Tree", "to", "LBarrierbook$Layer;", false)
  | 4 => ("Barrierbook$Tree", "paidSum", "J", false)
  | 5 => ("Barrierbook$Tree", "knockedSum", "J", false)
  | 6 => ("Barrierbook$Tree", "lastStates", "I", false)
  | 7 => ("Barrierbook$Tree", "leastPaid", "I", false)
  | _ => ("Barrierbook$Tree", "mostPaid", "I", false)
def tyX4 : Nat → FieldType := fun k => match k with
  | 0 => .object "Barrierbook$Standing"
  | 1 => .array .long
  | 2 => .object "Barrierbook$Layer"
  | 3 => .object "Barrierbook$Layer"
  | 4 => .long
  | 5 => .long
  | 6 => .int
  | 7 => .int
  | _ => .int
abbrev wsX40 : List Cond := u_ws RX4 TX4 9
theorem nmX4 : ∀ a, a < 9 → ∀ b, b < 9 → a ≠ b → (TX4 a).2.1 ≠ (TX4 b).2.1 := by decide +kernel
theorem tyX4_ok : ∀ k, k < 9 → parseFieldDescriptor (TX4 k).2.2.1 = some (tyX4 k) := by decide +kernel
abbrev cX4_init : ByteArray := prog_6_method_1_code
def yX4_init : MethodName := ⟨RX4, "<init>", "()V"⟩
abbrev cX4_grow : ByteArray := prog_6_method_2_code
def yX4_grow : MethodName := ⟨RX4, "grow", "(LBarrierbook$Note;LBarrierbook$Standing;)V"⟩
abbrev cX4_endSumOf : ByteArray := prog_6_method_3_code
def yX4_endSumOf : MethodName := ⟨RX4, "endSumOf", "(I)J"⟩
abbrev cX4_clear : ByteArray := prog_6_method_4_code
def yX4_clear : MethodName := ⟨RX4, "clear", "()V"⟩
abbrev cX4_growPeriod : ByteArray := prog_6_method_5_code
def yX4_growPeriod : MethodName := ⟨RX4, "growPeriod", "(LBarrierbook$Note;I)V"⟩
abbrev cX4_growBranch : ByteArray := prog_6_method_6_code
def yX4_growBranch : MethodName := ⟨RX4, "growBranch", "(LBarrierbook$Note;IIZ)V"⟩
abbrev cX4_end : ByteArray := prog_6_method_7_code
def yX4_end : MethodName := ⟨RX4, "end", "(IJII)V"⟩
def RX5 : String := "Barrierbook"
def TX5 : u_T := fun k => match k with
  | 0 => ("Barrierbook", "note", "LBarrierbook$Note;", true)
  | 1 => ("Barrierbook", "now", "LBarrierbook$Standing;", true)
  | 2 => ("Barrierbook", "walker", "LBarrierbook$Standing;", true)
  | 3 => ("Barrierbook", "tree", "LBarrierbook$Tree;", true)
  | _ => ("Barrierbook", "moves", "I", false)
def tyX5 : Nat → FieldType := fun k => match k with
  | 0 => .object "Barrierbook$Note"
  | 1 => .object "Barrierbook$Standing"
  | 2 => .object "Barrierbook$Standing"
  | 3 => .object "Barrierbook$Tree"
  | _ => .int
abbrev wsX50 : List Cond := u_ws RX5 TX5 5
theorem nmX5 : ∀ a, a < 5 → ∀ b, b < 5 → a ≠ b → (TX5 a).2.1 ≠ (TX5 b).2.1 := by decide +kernel
theorem tyX5_ok : ∀ k, k < 5 → parseFieldDescriptor (TX5 k).2.2.1 = some (tyX5 k) := by decide +kernel
abbrev cX5_init : ByteArray := prog_1_method_1_code
def yX5_init : MethodName := ⟨RX5, "<init>", "()V"⟩
abbrev cX5_setAsset : ByteArray := prog_1_method_2_code
def yX5_setAsset : MethodName := ⟨RX5, "setAsset", "(IIII)V"⟩
abbrev cX5_setMoves : ByteArray := prog_1_method_3_code
def yX5_setMoves : MethodName := ⟨RX5, "setMoves", "(ZI)V"⟩
abbrev cX5_setNote : ByteArray := prog_1_method_4_code
def yX5_setNote : MethodName := ⟨RX5, "setNote", "(IIIII)V"⟩
abbrev cX5_setKind : ByteArray := prog_1_method_5_code
def yX5_setKind : MethodName := ⟨RX5, "setKind", "(ZZ)V"⟩
abbrev cX5_tell : ByteArray := prog_1_method_6_code
def yX5_tell : MethodName := ⟨RX5, "tell", "(Z)I"⟩
abbrev cX5_takeBack : ByteArray := prog_1_method_7_code
def yX5_takeBack : MethodName := ⟨RX5, "takeBack", "()I"⟩
abbrev cX5_told : ByteArray := prog_1_method_8_code
def yX5_told : MethodName := ⟨RX5, "told", "()I"⟩
abbrev cX5_price : ByteArray := prog_1_method_9_code
def yX5_price : MethodName := ⟨RX5, "price", "(I)I"⟩
abbrev cX5_worst : ByteArray := prog_1_method_10_code
def yX5_worst : MethodName := ⟨RX5, "worst", "()I"⟩
abbrev cX5_isKnocked : ByteArray := prog_1_method_11_code
def yX5_isKnocked : MethodName := ⟨RX5, "isKnocked", "()Z"⟩
abbrev cX5_missed : ByteArray := prog_1_method_12_code
def yX5_missed : MethodName := ⟨RX5, "missed", "()I"⟩
abbrev cX5_paid : ByteArray := prog_1_method_13_code
def yX5_paid : MethodName := ⟨RX5, "paid", "()I"⟩
abbrev cX5_isOver : ByteArray := prog_1_method_14_code
def yX5_isOver : MethodName := ⟨RX5, "isOver", "()Z"⟩
abbrev cX5_worth : ByteArray := prog_1_method_15_code
def yX5_worth : MethodName := ⟨RX5, "worth", "()J"⟩
abbrev cX5_worthByPaths : ByteArray := prog_1_method_16_code
def yX5_worthByPaths : MethodName := ⟨RX5, "worthByPaths", "()J"⟩
abbrev cX5_divisor : ByteArray := prog_1_method_17_code
def yX5_divisor : MethodName := ⟨RX5, "divisor", "()J"⟩
abbrev cX5_states : ByteArray := prog_1_method_18_code
def yX5_states : MethodName := ⟨RX5, "states", "()I"⟩
abbrev cX5_least : ByteArray := prog_1_method_19_code
def yX5_least : MethodName := ⟨RX5, "least", "()I"⟩
abbrev cX5_most : ByteArray := prog_1_method_20_code
def yX5_most : MethodName := ⟨RX5, "most", "()I"⟩
abbrev cX5_endsIn : ByteArray := prog_1_method_21_code
def yX5_endsIn : MethodName := ⟨RX5, "endsIn", "(I)J"⟩
abbrev cX5_knocks : ByteArray := prog_1_method_22_code
def yX5_knocks : MethodName := ⟨RX5, "knocks", "()J"⟩
abbrev cX5_worthOfRow : ByteArray := prog_1_method_23_code
def yX5_worthOfRow : MethodName := ⟨RX5, "worthOfRow", "(II)J"⟩
abbrev cX5_isUpAt : ByteArray := prog_1_method_24_code
def yX5_isUpAt : MethodName := ⟨RX5, "isUpAt", "(II)Z"⟩
abbrev cX5_isAsset : ByteArray := prog_1_method_25_code
def yX5_isAsset : MethodName := ⟨RX5, "isAsset", "(I)Z"⟩
abbrev cX5_isWithin : ByteArray := prog_1_method_26_code
def yX5_isWithin : MethodName := ⟨RX5, "isWithin", "(III)Z"⟩
abbrev cX5_wholeWeightOf : ByteArray := prog_1_method_27_code
def yX5_wholeWeightOf : MethodName := ⟨RX5, "wholeWeightOf", "(I)J"⟩
def RX6 : String := "BarrierbookModel"
def TX6 : u_T := fun k => match k with
  | 0 => ("BarrierbookModel", "firsts", "[I", true)
  | 1 => ("BarrierbookModel", "rises", "[I", true)
  | 2 => ("BarrierbookModel", "falls", "[I", true)
  | 3 => ("BarrierbookModel", "isAgainst", "Z", false)
  | 4 => ("BarrierbookModel", "chance", "I", false)
  | 5 => ("BarrierbookModel", "periods", "I", false)
  | 6 => ("BarrierbookModel", "barrier", "I", false)
  | 7 => ("BarrierbookModel", "couponLevel", "I", false)
  | 8 => ("BarrierbookModel", "callLevel", "I", false)
  | 9 => ("BarrierbookModel", "coupon", "I", false)
  | 10 => ("BarrierbookModel", "isAtEnd", "Z", false)
  | 11 => ("BarrierbookModel", "remembers", "Z", false)
  | 12 => ("BarrierbookModel", "moves", "[Z", true)
  | 13 => ("BarrierbookModel", "told", "I", false)
  | 14 => ("BarrierbookModel", "prices", "[I", true)
  | 15 => ("BarrierbookModel", "missed", "I", false)
  | 16 => ("BarrierbookModel", "isKnocked", "Z", false)
  | 17 => ("BarrierbookModel", "isOver", "Z", false)
  | 18 => ("BarrierbookModel", "done", "I", false)
  | 19 => ("BarrierbookModel", "paid", "I", false)
  | 20 => ("BarrierbookModel", "seen", "[J", true)
  | _ => ("BarrierbookModel", "thrown", "I", false)
def tyX6 : Nat → FieldType := fun k => match k with
  | 0 => .array .int
  | 1 => .array .int
  | 2 => .array .int
  | 3 => .boolean
  | 4 => .int
  | 5 => .int
  | 6 => .int
  | 7 => .int
  | 8 => .int
  | 9 => .int
  | 10 => .boolean
  | 11 => .boolean
  | 12 => .array .boolean
  | 13 => .int
  | 14 => .array .int
  | 15 => .int
  | 16 => .boolean
  | 17 => .boolean
  | 18 => .int
  | 19 => .int
  | 20 => .array .long
  | _ => .int
abbrev wsX60 : List Cond := u_ws RX6 TX6 22
theorem nmX6 : ∀ a, a < 22 → ∀ b, b < 22 → a ≠ b → (TX6 a).2.1 ≠ (TX6 b).2.1 := by decide +kernel
theorem tyX6_ok : ∀ k, k < 22 → parseFieldDescriptor (TX6 k).2.2.1 = some (tyX6 k) := by decide +kernel
abbrev cX6_init : ByteArray := prog_8_method_1_code
def yX6_init : MethodName := ⟨RX6, "<init>", "()V"⟩
abbrev cX6_thrown : ByteArray := prog_8_method_2_code
def yX6_thrown : MethodName := ⟨RX6, "thrown", "()I"⟩
abbrev cX6_goes : ByteArray := prog_8_method_3_code
def yX6_goes : MethodName := ⟨RX6, "goes", "(I)Z"⟩
abbrev cX6_isIn : ByteArray := prog_8_method_4_code
def yX6_isIn : MethodName := ⟨RX6, "isIn", "(III)Z"⟩
abbrev cX6_setAsset : ByteArray := prog_8_method_5_code
def yX6_setAsset : MethodName := ⟨RX6, "setAsset", "(IIII)V"⟩
abbrev cX6_setMoves : ByteArray := prog_8_method_6_code
def yX6_setMoves : MethodName := ⟨RX6, "setMoves", "(ZI)V"⟩
abbrev cX6_setNote : ByteArray := prog_8_method_7_code
def yX6_setNote : MethodName := ⟨RX6, "setNote", "(IIIII)V"⟩
abbrev cX6_setKind : ByteArray := prog_8_method_8_code
def yX6_setKind : MethodName := ⟨RX6, "setKind", "(ZZ)V"⟩
abbrev cX6_level : ByteArray := prog_8_method_9_code
def yX6_level : MethodName := ⟨RX6, "level", "(I)I"⟩
abbrev cX6_worstNow : ByteArray := prog_8_method_10_code
def yX6_worstNow : MethodName := ⟨RX6, "worstNow", "()I"⟩
abbrev cX6_moves : ByteArray := prog_8_method_11_code
def yX6_moves : MethodName := ⟨RX6, "moves", "(IZ)V"⟩
abbrev cX6_period : ByteArray := prog_8_method_12_code
def yX6_period : MethodName := ⟨RX6, "period", "(Z)V"⟩
abbrev cX6_runs : ByteArray := prog_8_method_13_code
def yX6_runs : MethodName := ⟨RX6, "runs", "(I)V"⟩
abbrev cX6_paidBy : ByteArray := prog_8_method_14_code
def yX6_paidBy : MethodName := ⟨RX6, "paidBy", "(I)I"⟩
abbrev cX6_tell : ByteArray := prog_8_method_15_code
def yX6_tell : MethodName := ⟨RX6, "tell", "(Z)I"⟩
abbrev cX6_takeBack : ByteArray := prog_8_method_16_code
def yX6_takeBack : MethodName := ⟨RX6, "takeBack", "()I"⟩
abbrev cX6_told : ByteArray := prog_8_method_17_code
def yX6_told : MethodName := ⟨RX6, "told", "()I"⟩
abbrev cX6_price : ByteArray := prog_8_method_18_code
def yX6_price : MethodName := ⟨RX6, "price", "(I)I"⟩
abbrev cX6_worst : ByteArray := prog_8_method_19_code
def yX6_worst : MethodName := ⟨RX6, "worst", "()I"⟩
abbrev cX6_isKnocked : ByteArray := prog_8_method_20_code
def yX6_isKnocked : MethodName := ⟨RX6, "isKnocked", "()Z"⟩
abbrev cX6_missed : ByteArray := prog_8_method_21_code
def yX6_missed : MethodName := ⟨RX6, "missed", "()I"⟩
abbrev cX6_paid : ByteArray := prog_8_method_22_code
def yX6_paid : MethodName := ⟨RX6, "paid", "()I"⟩
abbrev cX6_isOverNow : ByteArray := prog_8_method_23_code
def yX6_isOverNow : MethodName := ⟨RX6, "isOverNow", "()Z"⟩
abbrev cX6_isOver : ByteArray := prog_8_method_24_code
def yX6_isOver : MethodName := ⟨RX6, "isOver", "()Z"⟩
abbrev cX6_rows : ByteArray := prog_8_method_25_code
def yX6_rows : MethodName := ⟨RX6, "rows", "()I"⟩
abbrev cX6_weight : ByteArray := prog_8_method_26_code
def yX6_weight : MethodName := ⟨RX6, "weight", "(I)J"⟩
abbrev cX6_sum : ByteArray := prog_8_method_27_code
def yX6_sum : MethodName := ⟨RX6, "sum", "()J"⟩
abbrev cX6_worth : ByteArray := prog_8_method_28_code
def yX6_worth : MethodName := ⟨RX6, "worth", "()J"⟩
abbrev cX6_worthByPaths : ByteArray := prog_8_method_29_code
def yX6_worthByPaths : MethodName := ⟨RX6, "worthByPaths", "()J"⟩
abbrev cX6_divisor : ByteArray := prog_8_method_30_code
def yX6_divisor : MethodName := ⟨RX6, "divisor", "()J"⟩
abbrev cX6_states : ByteArray := prog_8_method_31_code
def yX6_states : MethodName := ⟨RX6, "states", "()I"⟩
abbrev cX6_extreme : ByteArray := prog_8_method_32_code
def yX6_extreme : MethodName := ⟨RX6, "extreme", "(Z)I"⟩
abbrev cX6_least : ByteArray := prog_8_method_33_code
def yX6_least : MethodName := ⟨RX6, "least", "()I"⟩
abbrev cX6_most : ByteArray := prog_8_method_34_code
def yX6_most : MethodName := ⟨RX6, "most", "()I"⟩
abbrev cX6_endsIn : ByteArray := prog_8_method_35_code
def yX6_endsIn : MethodName := ⟨RX6, "endsIn", "(I)J"⟩
abbrev cX6_knocks : ByteArray := prog_8_method_36_code
def yX6_knocks : MethodName := ⟨RX6, "knocks", "()J"⟩
def RJ9 : String := "java/lang/Math"
def TJ9 : u_T := fun k => match k with
  | _ => ("", "", "", false)
def tyJ9 : Nat → FieldType := fun k => match k with
  | _ => .int
abbrev wsJ90 : List Cond := u_ws RJ9 TJ9 0
theorem nmJ9 : ∀ a, a < 0 → ∀ b, b < 0 → a ≠ b → (TJ9 a).2.1 ≠ (TJ9 b).2.1 := by decide +kernel
theorem tyJ9_ok : ∀ k, k < 0 → parseFieldDescriptor (TJ9 k).2.2.1 = some (tyJ9 k) := by decide +kernel
abbrev cJ9_max_7cf53 : ByteArray := prog_13_method_65_code
def yJ9_max_7cf53 : MethodName := ⟨RJ9, "max", "(II)I"⟩
abbrev cJ9_min_7cf53 : ByteArray := prog_13_method_69_code
def yJ9_min_7cf53 : MethodName := ⟨RJ9, "min", "(II)I"⟩
def RJ0 : String := "java/lang/String"
def TJ0 : u_T := fun k => match k with
  | _ => ("", "", "", false)
def tyJ0 : Nat → FieldType := fun k => match k with
  | _ => .int
abbrev wsJ00 : List Cond := u_ws RJ0 TJ0 0
theorem nmJ0 : ∀ a, a < 0 → ∀ b, b < 0 → a ≠ b → (TJ0 a).2.1 ≠ (TJ0 b).2.1 := by decide +kernel
theorem tyJ0_ok : ∀ k, k < 0 → parseFieldDescriptor (TJ0 k).2.2.1 = some (tyJ0 k) := by decide +kernel
def RL : String := "BarrierbookLaw"
abbrev cL_setAsset : ByteArray := method_3_code
def yL_setAsset : MethodName := ⟨RL, "setAsset", "(LBarrierbook;IIII)I"⟩
abbrev cL_setMoves : ByteArray := method_4_code
def yL_setMoves : MethodName := ⟨RL, "setMoves", "(LBarrierbook;ZI)I"⟩
abbrev cL_setNote : ByteArray := method_5_code
def yL_setNote : MethodName := ⟨RL, "setNote", "(LBarrierbook;IIIII)I"⟩
abbrev cL_tell : ByteArray := method_6_code
def yL_tell : MethodName := ⟨RL, "tell", "(LBarrierbook;Z[J)I"⟩
abbrev cL_takeBack : ByteArray := method_7_code
def yL_takeBack : MethodName := ⟨RL, "takeBack", "(LBarrierbook;[J)I"⟩
abbrev cL_price : ByteArray := method_8_code
def yL_price : MethodName := ⟨RL, "price", "(LBarrierbook;I[J)I"⟩
abbrev cL_endsIn : ByteArray := method_9_code
def yL_endsIn : MethodName := ⟨RL, "endsIn", "(LBarrierbook;I[J)I"⟩
abbrev cL_law : ByteArray := code
def yL_law : MethodName := ⟨RL, "law", "([I)Z"⟩
def wsX0_init : List Cond := .code yX0_init cX0_init 1 none :: ([.methodLink RX0 3 objectInit, .instanceMethod objectInit, .code objectInit ⟨#[0xb1]⟩ 1 none, .fieldLink RX0 9 "Barrierbook$Asset" "first" "I", .fieldLink RX0 15 "Barrierbook$Asset" "rise" "I", .fieldLink RX0 18 "Barrierbook$Asset" "fall" "I"] ++ wsX00)
def wsX0_priceBehind : List Cond := .code yX0_priceBehind cX0_priceBehind 3 (some .int) :: ([.fieldLink RX0 15 "Barrierbook$Asset" "rise" "I", .fieldLink RX0 18 "Barrierbook$Asset" "fall" "I", .methodLink RX0 21 Lib.Math.max.name, .static Lib.Math.max.name, .initialized "java/lang/Math", .code Lib.Math.max.name Lib.Math.max.code 2 (some .int)] ++ wsX00)
def wsX0_levelAt : List Cond := .code yX0_levelAt cX0_levelAt 2 (some .int) :: ([.fieldLink RX0 9 "Barrierbook$Asset" "first" "I"] ++ wsX00)
def wsX1_init : List Cond := .code yX1_init cX1_init 1 none :: ([.methodLink RX1 3 objectInit, .instanceMethod objectInit, .code objectInit ⟨#[0xb1]⟩ 1 none, .arrayClass .int, .fieldLink RX1 9 "Barrierbook$Layer" "prices0" "[I", .fieldLink RX1 15 "Barrierbook$Layer" "prices1" "[I", .fieldLink RX1 18 "Barrierbook$Layer" "misses" "[I", .arrayClass .boolean, .fieldLink RX1 21 "Barrierbook$Layer" "knocked" "[Z", .arrayClass .long, .fieldLink RX1 25 "Barrierbook$Layer" "weights" "[J", .fieldLink RX1 29 "Barrierbook$Layer" "leasts" "[I", .fieldLink RX1 32 "Barrierbook$Layer" "mosts" "[I", .fieldLink RX1 35 "Barrierbook$Layer" "size" "I"] ++ wsX10)
def wsX1_holds : List Cond := .code yX1_holds cX1_holds 2 (some .boolean) :: ([.fieldLink RX1 35 "Barrierbook$Layer" "size" "I"] ++ wsX10)
def wsX1_find : List Cond := .code yX1_find cX1_find 3 (some .int) :: ([.fieldLink RX1 35 "Barrierbook$Layer" "size" "I", .fieldLink RX1 9 "Barrierbook$Layer" "prices0" "[I", .fieldLink RX1 52 "Barrierbook$Standing" "price0" "I", .fieldLink RX1 15 "Barrierbook$Layer" "prices1" "[I", .fieldLink RX1 57 "Barrierbook$Standing" "price1" "I", .fieldLink RX1 18 "Barrierbook$Layer" "misses" "[I", .fieldLink RX1 60 "Barrierbook$Standing" "missed" "I", .fieldLink RX1 21 "Barrierbook$Layer" "knocked" "[Z", .fieldLink RX1 63 "Barrierbook$Standing" "isKnocked" "Z"] ++ wsX10 ++ wsX30)
def wsX1_add : List Cond := .code yX1_add cX1_add 7 none :: ([.fieldLink RX1 25 "Barrierbook$Layer" "weights" "[J", .fieldLink RX1 29 "Barrierbook$Layer" "leasts" "[I", .methodLink RX1 43 Lib.Math.min.name, .static Lib.Math.min.name, .initialized "java/lang/Math", .code Lib.Math.min.name Lib.Math.min.code 2 (some .int), .fieldLink RX1 32 "Barrierbook$Layer" "mosts" "[I", .methodLink RX1 49 Lib.Math.max.name, .static Lib.Math.max.name, .code Lib.Math.max.name Lib.Math.max.code 2 (some .int), .fieldLink RX1 35 "Barrierbook$Layer" "size" "I", .fieldLink RX1 9 "Barrierbook$Layer" "prices0" "[I", .fieldLink RX1 52 "Barrierbook$Standing" "price0" "I", .fieldLink RX1 15 "Barrierbook$Layer" "prices1" "[I", .fieldLink RX1 57 "Barrierbook$Standing" "price1" "I", .fieldLink RX1 18 "Barrierbook$Layer" "misses" "[I", .fieldLink RX1 60 "Barrierbook$Standing" "missed" "I", .fieldLink RX1 21 "Barrierbook$Layer" "knocked" "[Z", .fieldLink RX1 63 "Barrierbook$Standing" "isKnocked" "Z", .methodLink RX1 39 yX1_find, .instanceMethod yX1_find, .selects RX1 yX1_find yX1_find, .initialized RX1, .code yX1_find cX1_find 3 (some .int)] ++ wsX10 ++ wsX30)
def wsX1_show : List Cond := .code yX1_show cX1_show 4 none :: ([.fieldLink RX1 71 "Barrierbook$Standing" "told" "I", .fieldLink RX1 9 "Barrierbook$Layer" "prices0" "[I", .fieldLink RX1 52 "Barrierbook$Standing" "price0" "I", .fieldLink RX1 15 "Barrierbook$Layer" "prices1" "[I", .fieldLink RX1 57 "Barrierbook$Standing" "price1" "I", .fieldLink RX1 18 "Barrierbook$Layer" "misses" "[I", .fieldLink RX1 60 "Barrierbook$Standing" "missed" "I", .fieldLink RX1 21 "Barrierbook$Layer" "knocked" "[Z", .fieldLink RX1 63 "Barrierbook$Standing" "isKnocked" "Z", .fieldLink RX1 74 "Barrierbook$Standing" "isOver" "Z", .fieldLink RX1 77 "Barrierbook$Standing" "paidLast" "I", .fieldLink RX1 80 "Barrierbook$Standing" "paidInAll" "I", .methodLink RX1 67 yX1_holds, .instanceMethod yX1_holds, .selects RX1 yX1_holds yX1_holds, .initialized RX1, .code yX1_holds cX1_holds 2 (some .boolean), .fieldLink RX1 35 "Barrierbook$Layer" "size" "I"] ++ wsX30 ++ wsX10)
def wsX2_init : List Cond := .code yX2_init cX2_init 1 none :: ([.methodLink RX2 3 objectInit, .instanceMethod objectInit, .code objectInit ⟨#[0xb1]⟩ 1 none, .classLink RX2 9 RX0, .instantiable RX0 3, .initialized RX0, .fieldLink RX2 12 "Barrierbook$Note" "asset0" "LBarrierbook$Asset;", .fieldLink RX2 18 "Barrierbook$Note" "asset1" "LBarrierbook$Asset;", .fieldLink RX2 21 "Barrierbook$Note" "isAgainst" "Z", .fieldLink RX2 25 "Barrierbook$Note" "chance" "I", .fieldLink RX2 29 "Barrierbook$Note" "periods" "I", .fieldLink RX2 32 "Barrierbook$Note" "barrier" "I", .fieldLink RX2 35 "Barrierbook$Note" "couponLevel" "I", .fieldLink RX2 38 "Barrierbook$Note" "callLevel" "I", .fieldLink RX2 41 "Barrierbook$Note" "coupon" "I", .fieldLink RX2 44 "Barrierbook$Note" "isAtEnd" "Z", .fieldLink RX2 47 "Barrierbook$Note" "remembers" "Z", .instanceMethod yX0_init, .code yX0_init cX0_init 1 none, .methodLink RX0 3 objectInit, .fieldLink RX0 9 "Barrierbook$Asset" "first" "I", .fieldLink RX0 15 "Barrierbook$Asset" "rise" "I", .fieldLink RX0 18 "Barrierbook$Asset" "fall" "I"] ++ wsX00 ++ wsX20)
def wsX2_weightOf : List Cond := .code yX2_weightOf cX2_weightOf 2 (some .int) :: ([.fieldLink RX2 25 "Barrierbook$Note" "chance" "I"] ++ wsX20)
def wsX3_init : List Cond := .code yX3_init cX3_init 1 none :: ([.methodLink RX3 3 objectInit, .instanceMethod objectInit, .code objectInit ⟨#[0xb1]⟩ 1 none, .fieldLink RX3 9 "Barrierbook$Standing" "told" "I", .fieldLink RX3 15 "Barrierbook$Standing" "price0" "I", .fieldLink RX3 18 "Barrierbook$Standing" "price1" "I", .fieldLink RX3 21 "Barrierbook$Standing" "missed" "I", .fieldLink RX3 24 "Barrierbook$Standing" "isKnocked" "Z", .fieldLink RX3 28 "Barrierbook$Standing" "isOver" "Z", .fieldLink RX3 31 "Barrierbook$Standing" "paidLast" "I", .fieldLink RX3 34 "Barrierbook$Standing" "paidInAll" "I"] ++ wsX30)
def wsX3_begin : List Cond := .code yX3_begin cX3_begin 2 none :: ([.fieldLink RX3 9 "Barrierbook$Standing" "told" "I", .fieldLink RX3 37 "Barrierbook$Note" "asset0" "LBarrierbook$Asset;", .fieldLink RX3 43 "Barrierbook$Asset" "first" "I", .fieldLink RX3 15 "Barrierbook$Standing" "price0" "I", .fieldLink RX3 48 "Barrierbook$Note" "asset1" "LBarrierbook$Asset;", .fieldLink RX3 18 "Barrierbook$Standing" "price1" "I", .fieldLink RX3 21 "Barrierbook$Standing" "missed" "I", .fieldLink RX3 24 "Barrierbook$Standing" "isKnocked" "Z", .fieldLink RX3 28 "Barrierbook$Standing" "isOver" "Z", .fieldLink RX3 31 "Barrierbook$Standing" "paidLast" "I", .fieldLink RX3 34 "Barrierbook$Standing" "paidInAll" "I"] ++ wsX30 ++ wsX20 ++ wsX00)
def wsX3_copy : List Cond := .code yX3_copy cX3_copy 2 none :: ([.fieldLink RX3 9 "Barrierbook$Standing" "told" "I", .fieldLink RX3 15 "Barrierbook$Standing" "price0" "I", .fieldLink RX3 18 "Barrierbook$Standing" "price1" "I", .fieldLink RX3 21 "Barrierbook$Standing" "missed" "I", .fieldLink RX3 24 "Barrierbook$Standing" "isKnocked" "Z", .fieldLink RX3 28 "Barrierbook$Standing" "isOver" "Z", .fieldLink RX3 31 "Barrierbook$Standing" "paidLast" "I", .fieldLink RX3 34 "Barrierbook$Standing" "paidInAll" "I"] ++ wsX30)
def wsX3_worstLevel : List Cond := .code yX3_worstLevel cX3_worstLevel 2 (some .int) :: ([.fieldLink RX3 37 "Barrierbook$Note" "asset0" "LBarrierbook$Asset;", .fieldLink RX3 15 "Barrierbook$Standing" "price0" "I", .fieldLink RX3 48 "Barrierbook$Note" "asset1" "LBarrierbook$Asset;", .fieldLink RX3 18 "Barrierbook$Standing" "price1" "I", .methodLink RX3 55 Lib.Math.min.name, .static Lib.Math.min.name, .initialized "java/lang/Math", .code Lib.Math.min.name Lib.Math.min.code 2 (some .int), .methodLink RX3 51 yX0_levelAt, .instanceMethod yX0_levelAt, .selects RX0 yX0_levelAt yX0_levelAt, .initialized RX0, .code yX0_levelAt cX0_levelAt 2 (some .int), .fieldLink RX0 9 "Barrierbook$Asset" "first" "I"] ++ wsX20 ++ wsX30 ++ wsX00)
def wsX3_takeCoupons : List Cond := .code yX3_takeCoupons cX3_takeCoupons 4 (some .int) :: ([.fieldLink RX3 91 "Barrierbook$Note" "couponLevel" "I", .fieldLink RX3 21 "Barrierbook$Standing" "missed" "I", .fieldLink RX3 94 "Barrierbook$Note" "remembers" "Z", .fieldLink RX3 97 "Barrierbook$Note" "coupon" "I"] ++ wsX20 ++ wsX30)
def wsX3_endPay : List Cond := .code yX3_endPay cX3_endPay 4 (some .int) :: ([.fieldLink RX3 24 "Barrierbook$Standing" "isKnocked" "Z"] ++ wsX30)
def wsX3_move_r1 : List Cond := [Cond.fieldLink RX3 9 "Barrierbook$Standing" "told" "I", Cond.fieldLink RX3 37 "Barrierbook$Note" "asset0" "LBarrierbook$Asset;", Cond.fieldLink RX3 15 "Barrierbook$Standing" "price0" "I", Cond.fieldLink RX3 48 "Barrierbook$Note" "asset1" "LBarrierbook$Asset;", Cond.fieldLink RX3 18 "Barrierbook$Standing" "price1" "I", Cond.fieldLink RX3 65 "Barrierbook$Note" "isAgainst" "Z", Cond.fieldLink RX3 68 "Barrierbook$Note" "periods" "I", Cond.fieldLink RX3 75 "Barrierbook$Note" "barrier" "I", Cond.fieldLink RX3 78 "Barrierbook$Note" "isAtEnd" "Z", Cond.fieldLink RX3 24 "Barrierbook$Standing" "isKnocked" "Z", Cond.fieldLink RX3 31 "Barrierbook$Standing" "paidLast" "I", Cond.fieldLink RX3 85 "Barrierbook$Note" "callLevel" "I", Cond.fieldLink RX3 28 "Barrierbook$Standing" "isOver" "Z", Cond.fieldLink RX3 34 "Barrierbook$Standing" "paidInAll" "I", Cond.methodLink RX3 61 yX0_priceBehind, Cond.instanceMethod yX0_priceBehind, Cond.selects RX0 yX0_priceBehind yX0_priceBehind, Cond.initialized RX0, Cond.code yX0_priceBehind cX0_priceBehind 3 (some .int), Cond.fieldLink RX0 15 "Barrierbook$Asset" "rise" "I", Cond.fieldLink RX0 18 "Barrierbook$Asset" "fall" "I", Cond.methodLink RX0 21 Lib.Math.max.name, Cond.static Lib.Math.max.name, Cond.initialized "java/lang/Math"]
def wsX3_move_r2 : List Cond := [Cond.code Lib.Math.max.name Lib.Math.max.code 2 (some .int), Cond.methodLink RX3 71 yX3_worstLevel, Cond.instanceMethod yX3_worstLevel, Cond.selects RX3 yX3_worstLevel yX3_worstLevel, Cond.initialized RX3, Cond.code yX3_worstLevel cX3_worstLevel 2 (some .int), Cond.methodLink RX3 55 Lib.Math.min.name, Cond.static Lib.Math.min.name, Cond.code Lib.Math.min.name Lib.Math.min.code 2 (some .int), Cond.methodLink RX3 51 yX0_levelAt, Cond.instanceMethod yX0_levelAt, Cond.selects RX0 yX0_levelAt yX0_levelAt, Cond.code yX0_levelAt cX0_levelAt 2 (some .int), Cond.fieldLink RX0 9 "Barrierbook$Asset" "first" "I", Cond.methodLink RX3 81 yX3_takeCoupons, Cond.instanceMethod yX3_takeCoupons, Cond.selects RX3 yX3_takeCoupons yX3_takeCoupons, Cond.code yX3_takeCoupons cX3_takeCoupons 4 (some .int), Cond.fieldLink RX3 91 "Barrierbook$Note" "couponLevel" "I", Cond.fieldLink RX3 21 "Barrierbook$Standing" "missed" "I", Cond.fieldLink RX3 94 "Barrierbook$Note" "remembers" "Z", Cond.fieldLink RX3 97 "Barrierbook$Note" "coupon" "I", Cond.methodLink RX3 88 yX3_endPay, Cond.instanceMethod yX3_endPay]
def wsX3_move_r3 : List Cond := [Cond.selects RX3 yX3_endPay yX3_endPay, Cond.code yX3_endPay cX3_endPay 4 (some .int)]
def wsX3_move : List Cond := .code yX3_move cX3_move 5 none :: ((wsX3_move_r1 ++ (wsX3_move_r2 ++ wsX3_move_r3)) ++ wsX30 ++ wsX20 ++ wsX00)
def wsX4_init_r1 : List Cond := [Cond.methodLink RX4 3 objectInit, Cond.instanceMethod objectInit, Cond.code objectInit ⟨#[0xb1]⟩ 1 none, Cond.classLink RX4 9 RX3, Cond.instantiable RX3 8, Cond.initialized RX3, Cond.fieldLink RX4 12 "Barrierbook$Tree" "branch" "LBarrierbook$Standing;", Cond.arrayClass .long, Cond.fieldLink RX4 18 "Barrierbook$Tree" "endSums" "[J", Cond.classLink RX4 22 RX1, Cond.instantiable RX1 8, Cond.initialized RX1, Cond.fieldLink RX4 25 "Barrierbook$Tree" "from" "LBarrierbook$Layer;", Cond.fieldLink RX4 29 "Barrierbook$Tree" "to" "LBarrierbook$Layer;", Cond.fieldLink RX4 32 "Barrierbook$Tree" "paidSum" "J", Cond.fieldLink RX4 36 "Barrierbook$Tree" "knockedSum" "J", Cond.fieldLink RX4 39 "Barrierbook$Tree" "lastStates" "I", Cond.fieldLink RX4 43 "Barrierbook$Tree" "leastPaid" "I", Cond.fieldLink RX4 46 "Barrierbook$Tree" "mostPaid" "I", Cond.instanceMethod yX3_init, Cond.code yX3_init cX3_init 1 none, Cond.methodLink RX3 3 objectInit, Cond.fieldLink RX3 9 "Barrierbook$Standing" "told" "I", Cond.fieldLink RX3 15 "Barrierbook$Standing" "price0" "I"]
def wsX4_init_r2 : List Cond := [Cond.fieldLink RX3 18 "Barrierbook$Standing" "price1" "I", Cond.fieldLink RX3 21 "Barrierbook$Standing" "missed" "I", Cond.fieldLink RX3 24 "Barrierbook$Standing" "isKnocked" "Z", Cond.fieldLink RX3 28 "Barrierbook$Standing" "isOver" "Z", Cond.fieldLink RX3 31 "Barrierbook$Standing" "paidLast" "I", Cond.fieldLink RX3 34 "Barrierbook$Standing" "paidInAll" "I", Cond.instanceMethod yX1_init, Cond.code yX1_init cX1_init 1 none, Cond.methodLink RX1 3 objectInit, Cond.arrayClass .int, Cond.fieldLink RX1 9 "Barrierbook$Layer" "prices0" "[I", Cond.fieldLink RX1 15 "Barrierbook$Layer" "prices1" "[I", Cond.fieldLink RX1 18 "Barrierbook$Layer" "misses" "[I", Cond.arrayClass .boolean, Cond.fieldLink RX1 21 "Barrierbook$Layer" "knocked" "[Z", Cond.fieldLink RX1 25 "Barrierbook$Layer" "weights" "[J", Cond.fieldLink RX1 29 "Barrierbook$Layer" "leasts" "[I", Cond.fieldLink RX1 32 "Barrierbook$Layer" "mosts" "[I", Cond.fieldLink RX1 35 "Barrierbook$Layer" "size" "I"]
def wsX4_init : List Cond := .code yX4_init cX4_init 1 none :: ((wsX4_init_r1 ++ wsX4_init_r2) ++ wsX30 ++ wsX40 ++ wsX10)
def wsX4_clear : List Cond := .code yX4_clear cX4_clear 2 none :: ([.fieldLink RX4 18 "Barrierbook$Tree" "endSums" "[J", .fieldLink RX4 32 "Barrierbook$Tree" "paidSum" "J", .fieldLink RX4 36 "Barrierbook$Tree" "knockedSum" "J", .constant RX4 80 (2147483647), .fieldLink RX4 43 "Barrierbook$Tree" "leastPaid" "I", .fieldLink RX4 46 "Barrierbook$Tree" "mostPaid" "I"] ++ wsX40)
def wsX5_wholeWeightOf : List Cond := .code yX5_wholeWeightOf cX5_wholeWeightOf 4 (some .long) :: ([.constantLong RX5 191 (10)])
def wsX4_end : List Cond := .code yX4_end cX4_end 6 none :: ([.fieldLink RX4 18 "Barrierbook$Tree" "endSums" "[J", .fieldLink RX4 12 "Barrierbook$Tree" "branch" "LBarrierbook$Standing;", .fieldLink RX4 56 "Barrierbook$Standing" "isKnocked" "Z", .fieldLink RX4 36 "Barrierbook$Tree" "knockedSum" "J", .fieldLink RX4 43 "Barrierbook$Tree" "leastPaid" "I", .methodLink RX4 122 Lib.Math.min.name, .static Lib.Math.min.name, .initialized "java/lang/Math", .code Lib.Math.min.name Lib.Math.min.code 2 (some .int), .fieldLink RX4 46 "Barrierbook$Tree" "mostPaid" "I", .methodLink RX4 128 Lib.Math.max.name, .static Lib.Math.max.name, .code Lib.Math.max.name Lib.Math.max.code 2 (some .int)] ++ wsX40 ++ wsX30)
def wsX4_growBranch_r1 : List Cond := [Cond.fieldLink RX4 25 "Barrierbook$Tree" "from" "LBarrierbook$Layer;", Cond.fieldLink RX4 12 "Barrierbook$Tree" "branch" "LBarrierbook$Standing;", Cond.fieldLink RX4 97 "Barrierbook$Layer" "weights" "[J", Cond.fieldLink RX4 69 "Barrierbook$Note" "periods" "I", Cond.fieldLink RX4 108 "Barrierbook$Layer" "leasts" "[I", Cond.fieldLink RX4 112 "Barrierbook$Standing" "paidLast" "I", Cond.fieldLink RX4 115 "Barrierbook$Layer" "mosts" "[I", Cond.fieldLink RX4 32 "Barrierbook$Tree" "paidSum" "J", Cond.fieldLink RX4 52 "Barrierbook$Standing" "isOver" "Z", Cond.fieldLink RX4 29 "Barrierbook$Tree" "to" "LBarrierbook$Layer;", Cond.methodLink RX4 85 yX1_holds, Cond.instanceMethod yX1_holds, Cond.selects RX1 yX1_holds yX1_holds, Cond.initialized RX1, Cond.code yX1_holds cX1_holds 2 (some .boolean), Cond.fieldLink RX1 35 "Barrierbook$Layer" "size" "I", Cond.methodLink RX4 89 yX1_show, Cond.instanceMethod yX1_show, Cond.selects RX1 yX1_show yX1_show, Cond.code yX1_show cX1_show 4 none, Cond.fieldLink RX1 71 "Barrierbook$Standing" "told" "I", Cond.fieldLink RX1 9 "Barrierbook$Layer" "prices0" "[I", Cond.fieldLink RX1 52 "Barrierbook$Standing" "price0" "I", Cond.fieldLink RX1 15 "Barrierbook$Layer" "prices1" "[I"]
def wsX4_growBranch_r2 : List Cond := [Cond.fieldLink RX1 57 "Barrierbook$Standing" "price1" "I", Cond.fieldLink RX1 18 "Barrierbook$Layer" "misses" "[I", Cond.fieldLink RX1 60 "Barrierbook$Standing" "missed" "I", Cond.fieldLink RX1 21 "Barrierbook$Layer" "knocked" "[Z", Cond.fieldLink RX1 63 "Barrierbook$Standing" "isKnocked" "Z", Cond.fieldLink RX1 74 "Barrierbook$Standing" "isOver" "Z", Cond.fieldLink RX1 77 "Barrierbook$Standing" "paidLast" "I", Cond.fieldLink RX1 80 "Barrierbook$Standing" "paidInAll" "I", Cond.methodLink RX1 67 yX1_holds, Cond.methodLink RX4 93 yX3_move, Cond.instanceMethod yX3_move, Cond.selects RX3 yX3_move yX3_move, Cond.initialized RX3, Cond.code yX3_move cX3_move 5 none, Cond.fieldLink RX3 9 "Barrierbook$Standing" "told" "I", Cond.fieldLink RX3 37 "Barrierbook$Note" "asset0" "LBarrierbook$Asset;", Cond.fieldLink RX3 15 "Barrierbook$Standing" "price0" "I", Cond.fieldLink RX3 48 "Barrierbook$Note" "asset1" "LBarrierbook$Asset;", Cond.fieldLink RX3 18 "Barrierbook$Standing" "price1" "I", Cond.fieldLink RX3 65 "Barrierbook$Note" "isAgainst" "Z", Cond.fieldLink RX3 68 "Barrierbook$Note" "periods" "I", Cond.fieldLink RX3 75 "Barrierbook$Note" "barrier" "I", Cond.fieldLink RX3 78 "Barrierbook$Note" "isAtEnd" "Z", Cond.fieldLink RX3 24 "Barrierbook$Standing" "isKnocked" "Z"]
def wsX4_growBranch_r3 : List Cond := [Cond.fieldLink RX3 31 "Barrierbook$Standing" "paidLast" "I", Cond.fieldLink RX3 85 "Barrierbook$Note" "callLevel" "I", Cond.fieldLink RX3 28 "Barrierbook$Standing" "isOver" "Z", Cond.fieldLink RX3 34 "Barrierbook$Standing" "paidInAll" "I", Cond.methodLink RX3 61 yX0_priceBehind, Cond.instanceMethod yX0_priceBehind, Cond.selects RX0 yX0_priceBehind yX0_priceBehind, Cond.initialized RX0, Cond.code yX0_priceBehind cX0_priceBehind 3 (some .int), Cond.fieldLink RX0 15 "Barrierbook$Asset" "rise" "I", Cond.fieldLink RX0 18 "Barrierbook$Asset" "fall" "I", Cond.methodLink RX0 21 Lib.Math.max.name, Cond.static Lib.Math.max.name, Cond.initialized "java/lang/Math", Cond.code Lib.Math.max.name Lib.Math.max.code 2 (some .int), Cond.methodLink RX3 71 yX3_worstLevel, Cond.instanceMethod yX3_worstLevel, Cond.selects RX3 yX3_worstLevel yX3_worstLevel, Cond.code yX3_worstLevel cX3_worstLevel 2 (some .int), Cond.methodLink RX3 55 Lib.Math.min.name, Cond.static Lib.Math.min.name, Cond.code Lib.Math.min.name Lib.Math.min.code 2 (some .int), Cond.methodLink RX3 51 yX0_levelAt, Cond.instanceMethod yX0_levelAt]
def wsX4_growBranch_r4 : List Cond := [Cond.selects RX0 yX0_levelAt yX0_levelAt, Cond.code yX0_levelAt cX0_levelAt 2 (some .int), Cond.fieldLink RX0 9 "Barrierbook$Asset" "first" "I", Cond.methodLink RX3 81 yX3_takeCoupons, Cond.instanceMethod yX3_takeCoupons, Cond.selects RX3 yX3_takeCoupons yX3_takeCoupons, Cond.code yX3_takeCoupons cX3_takeCoupons 4 (some .int), Cond.fieldLink RX3 91 "Barrierbook$Note" "couponLevel" "I", Cond.fieldLink RX3 21 "Barrierbook$Standing" "missed" "I", Cond.fieldLink RX3 94 "Barrierbook$Note" "remembers" "Z", Cond.fieldLink RX3 97 "Barrierbook$Note" "coupon" "I", Cond.methodLink RX3 88 yX3_endPay, Cond.instanceMethod yX3_endPay, Cond.selects RX3 yX3_endPay yX3_endPay, Cond.code yX3_endPay cX3_endPay 4 (some .int), Cond.methodLink RX4 100 yX2_weightOf, Cond.instanceMethod yX2_weightOf, Cond.selects RX2 yX2_weightOf yX2_weightOf, Cond.initialized RX2, Cond.code yX2_weightOf cX2_weightOf 2 (some .int), Cond.fieldLink RX2 25 "Barrierbook$Note" "chance" "I", Cond.static yX5_wholeWeightOf, Cond.initialized RX5, Cond.code yX5_wholeWeightOf cX5_wholeWeightOf 4 (some .long)]
def wsX4_growBranch_r5 : List Cond := [Cond.constantLong RX5 191 (10), Cond.methodLink RX4 118 yX4_end, Cond.instanceMethod yX4_end, Cond.selects RX4 yX4_end yX4_end, Cond.initialized RX4, Cond.code yX4_end cX4_end 6 none, Cond.fieldLink RX4 18 "Barrierbook$Tree" "endSums" "[J", Cond.fieldLink RX4 56 "Barrierbook$Standing" "isKnocked" "Z", Cond.fieldLink RX4 36 "Barrierbook$Tree" "knockedSum" "J", Cond.fieldLink RX4 43 "Barrierbook$Tree" "leastPaid" "I", Cond.methodLink RX4 122 Lib.Math.min.name, Cond.fieldLink RX4 46 "Barrierbook$Tree" "mostPaid" "I", Cond.methodLink RX4 128 Lib.Math.max.name, Cond.methodLink RX4 62 yX1_add, Cond.instanceMethod yX1_add, Cond.selects RX1 yX1_add yX1_add, Cond.code yX1_add cX1_add 7 none, Cond.fieldLink RX1 25 "Barrierbook$Layer" "weights" "[J", Cond.fieldLink RX1 29 "Barrierbook$Layer" "leasts" "[I", Cond.methodLink RX1 43 Lib.Math.min.name, Cond.fieldLink RX1 32 "Barrierbook$Layer" "mosts" "[I", Cond.methodLink RX1 49 Lib.Math.max.name, Cond.methodLink RX1 39 yX1_find, Cond.instanceMethod yX1_find]
def wsX4_growBranch_r6 : List Cond := [Cond.selects RX1 yX1_find yX1_find, Cond.code yX1_find cX1_find 3 (some .int)]
def wsX4_growBranch : List Cond := .code yX4_growBranch cX4_growBranch 11 none :: ((wsX4_growBranch_r1 ++ (wsX4_growBranch_r2 ++ (wsX4_growBranch_r3 ++ (wsX4_growBranch_r4 ++ (wsX4_growBranch_r5 ++ wsX4_growBranch_r6))))) ++ wsX40 ++ wsX10 ++ wsX20 ++ wsX30 ++ wsX00)
def wsX4_growPeriod_r1 : List Cond := [Cond.fieldLink RX4 29 "Barrierbook$Tree" "to" "LBarrierbook$Layer;", Cond.fieldLink RX4 59 "Barrierbook$Layer" "size" "I", Cond.fieldLink RX4 25 "Barrierbook$Tree" "from" "LBarrierbook$Layer;", Cond.methodLink RX4 81 yX4_growBranch, Cond.instanceMethod yX4_growBranch, Cond.selects RX4 yX4_growBranch yX4_growBranch, Cond.initialized RX4, Cond.code yX4_growBranch cX4_growBranch 11 none, Cond.fieldLink RX4 12 "Barrierbook$Tree" "branch" "LBarrierbook$Standing;", Cond.fieldLink RX4 97 "Barrierbook$Layer" "weights" "[J", Cond.fieldLink RX4 69 "Barrierbook$Note" "periods" "I", Cond.fieldLink RX4 108 "Barrierbook$Layer" "leasts" "[I", Cond.fieldLink RX4 112 "Barrierbook$Standing" "paidLast" "I", Cond.fieldLink RX4 115 "Barrierbook$Layer" "mosts" "[I", Cond.fieldLink RX4 32 "Barrierbook$Tree" "paidSum" "J", Cond.fieldLink RX4 52 "Barrierbook$Standing" "isOver" "Z", Cond.methodLink RX4 85 yX1_holds, Cond.instanceMethod yX1_holds, Cond.selects RX1 yX1_holds yX1_holds, Cond.initialized RX1, Cond.code yX1_holds cX1_holds 2 (some .boolean), Cond.fieldLink RX1 35 "Barrierbook$Layer" "size" "I", Cond.methodLink RX4 89 yX1_show, Cond.instanceMethod yX1_show]
def wsX4_growPeriod_r2 : List Cond := [Cond.selects RX1 yX1_show yX1_show, Cond.code yX1_show cX1_show 4 none, Cond.fieldLink RX1 71 "Barrierbook$Standing" "told" "I", Cond.fieldLink RX1 9 "Barrierbook$Layer" "prices0" "[I", Cond.fieldLink RX1 52 "Barrierbook$Standing" "price0" "I", Cond.fieldLink RX1 15 "Barrierbook$Layer" "prices1" "[I", Cond.fieldLink RX1 57 "Barrierbook$Standing" "price1" "I", Cond.fieldLink RX1 18 "Barrierbook$Layer" "misses" "[I", Cond.fieldLink RX1 60 "Barrierbook$Standing" "missed" "I", Cond.fieldLink RX1 21 "Barrierbook$Layer" "knocked" "[Z", Cond.fieldLink RX1 63 "Barrierbook$Standing" "isKnocked" "Z", Cond.fieldLink RX1 74 "Barrierbook$Standing" "isOver" "Z", Cond.fieldLink RX1 77 "Barrierbook$Standing" "paidLast" "I", Cond.fieldLink RX1 80 "Barrierbook$Standing" "paidInAll" "I", Cond.methodLink RX1 67 yX1_holds, Cond.methodLink RX4 93 yX3_move, Cond.instanceMethod yX3_move, Cond.selects RX3 yX3_move yX3_move, Cond.initialized RX3, Cond.code yX3_move cX3_move 5 none, Cond.fieldLink RX3 9 "Barrierbook$Standing" "told" "I", Cond.fieldLink RX3 37 "Barrierbook$Note" "asset0" "LBarrierbook$Asset;", Cond.fieldLink RX3 15 "Barrierbook$Standing" "price0" "I", Cond.fieldLink RX3 48 "Barrierbook$Note" "asset1" "LBarrierbook$Asset;"]
def wsX4_growPeriod_r3 : List Cond := [Cond.fieldLink RX3 18 "Barrierbook$Standing" "price1" "I", Cond.fieldLink RX3 65 "Barrierbook$Note" "isAgainst" "Z", Cond.fieldLink RX3 68 "Barrierbook$Note" "periods" "I", Cond.fieldLink RX3 75 "Barrierbook$Note" "barrier" "I", Cond.fieldLink RX3 78 "Barrierbook$Note" "isAtEnd" "Z", Cond.fieldLink RX3 24 "Barrierbook$Standing" "isKnocked" "Z", Cond.fieldLink RX3 31 "Barrierbook$Standing" "paidLast" "I", Cond.fieldLink RX3 85 "Barrierbook$Note" "callLevel" "I", Cond.fieldLink RX3 28 "Barrierbook$Standing" "isOver" "Z", Cond.fieldLink RX3 34 "Barrierbook$Standing" "paidInAll" "I", Cond.methodLink RX3 61 yX0_priceBehind, Cond.instanceMethod yX0_priceBehind, Cond.selects RX0 yX0_priceBehind yX0_priceBehind, Cond.initialized RX0, Cond.code yX0_priceBehind cX0_priceBehind 3 (some .int), Cond.fieldLink RX0 15 "Barrierbook$Asset" "rise" "I", Cond.fieldLink RX0 18 "Barrierbook$Asset" "fall" "I", Cond.methodLink RX0 21 Lib.Math.max.name, Cond.static Lib.Math.max.name, Cond.initialized "java/lang/Math", Cond.code Lib.Math.max.name Lib.Math.max.code 2 (some .int), Cond.methodLink RX3 71 yX3_worstLevel, Cond.instanceMethod yX3_worstLevel, Cond.selects RX3 yX3_worstLevel yX3_worstLevel]
def wsX4_growPeriod_r4 : List Cond := [Cond.code yX3_worstLevel cX3_worstLevel 2 (some .int), Cond.methodLink RX3 55 Lib.Math.min.name, Cond.static Lib.Math.min.name, Cond.code Lib.Math.min.name Lib.Math.min.code 2 (some .int), Cond.methodLink RX3 51 yX0_levelAt, Cond.instanceMethod yX0_levelAt, Cond.selects RX0 yX0_levelAt yX0_levelAt, Cond.code yX0_levelAt cX0_levelAt 2 (some .int), Cond.fieldLink RX0 9 "Barrierbook$Asset" "first" "I", Cond.methodLink RX3 81 yX3_takeCoupons, Cond.instanceMethod yX3_takeCoupons, Cond.selects RX3 yX3_takeCoupons yX3_takeCoupons, Cond.code yX3_takeCoupons cX3_takeCoupons 4 (some .int), Cond.fieldLink RX3 91 "Barrierbook$Note" "couponLevel" "I", Cond.fieldLink RX3 21 "Barrierbook$Standing" "missed" "I", Cond.fieldLink RX3 94 "Barrierbook$Note" "remembers" "Z", Cond.fieldLink RX3 97 "Barrierbook$Note" "coupon" "I", Cond.methodLink RX3 88 yX3_endPay, Cond.instanceMethod yX3_endPay, Cond.selects RX3 yX3_endPay yX3_endPay, Cond.code yX3_endPay cX3_endPay 4 (some .int), Cond.methodLink RX4 100 yX2_weightOf, Cond.instanceMethod yX2_weightOf, Cond.selects RX2 yX2_weightOf yX2_weightOf]
def wsX4_growPeriod_r5 : List Cond := [Cond.initialized RX2, Cond.code yX2_weightOf cX2_weightOf 2 (some .int), Cond.fieldLink RX2 25 "Barrierbook$Note" "chance" "I", Cond.static yX5_wholeWeightOf, Cond.initialized RX5, Cond.code yX5_wholeWeightOf cX5_wholeWeightOf 4 (some .long), Cond.constantLong RX5 191 (10), Cond.methodLink RX4 118 yX4_end, Cond.instanceMethod yX4_end, Cond.selects RX4 yX4_end yX4_end, Cond.code yX4_end cX4_end 6 none, Cond.fieldLink RX4 18 "Barrierbook$Tree" "endSums" "[J", Cond.fieldLink RX4 56 "Barrierbook$Standing" "isKnocked" "Z", Cond.fieldLink RX4 36 "Barrierbook$Tree" "knockedSum" "J", Cond.fieldLink RX4 43 "Barrierbook$Tree" "leastPaid" "I", Cond.methodLink RX4 122 Lib.Math.min.name, Cond.fieldLink RX4 46 "Barrierbook$Tree" "mostPaid" "I", Cond.methodLink RX4 128 Lib.Math.max.name, Cond.methodLink RX4 62 yX1_add, Cond.instanceMethod yX1_add, Cond.selects RX1 yX1_add yX1_add, Cond.code yX1_add cX1_add 7 none, Cond.fieldLink RX1 25 "Barrierbook$Layer" "weights" "[J", Cond.fieldLink RX1 29 "Barrierbook$Layer" "leasts" "[I"]
def wsX4_growPeriod_r6 : List Cond := [Cond.methodLink RX1 43 Lib.Math.min.name, Cond.fieldLink RX1 32 "Barrierbook$Layer" "mosts" "[I", Cond.methodLink RX1 49 Lib.Math.max.name, Cond.methodLink RX1 39 yX1_find, Cond.instanceMethod yX1_find, Cond.selects RX1 yX1_find yX1_find, Cond.code yX1_find cX1_find 3 (some .int)]
def wsX4_growPeriod : List Cond := .code yX4_growPeriod cX4_growPeriod 4 none :: ((wsX4_growPeriod_r1 ++ (wsX4_growPeriod_r2 ++ (wsX4_growPeriod_r3 ++ (wsX4_growPeriod_r4 ++ (wsX4_growPeriod_r5 ++ wsX4_growPeriod_r6))))) ++ wsX40 ++ wsX10 ++ wsX20 ++ wsX30 ++ wsX00)
def wsX4_grow_r1 : List Cond := [Cond.fieldLink RX4 52 "Barrierbook$Standing" "isOver" "Z", Cond.fieldLink RX4 56 "Barrierbook$Standing" "isKnocked" "Z", Cond.fieldLink RX4 36 "Barrierbook$Tree" "knockedSum" "J", Cond.fieldLink RX4 39 "Barrierbook$Tree" "lastStates" "I", Cond.fieldLink RX4 43 "Barrierbook$Tree" "leastPaid" "I", Cond.fieldLink RX4 25 "Barrierbook$Tree" "from" "LBarrierbook$Layer;", Cond.fieldLink RX4 59 "Barrierbook$Layer" "size" "I", Cond.fieldLink RX4 66 "Barrierbook$Standing" "told" "I", Cond.fieldLink RX4 69 "Barrierbook$Note" "periods" "I", Cond.methodLink RX4 49 yX4_clear, Cond.instanceMethod yX4_clear, Cond.selects RX4 yX4_clear yX4_clear, Cond.initialized RX4, Cond.code yX4_clear cX4_clear 2 none, Cond.fieldLink RX4 18 "Barrierbook$Tree" "endSums" "[J", Cond.fieldLink RX4 32 "Barrierbook$Tree" "paidSum" "J", Cond.constant RX4 80 (2147483647), Cond.fieldLink RX4 46 "Barrierbook$Tree" "mostPaid" "I", Cond.methodLink RX4 62 yX1_add, Cond.instanceMethod yX1_add, Cond.selects RX1 yX1_add yX1_add, Cond.initialized RX1, Cond.code yX1_add cX1_add 7 none, Cond.fieldLink RX1 25 "Barrierbook$Layer" "weights" "[J"]
def wsX4_grow_r2 : List Cond := [Cond.fieldLink RX1 29 "Barrierbook$Layer" "leasts" "[I", Cond.methodLink RX1 43 Lib.Math.min.name, Cond.static Lib.Math.min.name, Cond.initialized "java/lang/Math", Cond.code Lib.Math.min.name Lib.Math.min.code 2 (some .int), Cond.fieldLink RX1 32 "Barrierbook$Layer" "mosts" "[I", Cond.methodLink RX1 49 Lib.Math.max.name, Cond.static Lib.Math.max.name, Cond.code Lib.Math.max.name Lib.Math.max.code 2 (some .int), Cond.fieldLink RX1 35 "Barrierbook$Layer" "size" "I", Cond.fieldLink RX1 9 "Barrierbook$Layer" "prices0" "[I", Cond.fieldLink RX1 52 "Barrierbook$Standing" "price0" "I", Cond.fieldLink RX1 15 "Barrierbook$Layer" "prices1" "[I", Cond.fieldLink RX1 57 "Barrierbook$Standing" "price1" "I", Cond.fieldLink RX1 18 "Barrierbook$Layer" "misses" "[I", Cond.fieldLink RX1 60 "Barrierbook$Standing" "missed" "I", Cond.fieldLink RX1 21 "Barrierbook$Layer" "knocked" "[Z", Cond.fieldLink RX1 63 "Barrierbook$Standing" "isKnocked" "Z", Cond.methodLink RX1 39 yX1_find, Cond.instanceMethod yX1_find, Cond.selects RX1 yX1_find yX1_find, Cond.code yX1_find cX1_find 3 (some .int), Cond.methodLink RX4 74 yX4_growPeriod, Cond.instanceMethod yX4_growPeriod]
def wsX4_grow_r3 : List Cond := [Cond.selects RX4 yX4_growPeriod yX4_growPeriod, Cond.code yX4_growPeriod cX4_growPeriod 4 none, Cond.fieldLink RX4 29 "Barrierbook$Tree" "to" "LBarrierbook$Layer;", Cond.methodLink RX4 81 yX4_growBranch, Cond.instanceMethod yX4_growBranch, Cond.selects RX4 yX4_growBranch yX4_growBranch, Cond.code yX4_growBranch cX4_growBranch 11 none, Cond.fieldLink RX4 12 "Barrierbook$Tree" "branch" "LBarrierbook$Standing;", Cond.fieldLink RX4 97 "Barrierbook$Layer" "weights" "[J", Cond.fieldLink RX4 108 "Barrierbook$Layer" "leasts" "[I", Cond.fieldLink RX4 112 "Barrierbook$Standing" "paidLast" "I", Cond.fieldLink RX4 115 "Barrierbook$Layer" "mosts" "[I", Cond.methodLink RX4 85 yX1_holds, Cond.instanceMethod yX1_holds, Cond.selects RX1 yX1_holds yX1_holds, Cond.code yX1_holds cX1_holds 2 (some .boolean), Cond.methodLink RX4 89 yX1_show, Cond.instanceMethod yX1_show, Cond.selects RX1 yX1_show yX1_show, Cond.code yX1_show cX1_show 4 none, Cond.fieldLink RX1 71 "Barrierbook$Standing" "told" "I", Cond.fieldLink RX1 74 "Barrierbook$Standing" "isOver" "Z", Cond.fieldLink RX1 77 "Barrierbook$Standing" "paidLast" "I", Cond.fieldLink RX1 80 "Barrierbook$Standing" "paidInAll" "I"]
def wsX4_grow_r4 : List Cond := [Cond.methodLink RX1 67 yX1_holds, Cond.methodLink RX4 93 yX3_move, Cond.instanceMethod yX3_move, Cond.selects RX3 yX3_move yX3_move, Cond.initialized RX3, Cond.code yX3_move cX3_move 5 none, Cond.fieldLink RX3 9 "Barrierbook$Standing" "told" "I", Cond.fieldLink RX3 37 "Barrierbook$Note" "asset0" "LBarrierbook$Asset;", Cond.fieldLink RX3 15 "Barrierbook$Standing" "price0" "I", Cond.fieldLink RX3 48 "Barrierbook$Note" "asset1" "LBarrierbook$Asset;", Cond.fieldLink RX3 18 "Barrierbook$Standing" "price1" "I", Cond.fieldLink RX3 65 "Barrierbook$Note" "isAgainst" "Z", Cond.fieldLink RX3 68 "Barrierbook$Note" "periods" "I", Cond.fieldLink RX3 75 "Barrierbook$Note" "barrier" "I", Cond.fieldLink RX3 78 "Barrierbook$Note" "isAtEnd" "Z", Cond.fieldLink RX3 24 "Barrierbook$Standing" "isKnocked" "Z", Cond.fieldLink RX3 31 "Barrierbook$Standing" "paidLast" "I", Cond.fieldLink RX3 85 "Barrierbook$Note" "callLevel" "I", Cond.fieldLink RX3 28 "Barrierbook$Standing" "isOver" "Z", Cond.fieldLink RX3 34 "Barrierbook$Standing" "paidInAll" "I", Cond.methodLink RX3 61 yX0_priceBehind, Cond.instanceMethod yX0_priceBehind, Cond.selects RX0 yX0_priceBehind yX0_priceBehind, Cond.initialized RX0]
def wsX4_grow_r5 : List Cond := [Cond.code yX0_priceBehind cX0_priceBehind 3 (some .int), Cond.fieldLink RX0 15 "Barrierbook$Asset" "rise" "I", Cond.fieldLink RX0 18 "Barrierbook$Asset" "fall" "I", Cond.methodLink RX0 21 Lib.Math.max.name, Cond.methodLink RX3 71 yX3_worstLevel, Cond.instanceMethod yX3_worstLevel, Cond.selects RX3 yX3_worstLevel yX3_worstLevel, Cond.code yX3_worstLevel cX3_worstLevel 2 (some .int), Cond.methodLink RX3 55 Lib.Math.min.name, Cond.methodLink RX3 51 yX0_levelAt, Cond.instanceMethod yX0_levelAt, Cond.selects RX0 yX0_levelAt yX0_levelAt, Cond.code yX0_levelAt cX0_levelAt 2 (some .int), Cond.fieldLink RX0 9 "Barrierbook$Asset" "first" "I", Cond.methodLink RX3 81 yX3_takeCoupons, Cond.instanceMethod yX3_takeCoupons, Cond.selects RX3 yX3_takeCoupons yX3_takeCoupons, Cond.code yX3_takeCoupons cX3_takeCoupons 4 (some .int), Cond.fieldLink RX3 91 "Barrierbook$Note" "couponLevel" "I", Cond.fieldLink RX3 21 "Barrierbook$Standing" "missed" "I", Cond.fieldLink RX3 94 "Barrierbook$Note" "remembers" "Z", Cond.fieldLink RX3 97 "Barrierbook$Note" "coupon" "I", Cond.methodLink RX3 88 yX3_endPay, Cond.instanceMethod yX3_endPay]
def wsX4_grow_r6 : List Cond := [Cond.selects RX3 yX3_endPay yX3_endPay, Cond.code yX3_endPay cX3_endPay 4 (some .int), Cond.methodLink RX4 100 yX2_weightOf, Cond.instanceMethod yX2_weightOf, Cond.selects RX2 yX2_weightOf yX2_weightOf, Cond.initialized RX2, Cond.code yX2_weightOf cX2_weightOf 2 (some .int), Cond.fieldLink RX2 25 "Barrierbook$Note" "chance" "I", Cond.static yX5_wholeWeightOf, Cond.initialized RX5, Cond.code yX5_wholeWeightOf cX5_wholeWeightOf 4 (some .long), Cond.constantLong RX5 191 (10), Cond.methodLink RX4 118 yX4_end, Cond.instanceMethod yX4_end, Cond.selects RX4 yX4_end yX4_end, Cond.code yX4_end cX4_end 6 none, Cond.methodLink RX4 122 Lib.Math.min.name, Cond.methodLink RX4 128 Lib.Math.max.name]
def wsX4_grow : List Cond := .code yX4_grow cX4_grow 4 none :: ((wsX4_grow_r1 ++ (wsX4_grow_r2 ++ (wsX4_grow_r3 ++ (wsX4_grow_r4 ++ (wsX4_grow_r5 ++ wsX4_grow_r6))))) ++ wsX30 ++ wsX40 ++ wsX10 ++ wsX20 ++ wsX00)
def wsX4_endSumOf : List Cond := .code yX4_endSumOf cX4_endSumOf 2 (some .long) :: ([.fieldLink RX4 18 "Barrierbook$Tree" "endSums" "[J"] ++ wsX40)
def wsX5_init_r1 : List Cond := [Cond.methodLink RX5 3 objectInit, Cond.instanceMethod objectInit, Cond.code objectInit ⟨#[0xb1]⟩ 1 none, Cond.classLink RX5 9 RX2, Cond.instantiable RX2 11, Cond.initialized RX2, Cond.fieldLink RX5 12 "Barrierbook" "note" "LBarrierbook$Note;", Cond.classLink RX5 16 RX3, Cond.instantiable RX3 8, Cond.initialized RX3, Cond.fieldLink RX5 19 "Barrierbook" "now" "LBarrierbook$Standing;", Cond.fieldLink RX5 23 "Barrierbook" "walker" "LBarrierbook$Standing;", Cond.classLink RX5 26 RX4, Cond.instantiable RX4 9, Cond.initialized RX4, Cond.fieldLink RX5 29 "Barrierbook" "tree" "LBarrierbook$Tree;", Cond.fieldLink RX5 33 "Barrierbook" "moves" "I", Cond.instanceMethod yX2_init, Cond.code yX2_init cX2_init 1 none, Cond.methodLink RX2 3 objectInit, Cond.classLink RX2 9 RX0, Cond.instantiable RX0 3, Cond.initialized RX0, Cond.fieldLink RX2 12 "Barrierbook$Note" "asset0" "LBarrierbook$Asset;"]
def wsX5_init_r2 : List Cond := [Cond.fieldLink RX2 18 "Barrierbook$Note" "asset1" "LBarrierbook$Asset;", Cond.fieldLink RX2 21 "Barrierbook$Note" "isAgainst" "Z", Cond.fieldLink RX2 25 "Barrierbook$Note" "chance" "I", Cond.fieldLink RX2 29 "Barrierbook$Note" "periods" "I", Cond.fieldLink RX2 32 "Barrierbook$Note" "barrier" "I", Cond.fieldLink RX2 35 "Barrierbook$Note" "couponLevel" "I", Cond.fieldLink RX2 38 "Barrierbook$Note" "callLevel" "I", Cond.fieldLink RX2 41 "Barrierbook$Note" "coupon" "I", Cond.fieldLink RX2 44 "Barrierbook$Note" "isAtEnd" "Z", Cond.fieldLink RX2 47 "Barrierbook$Note" "remembers" "Z", Cond.instanceMethod yX0_init, Cond.code yX0_init cX0_init 1 none, Cond.methodLink RX0 3 objectInit, Cond.fieldLink RX0 9 "Barrierbook$Asset" "first" "I", Cond.fieldLink RX0 15 "Barrierbook$Asset" "rise" "I", Cond.fieldLink RX0 18 "Barrierbook$Asset" "fall" "I", Cond.instanceMethod yX3_init, Cond.code yX3_init cX3_init 1 none, Cond.methodLink RX3 3 objectInit, Cond.fieldLink RX3 9 "Barrierbook$Standing" "told" "I", Cond.fieldLink RX3 15 "Barrierbook$Standing" "price0" "I", Cond.fieldLink RX3 18 "Barrierbook$Standing" "price1" "I", Cond.fieldLink RX3 21 "Barrierbook$Standing" "missed" "I", Cond.fieldLink RX3 24 "Barrierbook$Standing" "isKnocked" "Z"]
def wsX5_init_r3 : List Cond := [Cond.fieldLink RX3 28 "Barrierbook$Standing" "isOver" "Z", Cond.fieldLink RX3 31 "Barrierbook$Standing" "paidLast" "I", Cond.fieldLink RX3 34 "Barrierbook$Standing" "paidInAll" "I", Cond.instanceMethod yX4_init, Cond.code yX4_init cX4_init 1 none, Cond.methodLink RX4 3 objectInit, Cond.classLink RX4 9 RX3, Cond.fieldLink RX4 12 "Barrierbook$Tree" "branch" "LBarrierbook$Standing;", Cond.arrayClass .long, Cond.fieldLink RX4 18 "Barrierbook$Tree" "endSums" "[J", Cond.classLink RX4 22 RX1, Cond.instantiable RX1 8, Cond.initialized RX1, Cond.fieldLink RX4 25 "Barrierbook$Tree" "from" "LBarrierbook$Layer;", Cond.fieldLink RX4 29 "Barrierbook$Tree" "to" "LBarrierbook$Layer;", Cond.fieldLink RX4 32 "Barrierbook$Tree" "paidSum" "J", Cond.fieldLink RX4 36 "Barrierbook$Tree" "knockedSum" "J", Cond.fieldLink RX4 39 "Barrierbook$Tree" "lastStates" "I", Cond.fieldLink RX4 43 "Barrierbook$Tree" "leastPaid" "I", Cond.fieldLink RX4 46 "Barrierbook$Tree" "mostPaid" "I", Cond.instanceMethod yX1_init, Cond.code yX1_init cX1_init 1 none, Cond.methodLink RX1 3 objectInit, Cond.arrayClass .int]
def wsX5_init_r4 : List Cond := [Cond.fieldLink RX1 9 "Barrierbook$Layer" "prices0" "[I", Cond.fieldLink RX1 15 "Barrierbook$Layer" "prices1" "[I", Cond.fieldLink RX1 18 "Barrierbook$Layer" "misses" "[I", Cond.arrayClass .boolean, Cond.fieldLink RX1 21 "Barrierbook$Layer" "knocked" "[Z", Cond.fieldLink RX1 25 "Barrierbook$Layer" "weights" "[J", Cond.fieldLink RX1 29 "Barrierbook$Layer" "leasts" "[I", Cond.fieldLink RX1 32 "Barrierbook$Layer" "mosts" "[I", Cond.fieldLink RX1 35 "Barrierbook$Layer" "size" "I"]
def wsX5_init : List Cond := .code yX5_init cX5_init 1 none :: ((wsX5_init_r1 ++ (wsX5_init_r2 ++ (wsX5_init_r3 ++ wsX5_init_r4))) ++ wsX20 ++ wsX50 ++ wsX30 ++ wsX40 ++ wsX00 ++ wsX10)
def wsX5_isAsset : List Cond := .code yX5_isAsset cX5_isAsset 1 (some .boolean) :: ([])
def wsX5_isWithin : List Cond := .code yX5_isWithin cX5_isWithin 3 (some .boolean) :: ([])
def wsX5_setAsset_r1 : List Cond := [Cond.classLink RX5 41 "java/lang/IndexOutOfBoundsException", Cond.initialized "java/lang/IndexOutOfBoundsException", Cond.classLink RX5 52 "java/lang/IllegalArgumentException", Cond.initialized "java/lang/IllegalArgumentException", Cond.fieldLink RX5 12 "Barrierbook" "note" "LBarrierbook$Note;", Cond.fieldLink RX5 57 "Barrierbook$Note" "asset0" "LBarrierbook$Asset;", Cond.fieldLink RX5 61 "Barrierbook$Note" "asset1" "LBarrierbook$Asset;", Cond.fieldLink RX5 64 "Barrierbook$Asset" "first" "I", Cond.fieldLink RX5 69 "Barrierbook$Asset" "rise" "I", Cond.fieldLink RX5 72 "Barrierbook$Asset" "fall" "I", Cond.fieldLink RX5 19 "Barrierbook" "now" "LBarrierbook$Standing;", Cond.methodLink RX5 37 yX5_isAsset, Cond.static yX5_isAsset, Cond.initialized RX5, Cond.code yX5_isAsset cX5_isAsset 1 (some .boolean), Cond.methodLink RX5 48 yX5_isWithin, Cond.static yX5_isWithin, Cond.code yX5_isWithin cX5_isWithin 3 (some .boolean), Cond.methodLink RX5 75 yX3_begin, Cond.instanceMethod yX3_begin, Cond.selects RX3 yX3_begin yX3_begin, Cond.initialized RX3, Cond.code yX3_begin cX3_begin 2 none, Cond.fieldLink RX3 9 "Barrierbook$Standing" "told" "I"]
def wsX5_setAsset_r2 : List Cond := [Cond.fieldLink RX3 37 "Barrierbook$Note" "asset0" "LBarrierbook$Asset;", Cond.fieldLink RX3 43 "Barrierbook$Asset" "first" "I", Cond.fieldLink RX3 15 "Barrierbook$Standing" "price0" "I", Cond.fieldLink RX3 48 "Barrierbook$Note" "asset1" "LBarrierbook$Asset;", Cond.fieldLink RX3 18 "Barrierbook$Standing" "price1" "I", Cond.fieldLink RX3 21 "Barrierbook$Standing" "missed" "I", Cond.fieldLink RX3 24 "Barrierbook$Standing" "isKnocked" "Z", Cond.fieldLink RX3 28 "Barrierbook$Standing" "isOver" "Z", Cond.fieldLink RX3 31 "Barrierbook$Standing" "paidLast" "I", Cond.fieldLink RX3 34 "Barrierbook$Standing" "paidInAll" "I"]
def wsX5_setAsset : List Cond := .code yX5_setAsset cX5_setAsset 6 none :: ((wsX5_setAsset_r1 ++ wsX5_setAsset_r2) ++ wsX50 ++ wsX20 ++ wsX00 ++ wsX30 ++ (vx_atS RX5 45 "java/lang/IndexOutOfBoundsException" ["java/lang/RuntimeException", "java/lang/Exception"]).filter goodWord ++ (vx_atS RX5 56 "java/lang/IllegalArgumentException" ["java/lang/RuntimeException", "java/lang/Exception"]).filter goodWord)
def wsX5_setMoves_r1 : List Cond := [Cond.classLink RX5 52 "java/lang/IllegalArgumentException", Cond.initialized "java/lang/IllegalArgumentException", Cond.fieldLink RX5 12 "Barrierbook" "note" "LBarrierbook$Note;", Cond.fieldLink RX5 81 "Barrierbook$Note" "isAgainst" "Z", Cond.fieldLink RX5 85 "Barrierbook$Note" "chance" "I", Cond.fieldLink RX5 19 "Barrierbook" "now" "LBarrierbook$Standing;", Cond.methodLink RX5 48 yX5_isWithin, Cond.static yX5_isWithin, Cond.initialized RX5, Cond.code yX5_isWithin cX5_isWithin 3 (some .boolean), Cond.methodLink RX5 75 yX3_begin, Cond.instanceMethod yX3_begin, Cond.selects RX3 yX3_begin yX3_begin, Cond.initialized RX3, Cond.code yX3_begin cX3_begin 2 none, Cond.fieldLink RX3 9 "Barrierbook$Standing" "told" "I", Cond.fieldLink RX3 37 "Barrierbook$Note" "asset0" "LBarrierbook$Asset;", Cond.fieldLink RX3 43 "Barrierbook$Asset" "first" "I", Cond.fieldLink RX3 15 "Barrierbook$Standing" "price0" "I", Cond.fieldLink RX3 48 "Barrierbook$Note" "asset1" "LBarrierbook$Asset;", Cond.fieldLink RX3 18 "Barrierbook$Standing" "price1" "I", Cond.fieldLink RX3 21 "Barrierbook$Standing" "missed" "I", Cond.fieldLink RX3 24 "Barrierbook$Standing" "isKnocked" "Z", Cond.fieldLink RX3 28 "Barrierbook$Standing" "isOver" "Z"]
def wsX5_setMoves_r2 : List Cond := [Cond.fieldLink RX3 31 "Barrierbook$Standing" "paidLast" "I", Cond.fieldLink RX3 34 "Barrierbook$Standing" "paidInAll" "I"]
def wsX5_setMoves : List Cond := .code yX5_setMoves cX5_setMoves 3 none :: ((wsX5_setMoves_r1 ++ wsX5_setMoves_r2) ++ wsX50 ++ wsX20 ++ wsX30 ++ wsX00 ++ (vx_atS RX5 56 "java/lang/IllegalArgumentException" ["java/lang/RuntimeException", "java/lang/Exception"]).filter goodWord)
def wsX5_setNote_r1 : List Cond := [Cond.classLink RX5 52 "java/lang/IllegalArgumentException", Cond.initialized "java/lang/IllegalArgumentException", Cond.fieldLink RX5 12 "Barrierbook" "note" "LBarrierbook$Note;", Cond.fieldLink RX5 90 "Barrierbook$Note" "periods" "I", Cond.fieldLink RX5 93 "Barrierbook$Note" "barrier" "I", Cond.fieldLink RX5 96 "Barrierbook$Note" "couponLevel" "I", Cond.fieldLink RX5 99 "Barrierbook$Note" "callLevel" "I", Cond.fieldLink RX5 102 "Barrierbook$Note" "coupon" "I", Cond.fieldLink RX5 19 "Barrierbook" "now" "LBarrierbook$Standing;", Cond.methodLink RX5 48 yX5_isWithin, Cond.static yX5_isWithin, Cond.initialized RX5, Cond.code yX5_isWithin cX5_isWithin 3 (some .boolean), Cond.methodLink RX5 75 yX3_begin, Cond.instanceMethod yX3_begin, Cond.selects RX3 yX3_begin yX3_begin, Cond.initialized RX3, Cond.code yX3_begin cX3_begin 2 none, Cond.fieldLink RX3 9 "Barrierbook$Standing" "told" "I", Cond.fieldLink RX3 37 "Barrierbook$Note" "asset0" "LBarrierbook$Asset;", Cond.fieldLink RX3 43 "Barrierbook$Asset" "first" "I", Cond.fieldLink RX3 15 "Barrierbook$Standing" "price0" "I", Cond.fieldLink RX3 48 "Barrierbook$Note" "asset1" "LBarrierbook$Asset;", Cond.fieldLink RX3 18 "Barrierbook$Standing" "price1" "I"]
def wsX5_setNote_r2 : List Cond := [Cond.fieldLink RX3 21 "Barrierbook$Standing" "missed" "I", Cond.fieldLink RX3 24 "Barrierbook$Standing" "isKnocked" "Z", Cond.fieldLink RX3 28 "Barrierbook$Standing" "isOver" "Z", Cond.fieldLink RX3 31 "Barrierbook$Standing" "paidLast" "I", Cond.fieldLink RX3 34 "Barrierbook$Standing" "paidInAll" "I"]
def wsX5_setNote : List Cond := .code yX5_setNote cX5_setNote 6 none :: ((wsX5_setNote_r1 ++ wsX5_setNote_r2) ++ wsX50 ++ wsX20 ++ wsX30 ++ wsX00 ++ (vx_atS RX5 56 "java/lang/IllegalArgumentException" ["java/lang/RuntimeException", "java/lang/Exception"]).filter goodWord)
def wsX5_setKind : List Cond := .code yX5_setKind cX5_setKind 3 none :: ([.fieldLink RX5 12 "Barrierbook" "note" "LBarrierbook$Note;", .fieldLink RX5 105 "Barrierbook$Note" "isAtEnd" "Z", .fieldLink RX5 108 "Barrierbook$Note" "remembers" "Z", .fieldLink RX5 19 "Barrierbook" "now" "LBarrierbook$Standing;", .methodLink RX5 75 yX3_begin, .instanceMethod yX3_begin, .selects RX3 yX3_begin yX3_begin, .initialized RX3, .code yX3_begin cX3_begin 2 none, .fieldLink RX3 9 "Barrierbook$Standing" "told" "I", .fieldLink RX3 37 "Barrierbook$Note" "asset0" "LBarrierbook$Asset;", .fieldLink RX3 43 "Barrierbook$Asset" "first" "I", .fieldLink RX3 15 "Barrierbook$Standing" "price0" "I", .fieldLink RX3 48 "Barrierbook$Note" "asset1" "LBarrierbook$Asset;", .fieldLink RX3 18 "Barrierbook$Standing" "price1" "I", .fieldLink RX3 21 "Barrierbook$Standing" "missed" "I", .fieldLink RX3 24 "Barrierbook$Standing" "isKnocked" "Z", .fieldLink RX3 28 "Barrierbook$Standing" "isOver" "Z", .fieldLink RX3 31 "Barrierbook$Standing" "paidLast" "I", .fieldLink RX3 34 "Barrierbook$Standing" "paidInAll" "I"] ++ wsX50 ++ wsX20 ++ wsX30 ++ wsX00)
def wsX5_tell_r1 : List Cond := [Cond.classLink RX5 114 "java/lang/IllegalStateException", Cond.initialized "java/lang/IllegalStateException", Cond.fieldLink RX5 19 "Barrierbook" "now" "LBarrierbook$Standing;", Cond.fieldLink RX5 111 "Barrierbook$Standing" "isOver" "Z", Cond.fieldLink RX5 119 "Barrierbook$Standing" "told" "I", Cond.fieldLink RX5 33 "Barrierbook" "moves" "I", Cond.fieldLink RX5 12 "Barrierbook" "note" "LBarrierbook$Note;", Cond.fieldLink RX5 126 "Barrierbook$Standing" "paidLast" "I", Cond.methodLink RX5 122 yX3_move, Cond.instanceMethod yX3_move, Cond.selects RX3 yX3_move yX3_move, Cond.initialized RX3, Cond.code yX3_move cX3_move 5 none, Cond.fieldLink RX3 9 "Barrierbook$Standing" "told" "I", Cond.fieldLink RX3 37 "Barrierbook$Note" "asset0" "LBarrierbook$Asset;", Cond.fieldLink RX3 15 "Barrierbook$Standing" "price0" "I", Cond.fieldLink RX3 48 "Barrierbook$Note" "asset1" "LBarrierbook$Asset;", Cond.fieldLink RX3 18 "Barrierbook$Standing" "price1" "I", Cond.fieldLink RX3 65 "Barrierbook$Note" "isAgainst" "Z", Cond.fieldLink RX3 68 "Barrierbook$Note" "periods" "I", Cond.fieldLink RX3 75 "Barrierbook$Note" "barrier" "I", Cond.fieldLink RX3 78 "Barrierbook$Note" "isAtEnd" "Z", Cond.fieldLink RX3 24 "Barrierbook$Standing" "isKnocked" "Z", Cond.fieldLink RX3 31 "Barrierbook$Standing" "paidLast" "I"]
def wsX5_tell_r2 : List Cond := [Cond.fieldLink RX3 85 "Barrierbook$Note" "callLevel" "I", Cond.fieldLink RX3 28 "Barrierbook$Standing" "isOver" "Z", Cond.fieldLink RX3 34 "Barrierbook$Standing" "paidInAll" "I", Cond.methodLink RX3 61 yX0_priceBehind, Cond.instanceMethod yX0_priceBehind, Cond.selects RX0 yX0_priceBehind yX0_priceBehind, Cond.initialized RX0, Cond.code yX0_priceBehind cX0_priceBehind 3 (some .int), Cond.fieldLink RX0 15 "Barrierbook$Asset" "rise" "I", Cond.fieldLink RX0 18 "Barrierbook$Asset" "fall" "I", Cond.methodLink RX0 21 Lib.Math.max.name, Cond.static Lib.Math.max.name, Cond.initialized "java/lang/Math", Cond.code Lib.Math.max.name Lib.Math.max.code 2 (some .int), Cond.methodLink RX3 71 yX3_worstLevel, Cond.instanceMethod yX3_worstLevel, Cond.selects RX3 yX3_worstLevel yX3_worstLevel, Cond.code yX3_worstLevel cX3_worstLevel 2 (some .int), Cond.methodLink RX3 55 Lib.Math.min.name, Cond.static Lib.Math.min.name, Cond.code Lib.Math.min.name Lib.Math.min.code 2 (some .int), Cond.methodLink RX3 51 yX0_levelAt, Cond.instanceMethod yX0_levelAt, Cond.selects RX0 yX0_levelAt yX0_levelAt]
def wsX5_tell_r3 : List Cond := [Cond.code yX0_levelAt cX0_levelAt 2 (some .int), Cond.fieldLink RX0 9 "Barrierbook$Asset" "first" "I", Cond.methodLink RX3 81 yX3_takeCoupons, Cond.instanceMethod yX3_takeCoupons, Cond.selects RX3 yX3_takeCoupons yX3_takeCoupons, Cond.code yX3_takeCoupons cX3_takeCoupons 4 (some .int), Cond.fieldLink RX3 91 "Barrierbook$Note" "couponLevel" "I", Cond.fieldLink RX3 21 "Barrierbook$Standing" "missed" "I", Cond.fieldLink RX3 94 "Barrierbook$Note" "remembers" "Z", Cond.fieldLink RX3 97 "Barrierbook$Note" "coupon" "I", Cond.methodLink RX3 88 yX3_endPay, Cond.instanceMethod yX3_endPay, Cond.selects RX3 yX3_endPay yX3_endPay, Cond.code yX3_endPay cX3_endPay 4 (some .int)]
def wsX5_tell : List Cond := .code yX5_tell cX5_tell 3 (some .int) :: ((wsX5_tell_r1 ++ (wsX5_tell_r2 ++ wsX5_tell_r3)) ++ wsX50 ++ wsX30 ++ wsX20 ++ wsX00 ++ (vx_atS RX5 118 "java/lang/IllegalStateException" ["java/lang/RuntimeException", "java/lang/Exception"]).filter goodWord)
def wsX5_isUpAt : List Cond := .code yX5_isUpAt cX5_isUpAt 2 (some .boolean) :: ([])
def wsX5_takeBack_r1 : List Cond := [Cond.classLink RX5 114 "java/lang/IllegalStateException", Cond.initialized "java/lang/IllegalStateException", Cond.fieldLink RX5 19 "Barrierbook" "now" "LBarrierbook$Standing;", Cond.fieldLink RX5 119 "Barrierbook$Standing" "told" "I", Cond.fieldLink RX5 126 "Barrierbook$Standing" "paidLast" "I", Cond.fieldLink RX5 12 "Barrierbook" "note" "LBarrierbook$Note;", Cond.fieldLink RX5 33 "Barrierbook" "moves" "I", Cond.methodLink RX5 75 yX3_begin, Cond.instanceMethod yX3_begin, Cond.selects RX3 yX3_begin yX3_begin, Cond.initialized RX3, Cond.code yX3_begin cX3_begin 2 none, Cond.fieldLink RX3 9 "Barrierbook$Standing" "told" "I", Cond.fieldLink RX3 37 "Barrierbook$Note" "asset0" "LBarrierbook$Asset;", Cond.fieldLink RX3 43 "Barrierbook$Asset" "first" "I", Cond.fieldLink RX3 15 "Barrierbook$Standing" "price0" "I", Cond.fieldLink RX3 48 "Barrierbook$Note" "asset1" "LBarrierbook$Asset;", Cond.fieldLink RX3 18 "Barrierbook$Standing" "price1" "I", Cond.fieldLink RX3 21 "Barrierbook$Standing" "missed" "I", Cond.fieldLink RX3 24 "Barrierbook$Standing" "isKnocked" "Z", Cond.fieldLink RX3 28 "Barrierbook$Standing" "isOver" "Z", Cond.fieldLink RX3 31 "Barrierbook$Standing" "paidLast" "I", Cond.fieldLink RX3 34 "Barrierbook$Standing" "paidInAll" "I", Cond.methodLink RX5 131 yX5_isUpAt]
def wsX5_takeBack_r2 : List Cond := [Cond.static yX5_isUpAt, Cond.initialized RX5, Cond.code yX5_isUpAt cX5_isUpAt 2 (some .boolean), Cond.methodLink RX5 122 yX3_move, Cond.instanceMethod yX3_move, Cond.selects RX3 yX3_move yX3_move, Cond.code yX3_move cX3_move 5 none, Cond.fieldLink RX3 65 "Barrierbook$Note" "isAgainst" "Z", Cond.fieldLink RX3 68 "Barrierbook$Note" "periods" "I", Cond.fieldLink RX3 75 "Barrierbook$Note" "barrier" "I", Cond.fieldLink RX3 78 "Barrierbook$Note" "isAtEnd" "Z", Cond.fieldLink RX3 85 "Barrierbook$Note" "callLevel" "I", Cond.methodLink RX3 61 yX0_priceBehind, Cond.instanceMethod yX0_priceBehind, Cond.selects RX0 yX0_priceBehind yX0_priceBehind, Cond.initialized RX0, Cond.code yX0_priceBehind cX0_priceBehind 3 (some .int), Cond.fieldLink RX0 15 "Barrierbook$Asset" "rise" "I", Cond.fieldLink RX0 18 "Barrierbook$Asset" "fall" "I", Cond.methodLink RX0 21 Lib.Math.max.name, Cond.static Lib.Math.max.name, Cond.initialized "java/lang/Math", Cond.code Lib.Math.max.name Lib.Math.max.code 2 (some .int), Cond.methodLink RX3 71 yX3_worstLevel]
def wsX5_takeBack_r3 : List Cond := [Cond.instanceMethod yX3_worstLevel, Cond.selects RX3 yX3_worstLevel yX3_worstLevel, Cond.code yX3_worstLevel cX3_worstLevel 2 (some .int), Cond.methodLink RX3 55 Lib.Math.min.name, Cond.static Lib.Math.min.name, Cond.code Lib.Math.min.name Lib.Math.min.code 2 (some .int), Cond.methodLink RX3 51 yX0_levelAt, Cond.instanceMethod yX0_levelAt, Cond.selects RX0 yX0_levelAt yX0_levelAt, Cond.code yX0_levelAt cX0_levelAt 2 (some .int), Cond.fieldLink RX0 9 "Barrierbook$Asset" "first" "I", Cond.methodLink RX3 81 yX3_takeCoupons, Cond.instanceMethod yX3_takeCoupons, Cond.selects RX3 yX3_takeCoupons yX3_takeCoupons, Cond.code yX3_takeCoupons cX3_takeCoupons 4 (some .int), Cond.fieldLink RX3 91 "Barrierbook$Note" "couponLevel" "I", Cond.fieldLink RX3 94 "Barrierbook$Note" "remembers" "Z", Cond.fieldLink RX3 97 "Barrierbook$Note" "coupon" "I", Cond.methodLink RX3 88 yX3_endPay, Cond.instanceMethod yX3_endPay, Cond.selects RX3 yX3_endPay yX3_endPay, Cond.code yX3_endPay cX3_endPay 4 (some .int)]
def wsX5_takeBack : List Cond := .code yX5_takeBack cX5_takeBack 4 (some .int) :: ((wsX5_takeBack_r1 ++ (wsX5_takeBack_r2 ++ wsX5_takeBack_r3)) ++ wsX50 ++ wsX30 ++ wsX20 ++ wsX00 ++ (vx_atS RX5 118 "java/lang/IllegalStateException" ["java/lang/RuntimeException", "java/lang/Exception"]).filter goodWord)
def wsX5_told : List Cond := .code yX5_told cX5_told 1 (some .int) :: ([.fieldLink RX5 19 "Barrierbook" "now" "LBarrierbook$Standing;", .fieldLink RX5 119 "Barrierbook$Standing" "told" "I"] ++ wsX50 ++ wsX30)
def wsX5_price : List Cond := .code yX5_price cX5_price 2 (some .int) :: ([.classLink RX5 41 "java/lang/IndexOutOfBoundsException", .initialized "java/lang/IndexOutOfBoundsException", .fieldLink RX5 19 "Barrierbook" "now" "LBarrierbook$Standing;", .fieldLink RX5 135 "Barrierbook$Standing" "price0" "I", .fieldLink RX5 138 "Barrierbook$Standing" "price1" "I", .methodLink RX5 37 yX5_isAsset, .static yX5_isAsset, .initialized RX5, .code yX5_isAsset cX5_isAsset 1 (some .boolean)] ++ wsX50 ++ wsX30 ++ (vx_atS RX5 45 "java/lang/IndexOutOfBoundsException" ["java/lang/RuntimeException", "java/lang/Exception"]).filter goodWord)
def wsX5_worst : List Cond := .code yX5_worst cX5_worst 1 (some .int) :: ([.fieldLink RX5 19 "Barrierbook" "now" "LBarrierbook$Standing;", .fieldLink RX5 12 "Barrierbook" "note" "LBarrierbook$Note;", .methodLink RX5 141 yX3_worstLevel, .instanceMethod yX3_worstLevel, .selects RX3 yX3_worstLevel yX3_worstLevel, .initialized RX3, .code yX3_worstLevel cX3_worstLevel 2 (some .int), .fieldLink RX3 37 "Barrierbook$Note" "asset0" "LBarrierbook$Asset;", .fieldLink RX3 15 "Barrierbook$Standing" "price0" "I", .fieldLink RX3 48 "Barrierbook$Note" "asset1" "LBarrierbook$Asset;", .fieldLink RX3 18 "Barrierbook$Standing" "price1" "I", .methodLink RX3 55 Lib.Math.min.name, .static Lib.Math.min.name, .initialized "java/lang/Math", .code Lib.Math.min.name Lib.Math.min.code 2 (some .int), .methodLink RX3 51 yX0_levelAt, .instanceMethod yX0_levelAt, .selects RX0 yX0_levelAt yX0_levelAt, .initialized RX0, .code yX0_levelAt cX0_levelAt 2 (some .int), .fieldLink RX0 9 "Barrierbook$Asset" "first" "I"] ++ wsX50 ++ wsX20 ++ wsX30 ++ wsX00)
def wsX5_isKnocked : List Cond := .code yX5_isKnocked cX5_isKnocked 1 (some .boolean) :: ([.fieldLink RX5 19 "Barrierbook" "now" "LBarrierbook$Standing;", .fieldLink RX5 145 "Barrierbook$Standing" "isKnocked" "Z"] ++ wsX50 ++ wsX30)
def wsX5_missed : List Cond := .code yX5_missed cX5_missed 1 (some .int) :: ([.fieldLink RX5 19 "Barrierbook" "now" "LBarrierbook$Standing;", .fieldLink RX5 148 "Barrierbook$Standing" "missed" "I"] ++ wsX50 ++ wsX30)
def wsX5_paid : List Cond := .code yX5_paid cX5_paid 1 (some .int) :: ([.fieldLink RX5 19 "Barrierbook" "now" "LBarrierbook$Standing;", .fieldLink RX5 151 "Barrierbook$Standing" "paidInAll" "I"] ++ wsX50 ++ wsX30)
def wsX5_isOver : List Cond := .code yX5_isOver cX5_isOver 1 (some .boolean) :: ([.fieldLink RX5 19 "Barrierbook" "now" "LBarrierbook$Standing;", .fieldLink RX5 111 "Barrierbook$Standing" "isOver" "Z"] ++ wsX50 ++ wsX30)
def wsX5_worth_r1 : List Cond := [Cond.fieldLink RX5 29 "Barrierbook" "tree" "LBarrierbook$Tree;", Cond.fieldLink RX5 12 "Barrierbook" "note" "LBarrierbook$Note;", Cond.fieldLink RX5 19 "Barrierbook" "now" "LBarrierbook$Standing;", Cond.fieldLink RX5 158 "Barrierbook$Tree" "paidSum" "J", Cond.methodLink RX5 154 yX4_grow, Cond.instanceMethod yX4_grow, Cond.selects RX4 yX4_grow yX4_grow, Cond.initialized RX4, Cond.code yX4_grow cX4_grow 4 none, Cond.fieldLink RX4 52 "Barrierbook$Standing" "isOver" "Z", Cond.fieldLink RX4 56 "Barrierbook$Standing" "isKnocked" "Z", Cond.fieldLink RX4 36 "Barrierbook$Tree" "knockedSum" "J", Cond.fieldLink RX4 39 "Barrierbook$Tree" "lastStates" "I", Cond.fieldLink RX4 43 "Barrierbook$Tree" "leastPaid" "I", Cond.fieldLink RX4 25 "Barrierbook$Tree" "from" "LBarrierbook$Layer;", Cond.fieldLink RX4 59 "Barrierbook$Layer" "size" "I", Cond.fieldLink RX4 66 "Barrierbook$Standing" "told" "I", Cond.fieldLink RX4 69 "Barrierbook$Note" "periods" "I", Cond.methodLink RX4 49 yX4_clear, Cond.instanceMethod yX4_clear, Cond.selects RX4 yX4_clear yX4_clear, Cond.code yX4_clear cX4_clear 2 none, Cond.fieldLink RX4 18 "Barrierbook$Tree" "endSums" "[J", Cond.fieldLink RX4 32 "Barrierbook$Tree" "paidSum" "J"]
def wsX5_worth_r2 : List Cond := [Cond.constant RX4 80 (2147483647), Cond.fieldLink RX4 46 "Barrierbook$Tree" "mostPaid" "I", Cond.methodLink RX4 62 yX1_add, Cond.instanceMethod yX1_add, Cond.selects RX1 yX1_add yX1_add, Cond.initialized RX1, Cond.code yX1_add cX1_add 7 none, Cond.fieldLink RX1 25 "Barrierbook$Layer" "weights" "[J", Cond.fieldLink RX1 29 "Barrierbook$Layer" "leasts" "[I", Cond.methodLink RX1 43 Lib.Math.min.name, Cond.static Lib.Math.min.name, Cond.initialized "java/lang/Math", Cond.code Lib.Math.min.name Lib.Math.min.code 2 (some .int), Cond.fieldLink RX1 32 "Barrierbook$Layer" "mosts" "[I", Cond.methodLink RX1 49 Lib.Math.max.name, Cond.static Lib.Math.max.name, Cond.code Lib.Math.max.name Lib.Math.max.code 2 (some .int), Cond.fieldLink RX1 35 "Barrierbook$Layer" "size" "I", Cond.fieldLink RX1 9 "Barrierbook$Layer" "prices0" "[I", Cond.fieldLink RX1 52 "Barrierbook$Standing" "price0" "I", Cond.fieldLink RX1 15 "Barrierbook$Layer" "prices1" "[I", Cond.fieldLink RX1 57 "Barrierbook$Standing" "price1" "I", Cond.fieldLink RX1 18 "Barrierbook$Layer" "misses" "[I", Cond.fieldLink RX1 60 "Barrierbook$Standing" "missed" "I"]
def wsX5_worth_r3 : List Cond := [Cond.fieldLink RX1 21 "Barrierbook$Layer" "knocked" "[Z", Cond.fieldLink RX1 63 "Barrierbook$Standing" "isKnocked" "Z", Cond.methodLink RX1 39 yX1_find, Cond.instanceMethod yX1_find, Cond.selects RX1 yX1_find yX1_find, Cond.code yX1_find cX1_find 3 (some .int), Cond.methodLink RX4 74 yX4_growPeriod, Cond.instanceMethod yX4_growPeriod, Cond.selects RX4 yX4_growPeriod yX4_growPeriod, Cond.code yX4_growPeriod cX4_growPeriod 4 none, Cond.fieldLink RX4 29 "Barrierbook$Tree" "to" "LBarrierbook$Layer;", Cond.methodLink RX4 81 yX4_growBranch, Cond.instanceMethod yX4_growBranch, Cond.selects RX4 yX4_growBranch yX4_growBranch, Cond.code yX4_growBranch cX4_growBranch 11 none, Cond.fieldLink RX4 12 "Barrierbook$Tree" "branch" "LBarrierbook$Standing;", Cond.fieldLink RX4 97 "Barrierbook$Layer" "weights" "[J", Cond.fieldLink RX4 108 "Barrierbook$Layer" "leasts" "[I", Cond.fieldLink RX4 112 "Barrierbook$Standing" "paidLast" "I", Cond.fieldLink RX4 115 "Barrierbook$Layer" "mosts" "[I", Cond.methodLink RX4 85 yX1_holds, Cond.instanceMethod yX1_holds, Cond.selects RX1 yX1_holds yX1_holds, Cond.code yX1_holds cX1_holds 2 (some .boolean)]
def wsX5_worth_r4 : List Cond := [Cond.methodLink RX4 89 yX1_show, Cond.instanceMethod yX1_show, Cond.selects RX1 yX1_show yX1_show, Cond.code yX1_show cX1_show 4 none, Cond.fieldLink RX1 71 "Barrierbook$Standing" "told" "I", Cond.fieldLink RX1 74 "Barrierbook$Standing" "isOver" "Z", Cond.fieldLink RX1 77 "Barrierbook$Standing" "paidLast" "I", Cond.fieldLink RX1 80 "Barrierbook$Standing" "paidInAll" "I", Cond.methodLink RX1 67 yX1_holds, Cond.methodLink RX4 93 yX3_move, Cond.instanceMethod yX3_move, Cond.selects RX3 yX3_move yX3_move, Cond.initialized RX3, Cond.code yX3_move cX3_move 5 none, Cond.fieldLink RX3 9 "Barrierbook$Standing" "told" "I", Cond.fieldLink RX3 37 "Barrierbook$Note" "asset0" "LBarrierbook$Asset;", Cond.fieldLink RX3 15 "Barrierbook$Standing" "price0" "I", Cond.fieldLink RX3 48 "Barrierbook$Note" "asset1" "LBarrierbook$Asset;", Cond.fieldLink RX3 18 "Barrierbook$Standing" "price1" "I", Cond.fieldLink RX3 65 "Barrierbook$Note" "isAgainst" "Z", Cond.fieldLink RX3 68 "Barrierbook$Note" "periods" "I", Cond.fieldLink RX3 75 "Barrierbook$Note" "barrier" "I", Cond.fieldLink RX3 78 "Barrierbook$Note" "isAtEnd" "Z", Cond.fieldLink RX3 24 "Barrierbook$Standing" "isKnocked" "Z"]
def wsX5_worth_r5 : List Cond := [Cond.fieldLink RX3 31 "Barrierbook$Standing" "paidLast" "I", Cond.fieldLink RX3 85 "Barrierbook$Note" "callLevel" "I", Cond.fieldLink RX3 28 "Barrierbook$Standing" "isOver" "Z", Cond.fieldLink RX3 34 "Barrierbook$Standing" "paidInAll" "I", Cond.methodLink RX3 61 yX0_priceBehind, Cond.instanceMethod yX0_priceBehind, Cond.selects RX0 yX0_priceBehind yX0_priceBehind, Cond.initialized RX0, Cond.code yX0_priceBehind cX0_priceBehind 3 (some .int), Cond.fieldLink RX0 15 "Barrierbook$Asset" "rise" "I", Cond.fieldLink RX0 18 "Barrierbook$Asset" "fall" "I", Cond.methodLink RX0 21 Lib.Math.max.name, Cond.methodLink RX3 71 yX3_worstLevel, Cond.instanceMethod yX3_worstLevel, Cond.selects RX3 yX3_worstLevel yX3_worstLevel, Cond.code yX3_worstLevel cX3_worstLevel 2 (some .int), Cond.methodLink RX3 55 Lib.Math.min.name, Cond.methodLink RX3 51 yX0_levelAt, Cond.instanceMethod yX0_levelAt, Cond.selects RX0 yX0_levelAt yX0_levelAt, Cond.code yX0_levelAt cX0_levelAt 2 (some .int), Cond.fieldLink RX0 9 "Barrierbook$Asset" "first" "I", Cond.methodLink RX3 81 yX3_takeCoupons, Cond.instanceMethod yX3_takeCoupons]
def wsX5_worth_r6 : List Cond := [Cond.selects RX3 yX3_takeCoupons yX3_takeCoupons, Cond.code yX3_takeCoupons cX3_takeCoupons 4 (some .int), Cond.fieldLink RX3 91 "Barrierbook$Note" "couponLevel" "I", Cond.fieldLink RX3 21 "Barrierbook$Standing" "missed" "I", Cond.fieldLink RX3 94 "Barrierbook$Note" "remembers" "Z", Cond.fieldLink RX3 97 "Barrierbook$Note" "coupon" "I", Cond.methodLink RX3 88 yX3_endPay, Cond.instanceMethod yX3_endPay, Cond.selects RX3 yX3_endPay yX3_endPay, Cond.code yX3_endPay cX3_endPay 4 (some .int), Cond.methodLink RX4 100 yX2_weightOf, Cond.instanceMethod yX2_weightOf, Cond.selects RX2 yX2_weightOf yX2_weightOf, Cond.initialized RX2, Cond.code yX2_weightOf cX2_weightOf 2 (some .int), Cond.fieldLink RX2 25 "Barrierbook$Note" "chance" "I", Cond.static yX5_wholeWeightOf, Cond.initialized RX5, Cond.code yX5_wholeWeightOf cX5_wholeWeightOf 4 (some .long), Cond.constantLong RX5 191 (10), Cond.methodLink RX4 118 yX4_end, Cond.instanceMethod yX4_end, Cond.selects RX4 yX4_end yX4_end, Cond.code yX4_end cX4_end 6 none]
def wsX5_worth_r7 : List Cond := [Cond.methodLink RX4 122 Lib.Math.min.name, Cond.methodLink RX4 128 Lib.Math.max.name]
def wsX5_worth : List Cond := .code yX5_worth cX5_worth 1 (some .long) :: ((wsX5_worth_r1 ++ (wsX5_worth_r2 ++ (wsX5_worth_r3 ++ (wsX5_worth_r4 ++ (wsX5_worth_r5 ++ (wsX5_worth_r6 ++ wsX5_worth_r7)))))) ++ wsX50 ++ wsX40 ++ wsX30 ++ wsX10 ++ wsX20 ++ wsX00)
def wsX5_worthOfRow_r1 : List Cond := [Cond.fieldLink RX5 23 "Barrierbook" "walker" "LBarrierbook$Standing;", Cond.fieldLink RX5 19 "Barrierbook" "now" "LBarrierbook$Standing;", Cond.fieldLink RX5 111 "Barrierbook$Standing" "isOver" "Z", Cond.constantLong RX5 191 (10), Cond.fieldLink RX5 12 "Barrierbook" "note" "LBarrierbook$Note;", Cond.fieldLink RX5 151 "Barrierbook$Standing" "paidInAll" "I", Cond.methodLink RX5 187 yX3_copy, Cond.instanceMethod yX3_copy, Cond.selects RX3 yX3_copy yX3_copy, Cond.initialized RX3, Cond.code yX3_copy cX3_copy 2 none, Cond.fieldLink RX3 9 "Barrierbook$Standing" "told" "I", Cond.fieldLink RX3 15 "Barrierbook$Standing" "price0" "I", Cond.fieldLink RX3 18 "Barrierbook$Standing" "price1" "I", Cond.fieldLink RX3 21 "Barrierbook$Standing" "missed" "I", Cond.fieldLink RX3 24 "Barrierbook$Standing" "isKnocked" "Z", Cond.fieldLink RX3 28 "Barrierbook$Standing" "isOver" "Z", Cond.fieldLink RX3 31 "Barrierbook$Standing" "paidLast" "I", Cond.fieldLink RX3 34 "Barrierbook$Standing" "paidInAll" "I", Cond.methodLink RX5 131 yX5_isUpAt, Cond.static yX5_isUpAt, Cond.initialized RX5, Cond.code yX5_isUpAt cX5_isUpAt 2 (some .boolean), Cond.methodLink RX5 193 yX2_weightOf]
def wsX5_worthOfRow_r2 : List Cond := [Cond.instanceMethod yX2_weightOf, Cond.selects RX2 yX2_weightOf yX2_weightOf, Cond.initialized RX2, Cond.code yX2_weightOf cX2_weightOf 2 (some .int), Cond.fieldLink RX2 25 "Barrierbook$Note" "chance" "I", Cond.methodLink RX5 122 yX3_move, Cond.instanceMethod yX3_move, Cond.selects RX3 yX3_move yX3_move, Cond.code yX3_move cX3_move 5 none, Cond.fieldLink RX3 37 "Barrierbook$Note" "asset0" "LBarrierbook$Asset;", Cond.fieldLink RX3 48 "Barrierbook$Note" "asset1" "LBarrierbook$Asset;", Cond.fieldLink RX3 65 "Barrierbook$Note" "isAgainst" "Z", Cond.fieldLink RX3 68 "Barrierbook$Note" "periods" "I", Cond.fieldLink RX3 75 "Barrierbook$Note" "barrier" "I", Cond.fieldLink RX3 78 "Barrierbook$Note" "isAtEnd" "Z", Cond.fieldLink RX3 85 "Barrierbook$Note" "callLevel" "I", Cond.methodLink RX3 61 yX0_priceBehind, Cond.instanceMethod yX0_priceBehind, Cond.selects RX0 yX0_priceBehind yX0_priceBehind, Cond.initialized RX0, Cond.code yX0_priceBehind cX0_priceBehind 3 (some .int), Cond.fieldLink RX0 15 "Barrierbook$Asset" "rise" "I", Cond.fieldLink RX0 18 "Barrierbook$Asset" "fall" "I", Cond.methodLink RX0 21 Lib.Math.max.name]
def wsX5_worthOfRow_r3 : List Cond := [Cond.static Lib.Math.max.name, Cond.initialized "java/lang/Math", Cond.code Lib.Math.max.name Lib.Math.max.code 2 (some .int), Cond.methodLink RX3 71 yX3_worstLevel, Cond.instanceMethod yX3_worstLevel, Cond.selects RX3 yX3_worstLevel yX3_worstLevel, Cond.code yX3_worstLevel cX3_worstLevel 2 (some .int), Cond.methodLink RX3 55 Lib.Math.min.name, Cond.static Lib.Math.min.name, Cond.code Lib.Math.min.name Lib.Math.min.code 2 (some .int), Cond.methodLink RX3 51 yX0_levelAt, Cond.instanceMethod yX0_levelAt, Cond.selects RX0 yX0_levelAt yX0_levelAt, Cond.code yX0_levelAt cX0_levelAt 2 (some .int), Cond.fieldLink RX0 9 "Barrierbook$Asset" "first" "I", Cond.methodLink RX3 81 yX3_takeCoupons, Cond.instanceMethod yX3_takeCoupons, Cond.selects RX3 yX3_takeCoupons yX3_takeCoupons, Cond.code yX3_takeCoupons cX3_takeCoupons 4 (some .int), Cond.fieldLink RX3 91 "Barrierbook$Note" "couponLevel" "I", Cond.fieldLink RX3 94 "Barrierbook$Note" "remembers" "Z", Cond.fieldLink RX3 97 "Barrierbook$Note" "coupon" "I", Cond.methodLink RX3 88 yX3_endPay, Cond.instanceMethod yX3_endPay]
def wsX5_worthOfRow_r4 : List Cond := [Cond.selects RX3 yX3_endPay yX3_endPay, Cond.code yX3_endPay cX3_endPay 4 (some .int)]
def wsX5_worthOfRow : List Cond := .code yX5_worthOfRow cX5_worthOfRow 7 (some .long) :: ((wsX5_worthOfRow_r1 ++ (wsX5_worthOfRow_r2 ++ (wsX5_worthOfRow_r3 ++ wsX5_worthOfRow_r4))) ++ wsX50 ++ wsX30 ++ wsX20 ++ wsX00)
def wsX5_worthByPaths_r1 : List Cond := [Cond.fieldLink RX5 19 "Barrierbook" "now" "LBarrierbook$Standing;", Cond.fieldLink RX5 111 "Barrierbook$Standing" "isOver" "Z", Cond.fieldLink RX5 12 "Barrierbook" "note" "LBarrierbook$Note;", Cond.fieldLink RX5 90 "Barrierbook$Note" "periods" "I", Cond.fieldLink RX5 119 "Barrierbook$Standing" "told" "I", Cond.methodLink RX5 162 yX5_worthOfRow, Cond.instanceMethod yX5_worthOfRow, Cond.selects RX5 yX5_worthOfRow yX5_worthOfRow, Cond.initialized RX5, Cond.code yX5_worthOfRow cX5_worthOfRow 7 (some .long), Cond.fieldLink RX5 23 "Barrierbook" "walker" "LBarrierbook$Standing;", Cond.constantLong RX5 191 (10), Cond.fieldLink RX5 151 "Barrierbook$Standing" "paidInAll" "I", Cond.methodLink RX5 187 yX3_copy, Cond.instanceMethod yX3_copy, Cond.selects RX3 yX3_copy yX3_copy, Cond.initialized RX3, Cond.code yX3_copy cX3_copy 2 none, Cond.fieldLink RX3 9 "Barrierbook$Standing" "told" "I", Cond.fieldLink RX3 15 "Barrierbook$Standing" "price0" "I", Cond.fieldLink RX3 18 "Barrierbook$Standing" "price1" "I", Cond.fieldLink RX3 21 "Barrierbook$Standing" "missed" "I", Cond.fieldLink RX3 24 "Barrierbook$Standing" "isKnocked" "Z", Cond.fieldLink RX3 28 "Barrierbook$Standing" "isOver" "Z"]
def wsX5_worthByPaths_r2 : List Cond := [Cond.fieldLink RX3 31 "Barrierbook$Standing" "paidLast" "I", Cond.fieldLink RX3 34 "Barrierbook$Standing" "paidInAll" "I", Cond.methodLink RX5 131 yX5_isUpAt, Cond.static yX5_isUpAt, Cond.code yX5_isUpAt cX5_isUpAt 2 (some .boolean), Cond.methodLink RX5 193 yX2_weightOf, Cond.instanceMethod yX2_weightOf, Cond.selects RX2 yX2_weightOf yX2_weightOf, Cond.initialized RX2, Cond.code yX2_weightOf cX2_weightOf 2 (some .int), Cond.fieldLink RX2 25 "Barrierbook$Note" "chance" "I", Cond.methodLink RX5 122 yX3_move, Cond.instanceMethod yX3_move, Cond.selects RX3 yX3_move yX3_move, Cond.code yX3_move cX3_move 5 none, Cond.fieldLink RX3 37 "Barrierbook$Note" "asset0" "LBarrierbook$Asset;", Cond.fieldLink RX3 48 "Barrierbook$Note" "asset1" "LBarrierbook$Asset;", Cond.fieldLink RX3 65 "Barrierbook$Note" "isAgainst" "Z", Cond.fieldLink RX3 68 "Barrierbook$Note" "periods" "I", Cond.fieldLink RX3 75 "Barrierbook$Note" "barrier" "I", Cond.fieldLink RX3 78 "Barrierbook$Note" "isAtEnd" "Z", Cond.fieldLink RX3 85 "Barrierbook$Note" "callLevel" "I", Cond.methodLink RX3 61 yX0_priceBehind, Cond.instanceMethod yX0_priceBehind]
def wsX5_worthByPaths_r3 : List Cond := [Cond.selects RX0 yX0_priceBehind yX0_priceBehind, Cond.initialized RX0, Cond.code yX0_priceBehind cX0_priceBehind 3 (some .int), Cond.fieldLink RX0 15 "Barrierbook$Asset" "rise" "I", Cond.fieldLink RX0 18 "Barrierbook$Asset" "fall" "I", Cond.methodLink RX0 21 Lib.Math.max.name, Cond.static Lib.Math.max.name, Cond.initialized "java/lang/Math", Cond.code Lib.Math.max.name Lib.Math.max.code 2 (some .int), Cond.methodLink RX3 71 yX3_worstLevel, Cond.instanceMethod yX3_worstLevel, Cond.selects RX3 yX3_worstLevel yX3_worstLevel, Cond.code yX3_worstLevel cX3_worstLevel 2 (some .int), Cond.methodLink RX3 55 Lib.Math.min.name, Cond.static Lib.Math.min.name, Cond.code Lib.Math.min.name Lib.Math.min.code 2 (some .int), Cond.methodLink RX3 51 yX0_levelAt, Cond.instanceMethod yX0_levelAt, Cond.selects RX0 yX0_levelAt yX0_levelAt, Cond.code yX0_levelAt cX0_levelAt 2 (some .int), Cond.fieldLink RX0 9 "Barrierbook$Asset" "first" "I", Cond.methodLink RX3 81 yX3_takeCoupons, Cond.instanceMethod yX3_takeCoupons, Cond.selects RX3 yX3_takeCoupons yX3_takeCoupons]
def wsX5_worthByPaths_r4 : List Cond := [Cond.code yX3_takeCoupons cX3_takeCoupons 4 (some .int), Cond.fieldLink RX3 91 "Barrierbook$Note" "couponLevel" "I", Cond.fieldLink RX3 94 "Barrierbook$Note" "remembers" "Z", Cond.fieldLink RX3 97 "Barrierbook$Note" "coupon" "I", Cond.methodLink RX3 88 yX3_endPay, Cond.instanceMethod yX3_endPay, Cond.selects RX3 yX3_endPay yX3_endPay, Cond.code yX3_endPay cX3_endPay 4 (some .int)]
def wsX5_worthByPaths : List Cond := .code yX5_worthByPaths cX5_worthByPaths 5 (some .long) :: ((wsX5_worthByPaths_r1 ++ (wsX5_worthByPaths_r2 ++ (wsX5_worthByPaths_r3 ++ wsX5_worthByPaths_r4))) ++ wsX50 ++ wsX30 ++ wsX20 ++ wsX00)
def wsX5_divisor : List Cond := .code yX5_divisor cX5_divisor 1 (some .long) :: ([.fieldLink RX5 19 "Barrierbook" "now" "LBarrierbook$Standing;", .fieldLink RX5 111 "Barrierbook$Standing" "isOver" "Z", .fieldLink RX5 12 "Barrierbook" "note" "LBarrierbook$Note;", .fieldLink RX5 90 "Barrierbook$Note" "periods" "I", .fieldLink RX5 119 "Barrierbook$Standing" "told" "I", .methodLink RX5 166 yX5_wholeWeightOf, .static yX5_wholeWeightOf, .initialized RX5, .code yX5_wholeWeightOf cX5_wholeWeightOf 4 (some .long), .constantLong RX5 191 (10)] ++ wsX50 ++ wsX30 ++ wsX20)
def wsX5_states_r1 : List Cond := [Cond.fieldLink RX5 29 "Barrierbook" "tree" "LBarrierbook$Tree;", Cond.fieldLink RX5 12 "Barrierbook" "note" "LBarrierbook$Note;", Cond.fieldLink RX5 19 "Barrierbook" "now" "LBarrierbook$Standing;", Cond.fieldLink RX5 170 "Barrierbook$Tree" "lastStates" "I", Cond.methodLink RX5 154 yX4_grow, Cond.instanceMethod yX4_grow, Cond.selects RX4 yX4_grow yX4_grow, Cond.initialized RX4, Cond.code yX4_grow cX4_grow 4 none, Cond.fieldLink RX4 52 "Barrierbook$Standing" "isOver" "Z", Cond.fieldLink RX4 56 "Barrierbook$Standing" "isKnocked" "Z", Cond.fieldLink RX4 36 "Barrierbook$Tree" "knockedSum" "J", Cond.fieldLink RX4 39 "Barrierbook$Tree" "lastStates" "I", Cond.fieldLink RX4 43 "Barrierbook$Tree" "leastPaid" "I", Cond.fieldLink RX4 25 "Barrierbook$Tree" "from" "LBarrierbook$Layer;", Cond.fieldLink RX4 59 "Barrierbook$Layer" "size" "I", Cond.fieldLink RX4 66 "Barrierbook$Standing" "told" "I", Cond.fieldLink RX4 69 "Barrierbook$Note" "periods" "I", Cond.methodLink RX4 49 yX4_clear, Cond.instanceMethod yX4_clear, Cond.selects RX4 yX4_clear yX4_clear, Cond.code yX4_clear cX4_clear 2 none, Cond.fieldLink RX4 18 "Barrierbook$Tree" "endSums" "[J", Cond.fieldLink RX4 32 "Barrierbook$Tree" "paidSum" "J"]
def wsX5_states_r2 : List Cond := [Cond.constant RX4 80 (2147483647), Cond.fieldLink RX4 46 "Barrierbook$Tree" "mostPaid" "I", Cond.methodLink RX4 62 yX1_add, Cond.instanceMethod yX1_add, Cond.selects RX1 yX1_add yX1_add, Cond.initialized RX1, Cond.code yX1_add cX1_add 7 none, Cond.fieldLink RX1 25 "Barrierbook$Layer" "weights" "[J", Cond.fieldLink RX1 29 "Barrierbook$Layer" "leasts" "[I", Cond.methodLink RX1 43 Lib.Math.min.name, Cond.static Lib.Math.min.name, Cond.initialized "java/lang/Math", Cond.code Lib.Math.min.name Lib.Math.min.code 2 (some .int), Cond.fieldLink RX1 32 "Barrierbook$Layer" "mosts" "[I", Cond.methodLink RX1 49 Lib.Math.max.name, Cond.static Lib.Math.max.name, Cond.code Lib.Math.max.name Lib.Math.max.code 2 (some .int), Cond.fieldLink RX1 35 "Barrierbook$Layer" "size" "I", Cond.fieldLink RX1 9 "Barrierbook$Layer" "prices0" "[I", Cond.fieldLink RX1 52 "Barrierbook$Standing" "price0" "I", Cond.fieldLink RX1 15 "Barrierbook$Layer" "prices1" "[I", Cond.fieldLink RX1 57 "Barrierbook$Standing" "price1" "I", Cond.fieldLink RX1 18 "Barrierbook$Layer" "misses" "[I", Cond.fieldLink RX1 60 "Barrierbook$Standing" "missed" "I"]
def wsX5_states_r3 : List Cond := [Cond.fieldLink RX1 21 "Barrierbook$Layer" "knocked" "[Z", Cond.fieldLink RX1 63 "Barrierbook$Standing" "isKnocked" "Z", Cond.methodLink RX1 39 yX1_find, Cond.instanceMethod yX1_find, Cond.selects RX1 yX1_find yX1_find, Cond.code yX1_find cX1_find 3 (some .int), Cond.methodLink RX4 74 yX4_growPeriod, Cond.instanceMethod yX4_growPeriod, Cond.selects RX4 yX4_growPeriod yX4_growPeriod, Cond.code yX4_growPeriod cX4_growPeriod 4 none, Cond.fieldLink RX4 29 "Barrierbook$Tree" "to" "LBarrierbook$Layer;", Cond.methodLink RX4 81 yX4_growBranch, Cond.instanceMethod yX4_growBranch, Cond.selects RX4 yX4_growBranch yX4_growBranch, Cond.code yX4_growBranch cX4_growBranch 11 none, Cond.fieldLink RX4 12 "Barrierbook$Tree" "branch" "LBarrierbook$Standing;", Cond.fieldLink RX4 97 "Barrierbook$Layer" "weights" "[J", Cond.fieldLink RX4 108 "Barrierbook$Layer" "leasts" "[I", Cond.fieldLink RX4 112 "Barrierbook$Standing" "paidLast" "I", Cond.fieldLink RX4 115 "Barrierbook$Layer" "mosts" "[I", Cond.methodLink RX4 85 yX1_holds, Cond.instanceMethod yX1_holds, Cond.selects RX1 yX1_holds yX1_holds, Cond.code yX1_holds cX1_holds 2 (some .boolean)]
def wsX5_states_r4 : List Cond := [Cond.methodLink RX4 89 yX1_show, Cond.instanceMethod yX1_show, Cond.selects RX1 yX1_show yX1_show, Cond.code yX1_show cX1_show 4 none, Cond.fieldLink RX1 71 "Barrierbook$Standing" "told" "I", Cond.fieldLink RX1 74 "Barrierbook$Standing" "isOver" "Z", Cond.fieldLink RX1 77 "Barrierbook$Standing" "paidLast" "I", Cond.fieldLink RX1 80 "Barrierbook$Standing" "paidInAll" "I", Cond.methodLink RX1 67 yX1_holds, Cond.methodLink RX4 93 yX3_move, Cond.instanceMethod yX3_move, Cond.selects RX3 yX3_move yX3_move, Cond.initialized RX3, Cond.code yX3_move cX3_move 5 none, Cond.fieldLink RX3 9 "Barrierbook$Standing" "told" "I", Cond.fieldLink RX3 37 "Barrierbook$Note" "asset0" "LBarrierbook$Asset;", Cond.fieldLink RX3 15 "Barrierbook$Standing" "price0" "I", Cond.fieldLink RX3 48 "Barrierbook$Note" "asset1" "LBarrierbook$Asset;", Cond.fieldLink RX3 18 "Barrierbook$Standing" "price1" "I", Cond.fieldLink RX3 65 "Barrierbook$Note" "isAgainst" "Z", Cond.fieldLink RX3 68 "Barrierbook$Note" "periods" "I", Cond.fieldLink RX3 75 "Barrierbook$Note" "barrier" "I", Cond.fieldLink RX3 78 "Barrierbook$Note" "isAtEnd" "Z", Cond.fieldLink RX3 24 "Barrierbook$Standing" "isKnocked" "Z"]
def wsX5_states_r5 : List Cond := [Cond.fieldLink RX3 31 "Barrierbook$Standing" "paidLast" "I", Cond.fieldLink RX3 85 "Barrierbook$Note" "callLevel" "I", Cond.fieldLink RX3 28 "Barrierbook$Standing" "isOver" "Z", Cond.fieldLink RX3 34 "Barrierbook$Standing" "paidInAll" "I", Cond.methodLink RX3 61 yX0_priceBehind, Cond.instanceMethod yX0_priceBehind, Cond.selects RX0 yX0_priceBehind yX0_priceBehind, Cond.initialized RX0, Cond.code yX0_priceBehind cX0_priceBehind 3 (some .int), Cond.fieldLink RX0 15 "Barrierbook$Asset" "rise" "I", Cond.fieldLink RX0 18 "Barrierbook$Asset" "fall" "I", Cond.methodLink RX0 21 Lib.Math.max.name, Cond.methodLink RX3 71 yX3_worstLevel, Cond.instanceMethod yX3_worstLevel, Cond.selects RX3 yX3_worstLevel yX3_worstLevel, Cond.code yX3_worstLevel cX3_worstLevel 2 (some .int), Cond.methodLink RX3 55 Lib.Math.min.name, Cond.methodLink RX3 51 yX0_levelAt, Cond.instanceMethod yX0_levelAt, Cond.selects RX0 yX0_levelAt yX0_levelAt, Cond.code yX0_levelAt cX0_levelAt 2 (some .int), Cond.fieldLink RX0 9 "Barrierbook$Asset" "first" "I", Cond.methodLink RX3 81 yX3_takeCoupons, Cond.instanceMethod yX3_takeCoupons]
def wsX5_states_r6 : List Cond := [Cond.selects RX3 yX3_takeCoupons yX3_takeCoupons, Cond.code yX3_takeCoupons cX3_takeCoupons 4 (some .int), Cond.fieldLink RX3 91 "Barrierbook$Note" "couponLevel" "I", Cond.fieldLink RX3 21 "Barrierbook$Standing" "missed" "I", Cond.fieldLink RX3 94 "Barrierbook$Note" "remembers" "Z", Cond.fieldLink RX3 97 "Barrierbook$Note" "coupon" "I", Cond.methodLink RX3 88 yX3_endPay, Cond.instanceMethod yX3_endPay, Cond.selects RX3 yX3_endPay yX3_endPay, Cond.code yX3_endPay cX3_endPay 4 (some .int), Cond.methodLink RX4 100 yX2_weightOf, Cond.instanceMethod yX2_weightOf, Cond.selects RX2 yX2_weightOf yX2_weightOf, Cond.initialized RX2, Cond.code yX2_weightOf cX2_weightOf 2 (some .int), Cond.fieldLink RX2 25 "Barrierbook$Note" "chance" "I", Cond.static yX5_wholeWeightOf, Cond.initialized RX5, Cond.code yX5_wholeWeightOf cX5_wholeWeightOf 4 (some .long), Cond.constantLong RX5 191 (10), Cond.methodLink RX4 118 yX4_end, Cond.instanceMethod yX4_end, Cond.selects RX4 yX4_end yX4_end, Cond.code yX4_end cX4_end 6 none]
def wsX5_states_r7 : List Cond := [Cond.methodLink RX4 122 Lib.Math.min.name, Cond.methodLink RX4 128 Lib.Math.max.name]
def wsX5_states : List Cond := .code yX5_states cX5_states 1 (some .int) :: ((wsX5_states_r1 ++ (wsX5_states_r2 ++ (wsX5_states_r3 ++ (wsX5_states_r4 ++ (wsX5_states_r5 ++ (wsX5_states_r6 ++ wsX5_states_r7)))))) ++ wsX50 ++ wsX40 ++ wsX30 ++ wsX10 ++ wsX20 ++ wsX00)
def wsX5_least_r1 : List Cond := [Cond.fieldLink RX5 29 "Barrierbook" "tree" "LBarrierbook$Tree;", Cond.fieldLink RX5 12 "Barrierbook" "note" "LBarrierbook$Note;", Cond.fieldLink RX5 19 "Barrierbook" "now" "LBarrierbook$Standing;", Cond.fieldLink RX5 173 "Barrierbook$Tree" "leastPaid" "I", Cond.methodLink RX5 154 yX4_grow, Cond.instanceMethod yX4_grow, Cond.selects RX4 yX4_grow yX4_grow, Cond.initialized RX4, Cond.code yX4_grow cX4_grow 4 none, Cond.fieldLink RX4 52 "Barrierbook$Standing" "isOver" "Z", Cond.fieldLink RX4 56 "Barrierbook$Standing" "isKnocked" "Z", Cond.fieldLink RX4 36 "Barrierbook$Tree" "knockedSum" "J", Cond.fieldLink RX4 39 "Barrierbook$Tree" "lastStates" "I", Cond.fieldLink RX4 43 "Barrierbook$Tree" "leastPaid" "I", Cond.fieldLink RX4 25 "Barrierbook$Tree" "from" "LBarrierbook$Layer;", Cond.fieldLink RX4 59 "Barrierbook$Layer" "size" "I", Cond.fieldLink RX4 66 "Barrierbook$Standing" "told" "I", Cond.fieldLink RX4 69 "Barrierbook$Note" "periods" "I", Cond.methodLink RX4 49 yX4_clear, Cond.instanceMethod yX4_clear, Cond.selects RX4 yX4_clear yX4_clear, Cond.code yX4_clear cX4_clear 2 none, Cond.fieldLink RX4 18 "Barrierbook$Tree" "endSums" "[J", Cond.fieldLink RX4 32 "Barrierbook$Tree" "paidSum" "J"]
def wsX5_least_r2 : List Cond := [Cond.constant RX4 80 (2147483647), Cond.fieldLink RX4 46 "Barrierbook$Tree" "mostPaid" "I", Cond.methodLink RX4 62 yX1_add, Cond.instanceMethod yX1_add, Cond.selects RX1 yX1_add yX1_add, Cond.initialized RX1, Cond.code yX1_add cX1_add 7 none, Cond.fieldLink RX1 25 "Barrierbook$Layer" "weights" "[J", Cond.fieldLink RX1 29 "Barrierbook$Layer" "leasts" "[I", Cond.methodLink RX1 43 Lib.Math.min.name, Cond.static Lib.Math.min.name, Cond.initialized "java/lang/Math", Cond.code Lib.Math.min.name Lib.Math.min.code 2 (some .int), Cond.fieldLink RX1 32 "Barrierbook$Layer" "mosts" "[I", Cond.methodLink RX1 49 Lib.Math.max.name, Cond.static Lib.Math.max.name, Cond.code Lib.Math.max.name Lib.Math.max.code 2 (some .int), Cond.fieldLink RX1 35 "Barrierbook$Layer" "size" "I", Cond.fieldLink RX1 9 "Barrierbook$Layer" "prices0" "[I", Cond.fieldLink RX1 52 "Barrierbook$Standing" "price0" "I", Cond.fieldLink RX1 15 "Barrierbook$Layer" "prices1" "[I", Cond.fieldLink RX1 57 "Barrierbook$Standing" "price1" "I", Cond.fieldLink RX1 18 "Barrierbook$Layer" "misses" "[I", Cond.fieldLink RX1 60 "Barrierbook$Standing" "missed" "I"]
def wsX5_least_r3 : List Cond := [Cond.fieldLink RX1 21 "Barrierbook$Layer" "knocked" "[Z", Cond.fieldLink RX1 63 "Barrierbook$Standing" "isKnocked" "Z", Cond.methodLink RX1 39 yX1_find, Cond.instanceMethod yX1_find, Cond.selects RX1 yX1_find yX1_find, Cond.code yX1_find cX1_find 3 (some .int), Cond.methodLink RX4 74 yX4_growPeriod, Cond.instanceMethod yX4_growPeriod, Cond.selects RX4 yX4_growPeriod yX4_growPeriod, Cond.code yX4_growPeriod cX4_growPeriod 4 none, Cond.fieldLink RX4 29 "Barrierbook$Tree" "to" "LBarrierbook$Layer;", Cond.methodLink RX4 81 yX4_growBranch, Cond.instanceMethod yX4_growBranch, Cond.selects RX4 yX4_growBranch yX4_growBranch, Cond.code yX4_growBranch cX4_growBranch 11 none, Cond.fieldLink RX4 12 "Barrierbook$Tree" "branch" "LBarrierbook$Standing;", Cond.fieldLink RX4 97 "Barrierbook$Layer" "weights" "[J", Cond.fieldLink RX4 108 "Barrierbook$Layer" "leasts" "[I", Cond.fieldLink RX4 112 "Barrierbook$Standing" "paidLast" "I", Cond.fieldLink RX4 115 "Barrierbook$Layer" "mosts" "[I", Cond.methodLink RX4 85 yX1_holds, Cond.instanceMethod yX1_holds, Cond.selects RX1 yX1_holds yX1_holds, Cond.code yX1_holds cX1_holds 2 (some .boolean)]
def wsX5_least_r4 : List Cond := [Cond.methodLink RX4 89 yX1_show, Cond.instanceMethod yX1_show, Cond.selects RX1 yX1_show yX1_show, Cond.code yX1_show cX1_show 4 none, Cond.fieldLink RX1 71 "Barrierbook$Standing" "told" "I", Cond.fieldLink RX1 74 "Barrierbook$Standing" "isOver" "Z", Cond.fieldLink RX1 77 "Barrierbook$Standing" "paidLast" "I", Cond.fieldLink RX1 80 "Barrierbook$Standing" "paidInAll" "I", Cond.methodLink RX1 67 yX1_holds, Cond.methodLink RX4 93 yX3_move, Cond.instanceMethod yX3_move, Cond.selects RX3 yX3_move yX3_move, Cond.initialized RX3, Cond.code yX3_move cX3_move 5 none, Cond.fieldLink RX3 9 "Barrierbook$Standing" "told" "I", Cond.fieldLink RX3 37 "Barrierbook$Note" "asset0" "LBarrierbook$Asset;", Cond.fieldLink RX3 15 "Barrierbook$Standing" "price0" "I", Cond.fieldLink RX3 48 "Barrierbook$Note" "asset1" "LBarrierbook$Asset;", Cond.fieldLink RX3 18 "Barrierbook$Standing" "price1" "I", Cond.fieldLink RX3 65 "Barrierbook$Note" "isAgainst" "Z", Cond.fieldLink RX3 68 "Barrierbook$Note" "periods" "I", Cond.fieldLink RX3 75 "Barrierbook$Note" "barrier" "I", Cond.fieldLink RX3 78 "Barrierbook$Note" "isAtEnd" "Z", Cond.fieldLink RX3 24 "Barrierbook$Standing" "isKnocked" "Z"]
def wsX5_least_r5 : List Cond := [Cond.fieldLink RX3 31 "Barrierbook$Standing" "paidLast" "I", Cond.fieldLink RX3 85 "Barrierbook$Note" "callLevel" "I", Cond.fieldLink RX3 28 "Barrierbook$Standing" "isOver" "Z", Cond.fieldLink RX3 34 "Barrierbook$Standing" "paidInAll" "I", Cond.methodLink RX3 61 yX0_priceBehind, Cond.instanceMethod yX0_priceBehind, Cond.selects RX0 yX0_priceBehind yX0_priceBehind, Cond.initialized RX0, Cond.code yX0_priceBehind cX0_priceBehind 3 (some .int), Cond.fieldLink RX0 15 "Barrierbook$Asset" "rise" "I", Cond.fieldLink RX0 18 "Barrierbook$Asset" "fall" "I", Cond.methodLink RX0 21 Lib.Math.max.name, Cond.methodLink RX3 71 yX3_worstLevel, Cond.instanceMethod yX3_worstLevel, Cond.selects RX3 yX3_worstLevel yX3_worstLevel, Cond.code yX3_worstLevel cX3_worstLevel 2 (some .int), Cond.methodLink RX3 55 Lib.Math.min.name, Cond.methodLink RX3 51 yX0_levelAt, Cond.instanceMethod yX0_levelAt, Cond.selects RX0 yX0_levelAt yX0_levelAt, Cond.code yX0_levelAt cX0_levelAt 2 (some .int), Cond.fieldLink RX0 9 "Barrierbook$Asset" "first" "I", Cond.methodLink RX3 81 yX3_takeCoupons, Cond.instanceMethod yX3_takeCoupons]
def wsX5_least_r6 : List Cond := [Cond.selects RX3 yX3_takeCoupons yX3_takeCoupons, Cond.code yX3_takeCoupons cX3_takeCoupons 4 (some .int), Cond.fieldLink RX3 91 "Barrierbook$Note" "couponLevel" "I", Cond.fieldLink RX3 21 "Barrierbook$Standing" "missed" "I", Cond.fieldLink RX3 94 "Barrierbook$Note" "remembers" "Z", Cond.fieldLink RX3 97 "Barrierbook$Note" "coupon" "I", Cond.methodLink RX3 88 yX3_endPay, Cond.instanceMethod yX3_endPay, Cond.selects RX3 yX3_endPay yX3_endPay, Cond.code yX3_endPay cX3_endPay 4 (some .int), Cond.methodLink RX4 100 yX2_weightOf, Cond.instanceMethod yX2_weightOf, Cond.selects RX2 yX2_weightOf yX2_weightOf, Cond.initialized RX2, Cond.code yX2_weightOf cX2_weightOf 2 (some .int), Cond.fieldLink RX2 25 "Barrierbook$Note" "chance" "I", Cond.static yX5_wholeWeightOf, Cond.initialized RX5, Cond.code yX5_wholeWeightOf cX5_wholeWeightOf 4 (some .long), Cond.constantLong RX5 191 (10), Cond.methodLink RX4 118 yX4_end, Cond.instanceMethod yX4_end, Cond.selects RX4 yX4_end yX4_end, Cond.code yX4_end cX4_end 6 none]
def wsX5_least_r7 : List Cond := [Cond.methodLink RX4 122 Lib.Math.min.name, Cond.methodLink RX4 128 Lib.Math.max.name]
def wsX5_least : List Cond := .code yX5_least cX5_least 1 (some .int) :: ((wsX5_least_r1 ++ (wsX5_least_r2 ++ (wsX5_least_r3 ++ (wsX5_least_r4 ++ (wsX5_least_r5 ++ (wsX5_least_r6 ++ wsX5_least_r7)))))) ++ wsX50 ++ wsX40 ++ wsX30 ++ wsX10 ++ wsX20 ++ wsX00)
def wsX5_most_r1 : List Cond := [Cond.fieldLink RX5 29 "Barrierbook" "tree" "LBarrierbook$Tree;", Cond.fieldLink RX5 12 "Barrierbook" "note" "LBarrierbook$Note;", Cond.fieldLink RX5 19 "Barrierbook" "now" "LBarrierbook$Standing;", Cond.fieldLink RX5 176 "Barrierbook$Tree" "mostPaid" "I", Cond.methodLink RX5 154 yX4_grow, Cond.instanceMethod yX4_grow, Cond.selects RX4 yX4_grow yX4_grow, Cond.initialized RX4, Cond.code yX4_grow cX4_grow 4 none, Cond.fieldLink RX4 52 "Barrierbook$Standing" "isOver" "Z", Cond.fieldLink RX4 56 "Barrierbook$Standing" "isKnocked" "Z", Cond.fieldLink RX4 36 "Barrierbook$Tree" "knockedSum" "J", Cond.fieldLink RX4 39 "Barrierbook$Tree" "lastStates" "I", Cond.fieldLink RX4 43 "Barrierbook$Tree" "leastPaid" "I", Cond.fieldLink RX4 25 "Barrierbook$Tree" "from" "LBarrierbook$Layer;", Cond.fieldLink RX4 59 "Barrierbook$Layer" "size" "I", Cond.fieldLink RX4 66 "Barrierbook$Standing" "told" "I", Cond.fieldLink RX4 69 "Barrierbook$Note" "periods" "I", Cond.methodLink RX4 49 yX4_clear, Cond.instanceMethod yX4_clear, Cond.selects RX4 yX4_clear yX4_clear, Cond.code yX4_clear cX4_clear 2 none, Cond.fieldLink RX4 18 "Barrierbook$Tree" "endSums" "[J", Cond.fieldLink RX4 32 "Barrierbook$Tree" "paidSum" "J"]
def wsX5_most_r2 : List Cond := [Cond.constant RX4 80 (2147483647), Cond.fieldLink RX4 46 "Barrierbook$Tree" "mostPaid" "I", Cond.methodLink RX4 62 yX1_add, Cond.instanceMethod yX1_add, Cond.selects RX1 yX1_add yX1_add, Cond.initialized RX1, Cond.code yX1_add cX1_add 7 none, Cond.fieldLink RX1 25 "Barrierbook$Layer" "weights" "[J", Cond.fieldLink RX1 29 "Barrierbook$Layer" "leasts" "[I", Cond.methodLink RX1 43 Lib.Math.min.name, Cond.static Lib.Math.min.name, Cond.initialized "java/lang/Math", Cond.code Lib.Math.min.name Lib.Math.min.code 2 (some .int), Cond.fieldLink RX1 32 "Barrierbook$Layer" "mosts" "[I", Cond.methodLink RX1 49 Lib.Math.max.name, Cond.static Lib.Math.max.name, Cond.code Lib.Math.max.name Lib.Math.max.code 2 (some .int), Cond.fieldLink RX1 35 "Barrierbook$Layer" "size" "I", Cond.fieldLink RX1 9 "Barrierbook$Layer" "prices0" "[I", Cond.fieldLink RX1 52 "Barrierbook$Standing" "price0" "I", Cond.fieldLink RX1 15 "Barrierbook$Layer" "prices1" "[I", Cond.fieldLink RX1 57 "Barrierbook$Standing" "price1" "I", Cond.fieldLink RX1 18 "Barrierbook$Layer" "misses" "[I", Cond.fieldLink RX1 60 "Barrierbook$Standing" "missed" "I"]
def wsX5_most_r3 : List Cond := [Cond.fieldLink RX1 21 "Barrierbook$Layer" "knocked" "[Z", Cond.fieldLink RX1 63 "Barrierbook$Standing" "isKnocked" "Z", Cond.methodLink RX1 39 yX1_find, Cond.instanceMethod yX1_find, Cond.selects RX1 yX1_find yX1_find, Cond.code yX1_find cX1_find 3 (some .int), Cond.methodLink RX4 74 yX4_growPeriod, Cond.instanceMethod yX4_growPeriod, Cond.selects RX4 yX4_growPeriod yX4_growPeriod, Cond.code yX4_growPeriod cX4_growPeriod 4 none, Cond.fieldLink RX4 29 "Barrierbook$Tree" "to" "LBarrierbook$Layer;", Cond.methodLink RX4 81 yX4_growBranch, Cond.instanceMethod yX4_growBranch, Cond.selects RX4 yX4_growBranch yX4_growBranch, Cond.code yX4_growBranch cX4_growBranch 11 none, Cond.fieldLink RX4 12 "Barrierbook$Tree" "branch" "LBarrierbook$Standing;", Cond.fieldLink RX4 97 "Barrierbook$Layer" "weights" "[J", Cond.fieldLink RX4 108 "Barrierbook$Layer" "leasts" "[I", Cond.fieldLink RX4 112 "Barrierbook$Standing" "paidLast" "I", Cond.fieldLink RX4 115 "Barrierbook$Layer" "mosts" "[I", Cond.methodLink RX4 85 yX1_holds, Cond.instanceMethod yX1_holds, Cond.selects RX1 yX1_holds yX1_holds, Cond.code yX1_holds cX1_holds 2 (some .boolean)]
def wsX5_most_r4 : List Cond := [Cond.methodLink RX4 89 yX1_show, Cond.instanceMethod yX1_show, Cond.selects RX1 yX1_show yX1_show, Cond.code yX1_show cX1_show 4 none, Cond.fieldLink RX1 71 "Barrierbook$Standing" "told" "I", Cond.fieldLink RX1 74 "Barrierbook$Standing" "isOver" "Z", Cond.fieldLink RX1 77 "Barrierbook$Standing" "paidLast" "I", Cond.fieldLink RX1 80 "Barrierbook$Standing" "paidInAll" "I", Cond.methodLink RX1 67 yX1_holds, Cond.methodLink RX4 93 yX3_move, Cond.instanceMethod yX3_move, Cond.selects RX3 yX3_move yX3_move, Cond.initialized RX3, Cond.code yX3_move cX3_move 5 none, Cond.fieldLink RX3 9 "Barrierbook$Standing" "told" "I", Cond.fieldLink RX3 37 "Barrierbook$Note" "asset0" "LBarrierbook$Asset;", Cond.fieldLink RX3 15 "Barrierbook$Standing" "price0" "I", Cond.fieldLink RX3 48 "Barrierbook$Note" "asset1" "LBarrierbook$Asset;", Cond.fieldLink RX3 18 "Barrierbook$Standing" "price1" "I", Cond.fieldLink RX3 65 "Barrierbook$Note" "isAgainst" "Z", Cond.fieldLink RX3 68 "Barrierbook$Note" "periods" "I", Cond.fieldLink RX3 75 "Barrierbook$Note" "barrier" "I", Cond.fieldLink RX3 78 "Barrierbook$Note" "isAtEnd" "Z", Cond.fieldLink RX3 24 "Barrierbook$Standing" "isKnocked" "Z"]
def wsX5_most_r5 : List Cond := [Cond.fieldLink RX3 31 "Barrierbook$Standing" "paidLast" "I", Cond.fieldLink RX3 85 "Barrierbook$Note" "callLevel" "I", Cond.fieldLink RX3 28 "Barrierbook$Standing" "isOver" "Z", Cond.fieldLink RX3 34 "Barrierbook$Standing" "paidInAll" "I", Cond.methodLink RX3 61 yX0_priceBehind, Cond.instanceMethod yX0_priceBehind, Cond.selects RX0 yX0_priceBehind yX0_priceBehind, Cond.initialized RX0, Cond.code yX0_priceBehind cX0_priceBehind 3 (some .int), Cond.fieldLink RX0 15 "Barrierbook$Asset" "rise" "I", Cond.fieldLink RX0 18 "Barrierbook$Asset" "fall" "I", Cond.methodLink RX0 21 Lib.Math.max.name, Cond.methodLink RX3 71 yX3_worstLevel, Cond.instanceMethod yX3_worstLevel, Cond.selects RX3 yX3_worstLevel yX3_worstLevel, Cond.code yX3_worstLevel cX3_worstLevel 2 (some .int), Cond.methodLink RX3 55 Lib.Math.min.name, Cond.methodLink RX3 51 yX0_levelAt, Cond.instanceMethod yX0_levelAt, Cond.selects RX0 yX0_levelAt yX0_levelAt, Cond.code yX0_levelAt cX0_levelAt 2 (some .int), Cond.fieldLink RX0 9 "Barrierbook$Asset" "first" "I", Cond.methodLink RX3 81 yX3_takeCoupons, Cond.instanceMethod yX3_takeCoupons]
def wsX5_most_r6 : List Cond := [Cond.selects RX3 yX3_takeCoupons yX3_takeCoupons, Cond.code yX3_takeCoupons cX3_takeCoupons 4 (some .int), Cond.fieldLink RX3 91 "Barrierbook$Note" "couponLevel" "I", Cond.fieldLink RX3 21 "Barrierbook$Standing" "missed" "I", Cond.fieldLink RX3 94 "Barrierbook$Note" "remembers" "Z", Cond.fieldLink RX3 97 "Barrierbook$Note" "coupon" "I", Cond.methodLink RX3 88 yX3_endPay, Cond.instanceMethod yX3_endPay, Cond.selects RX3 yX3_endPay yX3_endPay, Cond.code yX3_endPay cX3_endPay 4 (some .int), Cond.methodLink RX4 100 yX2_weightOf, Cond.instanceMethod yX2_weightOf, Cond.selects RX2 yX2_weightOf yX2_weightOf, Cond.initialized RX2, Cond.code yX2_weightOf cX2_weightOf 2 (some .int), Cond.fieldLink RX2 25 "Barrierbook$Note" "chance" "I", Cond.static yX5_wholeWeightOf, Cond.initialized RX5, Cond.code yX5_wholeWeightOf cX5_wholeWeightOf 4 (some .long), Cond.constantLong RX5 191 (10), Cond.methodLink RX4 118 yX4_end, Cond.instanceMethod yX4_end, Cond.selects RX4 yX4_end yX4_end, Cond.code yX4_end cX4_end 6 none]
def wsX5_most_r7 : List Cond := [Cond.methodLink RX4 122 Lib.Math.min.name, Cond.methodLink RX4 128 Lib.Math.max.name]
def wsX5_most : List Cond := .code yX5_most cX5_most 1 (some .int) :: ((wsX5_most_r1 ++ (wsX5_most_r2 ++ (wsX5_most_r3 ++ (wsX5_most_r4 ++ (wsX5_most_r5 ++ (wsX5_most_r6 ++ wsX5_most_r7)))))) ++ wsX50 ++ wsX40 ++ wsX30 ++ wsX10 ++ wsX20 ++ wsX00)
def wsX5_endsIn_r1 : List Cond := [Cond.classLink RX5 52 "java/lang/IllegalArgumentException", Cond.initialized "java/lang/IllegalArgumentException", Cond.fieldLink RX5 12 "Barrierbook" "note" "LBarrierbook$Note;", Cond.fieldLink RX5 90 "Barrierbook$Note" "periods" "I", Cond.fieldLink RX5 29 "Barrierbook" "tree" "LBarrierbook$Tree;", Cond.fieldLink RX5 19 "Barrierbook" "now" "LBarrierbook$Standing;", Cond.methodLink RX5 48 yX5_isWithin, Cond.static yX5_isWithin, Cond.initialized RX5, Cond.code yX5_isWithin cX5_isWithin 3 (some .boolean), Cond.methodLink RX5 154 yX4_grow, Cond.instanceMethod yX4_grow, Cond.selects RX4 yX4_grow yX4_grow, Cond.initialized RX4, Cond.code yX4_grow cX4_grow 4 none, Cond.fieldLink RX4 52 "Barrierbook$Standing" "isOver" "Z", Cond.fieldLink RX4 56 "Barrierbook$Standing" "isKnocked" "Z", Cond.fieldLink RX4 36 "Barrierbook$Tree" "knockedSum" "J", Cond.fieldLink RX4 39 "Barrierbook$Tree" "lastStates" "I", Cond.fieldLink RX4 43 "Barrierbook$Tree" "leastPaid" "I", Cond.fieldLink RX4 25 "Barrierbook$Tree" "from" "LBarrierbook$Layer;", Cond.fieldLink RX4 59 "Barrierbook$Layer" "size" "I", Cond.fieldLink RX4 66 "Barrierbook$Standing" "told" "I", Cond.fieldLink RX4 69 "Barrierbook$Note" "periods" "I"]
def wsX5_endsIn_r2 : List Cond := [Cond.methodLink RX4 49 yX4_clear, Cond.instanceMethod yX4_clear, Cond.selects RX4 yX4_clear yX4_clear, Cond.code yX4_clear cX4_clear 2 none, Cond.fieldLink RX4 18 "Barrierbook$Tree" "endSums" "[J", Cond.fieldLink RX4 32 "Barrierbook$Tree" "paidSum" "J", Cond.constant RX4 80 (2147483647), Cond.fieldLink RX4 46 "Barrierbook$Tree" "mostPaid" "I", Cond.methodLink RX4 62 yX1_add, Cond.instanceMethod yX1_add, Cond.selects RX1 yX1_add yX1_add, Cond.initialized RX1, Cond.code yX1_add cX1_add 7 none, Cond.fieldLink RX1 25 "Barrierbook$Layer" "weights" "[J", Cond.fieldLink RX1 29 "Barrierbook$Layer" "leasts" "[I", Cond.methodLink RX1 43 Lib.Math.min.name, Cond.static Lib.Math.min.name, Cond.initialized "java/lang/Math", Cond.code Lib.Math.min.name Lib.Math.min.code 2 (some .int), Cond.fieldLink RX1 32 "Barrierbook$Layer" "mosts" "[I", Cond.methodLink RX1 49 Lib.Math.max.name, Cond.static Lib.Math.max.name, Cond.code Lib.Math.max.name Lib.Math.max.code 2 (some .int), Cond.fieldLink RX1 35 "Barrierbook$Layer" "size" "I"]
def wsX5_endsIn_r3 : List Cond := [Cond.fieldLink RX1 9 "Barrierbook$Layer" "prices0" "[I", Cond.fieldLink RX1 52 "Barrierbook$Standing" "price0" "I", Cond.fieldLink RX1 15 "Barrierbook$Layer" "prices1" "[I", Cond.fieldLink RX1 57 "Barrierbook$Standing" "price1" "I", Cond.fieldLink RX1 18 "Barrierbook$Layer" "misses" "[I", Cond.fieldLink RX1 60 "Barrierbook$Standing" "missed" "I", Cond.fieldLink RX1 21 "Barrierbook$Layer" "knocked" "[Z", Cond.fieldLink RX1 63 "Barrierbook$Standing" "isKnocked" "Z", Cond.methodLink RX1 39 yX1_find, Cond.instanceMethod yX1_find, Cond.selects RX1 yX1_find yX1_find, Cond.code yX1_find cX1_find 3 (some .int), Cond.methodLink RX4 74 yX4_growPeriod, Cond.instanceMethod yX4_growPeriod, Cond.selects RX4 yX4_growPeriod yX4_growPeriod, Cond.code yX4_growPeriod cX4_growPeriod 4 none, Cond.fieldLink RX4 29 "Barrierbook$Tree" "to" "LBarrierbook$Layer;", Cond.methodLink RX4 81 yX4_growBranch, Cond.instanceMethod yX4_growBranch, Cond.selects RX4 yX4_growBranch yX4_growBranch, Cond.code yX4_growBranch cX4_growBranch 11 none, Cond.fieldLink RX4 12 "Barrierbook$Tree" "branch" "LBarrierbook$Standing;", Cond.fieldLink RX4 97 "Barrierbook$Layer" "weights" "[J", Cond.fieldLink RX4 108 "Barrierbook$Layer" "leasts" "[I"]
def wsX5_endsIn_r4 : List Cond := [Cond.fieldLink RX4 112 "Barrierbook$Standing" "paidLast" "I", Cond.fieldLink RX4 115 "Barrierbook$Layer" "mosts" "[I", Cond.methodLink RX4 85 yX1_holds, Cond.instanceMethod yX1_holds, Cond.selects RX1 yX1_holds yX1_holds, Cond.code yX1_holds cX1_holds 2 (some .boolean), Cond.methodLink RX4 89 yX1_show, Cond.instanceMethod yX1_show, Cond.selects RX1 yX1_show yX1_show, Cond.code yX1_show cX1_show 4 none, Cond.fieldLink RX1 71 "Barrierbook$Standing" "told" "I", Cond.fieldLink RX1 74 "Barrierbook$Standing" "isOver" "Z", Cond.fieldLink RX1 77 "Barrierbook$Standing" "paidLast" "I", Cond.fieldLink RX1 80 "Barrierbook$Standing" "paidInAll" "I", Cond.methodLink RX1 67 yX1_holds, Cond.methodLink RX4 93 yX3_move, Cond.instanceMethod yX3_move, Cond.selects RX3 yX3_move yX3_move, Cond.initialized RX3, Cond.code yX3_move cX3_move 5 none, Cond.fieldLink RX3 9 "Barrierbook$Standing" "told" "I", Cond.fieldLink RX3 37 "Barrierbook$Note" "asset0" "LBarrierbook$Asset;", Cond.fieldLink RX3 15 "Barrierbook$Standing" "price0" "I", Cond.fieldLink RX3 48 "Barrierbook$Note" "asset1" "LBarrierbook$Asset;"]
def wsX5_endsIn_r5 : List Cond := [Cond.fieldLink RX3 18 "Barrierbook$Standing" "price1" "I", Cond.fieldLink RX3 65 "Barrierbook$Note" "isAgainst" "Z", Cond.fieldLink RX3 68 "Barrierbook$Note" "periods" "I", Cond.fieldLink RX3 75 "Barrierbook$Note" "barrier" "I", Cond.fieldLink RX3 78 "Barrierbook$Note" "isAtEnd" "Z", Cond.fieldLink RX3 24 "Barrierbook$Standing" "isKnocked" "Z", Cond.fieldLink RX3 31 "Barrierbook$Standing" "paidLast" "I", Cond.fieldLink RX3 85 "Barrierbook$Note" "callLevel" "I", Cond.fieldLink RX3 28 "Barrierbook$Standing" "isOver" "Z", Cond.fieldLink RX3 34 "Barrierbook$Standing" "paidInAll" "I", Cond.methodLink RX3 61 yX0_priceBehind, Cond.instanceMethod yX0_priceBehind, Cond.selects RX0 yX0_priceBehind yX0_priceBehind, Cond.initialized RX0, Cond.code yX0_priceBehind cX0_priceBehind 3 (some .int), Cond.fieldLink RX0 15 "Barrierbook$Asset" "rise" "I", Cond.fieldLink RX0 18 "Barrierbook$Asset" "fall" "I", Cond.methodLink RX0 21 Lib.Math.max.name, Cond.methodLink RX3 71 yX3_worstLevel, Cond.instanceMethod yX3_worstLevel, Cond.selects RX3 yX3_worstLevel yX3_worstLevel, Cond.code yX3_worstLevel cX3_worstLevel 2 (some .int), Cond.methodLink RX3 55 Lib.Math.min.name, Cond.methodLink RX3 51 yX0_levelAt]
def wsX5_endsIn_r6 : List Cond := [Cond.instanceMethod yX0_levelAt, Cond.selects RX0 yX0_levelAt yX0_levelAt, Cond.code yX0_levelAt cX0_levelAt 2 (some .int), Cond.fieldLink RX0 9 "Barrierbook$Asset" "first" "I", Cond.methodLink RX3 81 yX3_takeCoupons, Cond.instanceMethod yX3_takeCoupons, Cond.selects RX3 yX3_takeCoupons yX3_takeCoupons, Cond.code yX3_takeCoupons cX3_takeCoupons 4 (some .int), Cond.fieldLink RX3 91 "Barrierbook$Note" "couponLevel" "I", Cond.fieldLink RX3 21 "Barrierbook$Standing" "missed" "I", Cond.fieldLink RX3 94 "Barrierbook$Note" "remembers" "Z", Cond.fieldLink RX3 97 "Barrierbook$Note" "coupon" "I", Cond.methodLink RX3 88 yX3_endPay, Cond.instanceMethod yX3_endPay, Cond.selects RX3 yX3_endPay yX3_endPay, Cond.code yX3_endPay cX3_endPay 4 (some .int), Cond.methodLink RX4 100 yX2_weightOf, Cond.instanceMethod yX2_weightOf, Cond.selects RX2 yX2_weightOf yX2_weightOf, Cond.initialized RX2, Cond.code yX2_weightOf cX2_weightOf 2 (some .int), Cond.fieldLink RX2 25 "Barrierbook$Note" "chance" "I", Cond.static yX5_wholeWeightOf, Cond.code yX5_wholeWeightOf cX5_wholeWeightOf 4 (some .long)]
def wsX5_endsIn_r7 : List Cond := [Cond.constantLong RX5 191 (10), Cond.methodLink RX4 118 yX4_end, Cond.instanceMethod yX4_end, Cond.selects RX4 yX4_end yX4_end, Cond.code yX4_end cX4_end 6 none, Cond.methodLink RX4 122 Lib.Math.min.name, Cond.methodLink RX4 128 Lib.Math.max.name, Cond.methodLink RX5 181 yX4_endSumOf, Cond.instanceMethod yX4_endSumOf, Cond.selects RX4 yX4_endSumOf yX4_endSumOf, Cond.code yX4_endSumOf cX4_endSumOf 2 (some .long)]
def wsX5_endsIn : List Cond := .code yX5_endsIn cX5_endsIn 2 (some .long) :: ((wsX5_endsIn_r1 ++ (wsX5_endsIn_r2 ++ (wsX5_endsIn_r3 ++ (wsX5_endsIn_r4 ++ (wsX5_endsIn_r5 ++ (wsX5_endsIn_r6 ++ wsX5_endsIn_r7)))))) ++ wsX50 ++ wsX20 ++ wsX30 ++ wsX40 ++ wsX10 ++ wsX00 ++ (vx_atS RX5 56 "java/lang/IllegalArgumentException" ["java/lang/RuntimeException", "java/lang/Exception"]).filter goodWord)
def wsX5_knocks_r1 : List Cond := [Cond.fieldLink RX5 29 "Barrierbook" "tree" "LBarrierbook$Tree;", Cond.fieldLink RX5 12 "Barrierbook" "note" "LBarrierbook$Note;", Cond.fieldLink RX5 19 "Barrierbook" "now" "LBarrierbook$Standing;", Cond.fieldLink RX5 184 "Barrierbook$Tree" "knockedSum" "J", Cond.methodLink RX5 154 yX4_grow, Cond.instanceMethod yX4_grow, Cond.selects RX4 yX4_grow yX4_grow, Cond.initialized RX4, Cond.code yX4_grow cX4_grow 4 none, Cond.fieldLink RX4 52 "Barrierbook$Standing" "isOver" "Z", Cond.fieldLink RX4 56 "Barrierbook$Standing" "isKnocked" "Z", Cond.fieldLink RX4 36 "Barrierbook$Tree" "knockedSum" "J", Cond.fieldLink RX4 39 "Barrierbook$Tree" "lastStates" "I", Cond.fieldLink RX4 43 "Barrierbook$Tree" "leastPaid" "I", Cond.fieldLink RX4 25 "Barrierbook$Tree" "from" "LBarrierbook$Layer;", Cond.fieldLink RX4 59 "Barrierbook$Layer" "size" "I", Cond.fieldLink RX4 66 "Barrierbook$Standing" "told" "I", Cond.fieldLink RX4 69 "Barrierbook$Note" "periods" "I", Cond.methodLink RX4 49 yX4_clear, Cond.instanceMethod yX4_clear, Cond.selects RX4 yX4_clear yX4_clear, Cond.code yX4_clear cX4_clear 2 none, Cond.fieldLink RX4 18 "Barrierbook$Tree" "endSums" "[J", Cond.fieldLink RX4 32 "Barrierbook$Tree" "paidSum" "J"]
def wsX5_knocks_r2 : List Cond := [Cond.constant RX4 80 (2147483647), Cond.fieldLink RX4 46 "Barrierbook$Tree" "mostPaid" "I", Cond.methodLink RX4 62 yX1_add, Cond.instanceMethod yX1_add, Cond.selects RX1 yX1_add yX1_add, Cond.initialized RX1, Cond.code yX1_add cX1_add 7 none, Cond.fieldLink RX1 25 "Barrierbook$Layer" "weights" "[J", Cond.fieldLink RX1 29 "Barrierbook$Layer" "leasts" "[I", Cond.methodLink RX1 43 Lib.Math.min.name, Cond.static Lib.Math.min.name, Cond.initialized "java/lang/Math", Cond.code Lib.Math.min.name Lib.Math.min.code 2 (some .int), Cond.fieldLink RX1 32 "Barrierbook$Layer" "mosts" "[I", Cond.methodLink RX1 49 Lib.Math.max.name, Cond.static Lib.Math.max.name, Cond.code Lib.Math.max.name Lib.Math.max.code 2 (some .int), Cond.fieldLink RX1 35 "Barrierbook$Layer" "size" "I", Cond.fieldLink RX1 9 "Barrierbook$Layer" "prices0" "[I", Cond.fieldLink RX1 52 "Barrierbook$Standing" "price0" "I", Cond.fieldLink RX1 15 "Barrierbook$Layer" "prices1" "[I", Cond.fieldLink RX1 57 "Barrierbook$Standing" "price1" "I", Cond.fieldLink RX1 18 "Barrierbook$Layer" "misses" "[I", Cond.fieldLink RX1 60 "Barrierbook$Standing" "missed" "I"]
def wsX5_knocks_r3 : List Cond := [Cond.fieldLink RX1 21 "Barrierbook$Layer" "knocked" "[Z", Cond.fieldLink RX1 63 "Barrierbook$Standing" "isKnocked" "Z", Cond.methodLink RX1 39 yX1_find, Cond.instanceMethod yX1_find, Cond.selects RX1 yX1_find yX1_find, Cond.code yX1_find cX1_find 3 (some .int), Cond.methodLink RX4 74 yX4_growPeriod, Cond.instanceMethod yX4_growPeriod, Cond.selects RX4 yX4_growPeriod yX4_growPeriod, Cond.code yX4_growPeriod cX4_growPeriod 4 none, Cond.fieldLink RX4 29 "Barrierbook$Tree" "to" "LBarrierbook$Layer;", Cond.methodLink RX4 81 yX4_growBranch, Cond.instanceMethod yX4_growBranch, Cond.selects RX4 yX4_growBranch yX4_growBranch, Cond.code yX4_growBranch cX4_growBranch 11 none, Cond.fieldLink RX4 12 "Barrierbook$Tree" "branch" "LBarrierbook$Standing;", Cond.fieldLink RX4 97 "Barrierbook$Layer" "weights" "[J", Cond.fieldLink RX4 108 "Barrierbook$Layer" "leasts" "[I", Cond.fieldLink RX4 112 "Barrierbook$Standing" "paidLast" "I", Cond.fieldLink RX4 115 "Barrierbook$Layer" "mosts" "[I", Cond.methodLink RX4 85 yX1_holds, Cond.instanceMethod yX1_holds, Cond.selects RX1 yX1_holds yX1_holds, Cond.code yX1_holds cX1_holds 2 (some .boolean)]
def wsX5_knocks_r4 : List Cond := [Cond.methodLink RX4 89 yX1_show, Cond.instanceMethod yX1_show, Cond.selects RX1 yX1_show yX1_show, Cond.code yX1_show cX1_show 4 none, Cond.fieldLink RX1 71 "Barrierbook$Standing" "told" "I", Cond.fieldLink RX1 74 "Barrierbook$Standing" "isOver" "Z", Cond.fieldLink RX1 77 "Barrierbook$Standing" "paidLast" "I", Cond.fieldLink RX1 80 "Barrierbook$Standing" "paidInAll" "I", Cond.methodLink RX1 67 yX1_holds, Cond.methodLink RX4 93 yX3_move, Cond.instanceMethod yX3_move, Cond.selects RX3 yX3_move yX3_move, Cond.initialized RX3, Cond.code yX3_move cX3_move 5 none, Cond.fieldLink RX3 9 "Barrierbook$Standing" "told" "I", Cond.fieldLink RX3 37 "Barrierbook$Note" "asset0" "LBarrierbook$Asset;", Cond.fieldLink RX3 15 "Barrierbook$Standing" "price0" "I", Cond.fieldLink RX3 48 "Barrierbook$Note" "asset1" "LBarrierbook$Asset;", Cond.fieldLink RX3 18 "Barrierbook$Standing" "price1" "I", Cond.fieldLink RX3 65 "Barrierbook$Note" "isAgainst" "Z", Cond.fieldLink RX3 68 "Barrierbook$Note" "periods" "I", Cond.fieldLink RX3 75 "Barrierbook$Note" "barrier" "I", Cond.fieldLink RX3 78 "Barrierbook$Note" "isAtEnd" "Z", Cond.fieldLink RX3 24 "Barrierbook$Standing" "isKnocked" "Z"]
def wsX5_knocks_r5 : List Cond := [Cond.fieldLink RX3 31 "Barrierbook$Standing" "paidLast" "I", Cond.fieldLink RX3 85 "Barrierbook$Note" "callLevel" "I", Cond.fieldLink RX3 28 "Barrierbook$Standing" "isOver" "Z", Cond.fieldLink RX3 34 "Barrierbook$Standing" "paidInAll" "I", Cond.methodLink RX3 61 yX0_priceBehind, Cond.instanceMethod yX0_priceBehind, Cond.selects RX0 yX0_priceBehind yX0_priceBehind, Cond.initialized RX0, Cond.code yX0_priceBehind cX0_priceBehind 3 (some .int), Cond.fieldLink RX0 15 "Barrierbook$Asset" "rise" "I", Cond.fieldLink RX0 18 "Barrierbook$Asset" "fall" "I", Cond.methodLink RX0 21 Lib.Math.max.name, Cond.methodLink RX3 71 yX3_worstLevel, Cond.instanceMethod yX3_worstLevel, Cond.selects RX3 yX3_worstLevel yX3_worstLevel, Cond.code yX3_worstLevel cX3_worstLevel 2 (some .int), Cond.methodLink RX3 55 Lib.Math.min.name, Cond.methodLink RX3 51 yX0_levelAt, Cond.instanceMethod yX0_levelAt, Cond.selects RX0 yX0_levelAt yX0_levelAt, Cond.code yX0_levelAt cX0_levelAt 2 (some .int), Cond.fieldLink RX0 9 "Barrierbook$Asset" "first" "I", Cond.methodLink RX3 81 yX3_takeCoupons, Cond.instanceMethod yX3_takeCoupons]
def wsX5_knocks_r6 : List Cond := [Cond.selects RX3 yX3_takeCoupons yX3_takeCoupons, Cond.code yX3_takeCoupons cX3_takeCoupons 4 (some .int), Cond.fieldLink RX3 91 "Barrierbook$Note" "couponLevel" "I", Cond.fieldLink RX3 21 "Barrierbook$Standing" "missed" "I", Cond.fieldLink RX3 94 "Barrierbook$Note" "remembers" "Z", Cond.fieldLink RX3 97 "Barrierbook$Note" "coupon" "I", Cond.methodLink RX3 88 yX3_endPay, Cond.instanceMethod yX3_endPay, Cond.selects RX3 yX3_endPay yX3_endPay, Cond.code yX3_endPay cX3_endPay 4 (some .int), Cond.methodLink RX4 100 yX2_weightOf, Cond.instanceMethod yX2_weightOf, Cond.selects RX2 yX2_weightOf yX2_weightOf, Cond.initialized RX2, Cond.code yX2_weightOf cX2_weightOf 2 (some .int), Cond.fieldLink RX2 25 "Barrierbook$Note" "chance" "I", Cond.static yX5_wholeWeightOf, Cond.initialized RX5, Cond.code yX5_wholeWeightOf cX5_wholeWeightOf 4 (some .long), Cond.constantLong RX5 191 (10), Cond.methodLink RX4 118 yX4_end, Cond.instanceMethod yX4_end, Cond.selects RX4 yX4_end yX4_end, Cond.code yX4_end cX4_end 6 none]
def wsX5_knocks_r7 : List Cond := [Cond.methodLink RX4 122 Lib.Math.min.name, Cond.methodLink RX4 128 Lib.Math.max.name]
def wsX5_knocks : List Cond := .code yX5_knocks cX5_knocks 1 (some .long) :: ((wsX5_knocks_r1 ++ (wsX5_knocks_r2 ++ (wsX5_knocks_r3 ++ (wsX5_knocks_r4 ++ (wsX5_knocks_r5 ++ (wsX5_knocks_r6 ++ wsX5_knocks_r7)))))) ++ wsX50 ++ wsX40 ++ wsX30 ++ wsX10 ++ wsX20 ++ wsX00)
def wsX6_init : List Cond := .code yX6_init cX6_init 2 none :: ([.methodLink RX6 1 objectInit, .instanceMethod objectInit, .code objectInit ⟨#[0xb1]⟩ 1 none, .arrayClass .int, .fieldLink RX6 7 "BarrierbookModel" "firsts" "[I", .fieldLink RX6 13 "BarrierbookModel" "rises" "[I", .fieldLink RX6 16 "BarrierbookModel" "falls" "[I", .fieldLink RX6 19 "BarrierbookModel" "chance" "I", .fieldLink RX6 23 "BarrierbookModel" "periods" "I", .fieldLink RX6 26 "BarrierbookModel" "barrier" "I", .fieldLink RX6 29 "BarrierbookModel" "couponLevel" "I", .fieldLink RX6 32 "BarrierbookModel" "callLevel" "I", .fieldLink RX6 35 "BarrierbookModel" "coupon" "I", .arrayClass .boolean, .fieldLink RX6 38 "BarrierbookModel" "moves" "[Z", .fieldLink RX6 42 "BarrierbookModel" "prices" "[I", .arrayClass .long, .fieldLink RX6 45 "BarrierbookModel" "seen" "[J"] ++ wsX60)
def wsX6_thrown : List Cond := .code yX6_thrown cX6_thrown 1 (some .int) :: ([.fieldLink RX6 49 "BarrierbookModel" "thrown" "I"] ++ wsX60)
def wsX6_goes : List Cond := .code yX6_goes cX6_goes 2 (some .boolean) :: ([.fieldLink RX6 49 "BarrierbookModel" "thrown" "I"] ++ wsX60)
def wsX6_isIn : List Cond := .code yX6_isIn cX6_isIn 3 (some .boolean) :: ([])
def wsX6_setAsset : List Cond := .code yX6_setAsset cX6_setAsset 6 none :: ([.fieldLink RX6 7 "BarrierbookModel" "firsts" "[I", .fieldLink RX6 13 "BarrierbookModel" "rises" "[I", .fieldLink RX6 16 "BarrierbookModel" "falls" "[I", .fieldLink RX6 60 "BarrierbookModel" "told" "I", .methodLink RX6 52 yX6_isIn, .static yX6_isIn, .initialized RX6, .code yX6_isIn cX6_isIn 3 (some .boolean), .methodLink RX6 56 yX6_goes, .instanceMethod yX6_goes, .selects RX6 yX6_goes yX6_goes, .code yX6_goes cX6_goes 2 (some .boolean), .fieldLink RX6 49 "BarrierbookModel" "thrown" "I"] ++ wsX60)
def wsX6_setMoves : List Cond := .code yX6_setMoves cX6_setMoves 3 none :: ([.fieldLink RX6 63 "BarrierbookModel" "isAgainst" "Z", .fieldLink RX6 19 "BarrierbookModel" "chance" "I", .fieldLink RX6 60 "BarrierbookModel" "told" "I", .methodLink RX6 52 yX6_isIn, .static yX6_isIn, .initialized RX6, .code yX6_isIn cX6_isIn 3 (some .boolean), .methodLink RX6 56 yX6_goes, .instanceMethod yX6_goes, .selects RX6 yX6_goes yX6_goes, .code yX6_goes cX6_goes 2 (some .boolean), .fieldLink RX6 49 "BarrierbookModel" "thrown" "I"] ++ wsX60)
def wsX6_setNote : List Cond := .code yX6_setNote cX6_setNote 7 none :: ([.fieldLink RX6 23 "BarrierbookModel" "periods" "I", .fieldLink RX6 26 "BarrierbookModel" "barrier" "I", .fieldLink RX6 29 "BarrierbookModel" "couponLevel" "I", .fieldLink RX6 32 "BarrierbookModel" "callLevel" "I", .fieldLink RX6 35 "BarrierbookModel" "coupon" "I", .fieldLink RX6 60 "BarrierbookModel" "told" "I", .methodLink RX6 52 yX6_isIn, .static yX6_isIn, .initialized RX6, .code yX6_isIn cX6_isIn 3 (some .boolean), .methodLink RX6 56 yX6_goes, .instanceMethod yX6_goes, .selects RX6 yX6_goes yX6_goes, .code yX6_goes cX6_goes 2 (some .boolean), .fieldLink RX6 49 "BarrierbookModel" "thrown" "I"] ++ wsX60)
def wsX6_setKind : List Cond := .code yX6_setKind cX6_setKind 3 none :: ([.fieldLink RX6 49 "BarrierbookModel" "thrown" "I", .fieldLink RX6 67 "BarrierbookModel" "isAtEnd" "Z", .fieldLink RX6 70 "BarrierbookModel" "remembers" "Z", .fieldLink RX6 60 "BarrierbookModel" "told" "I"] ++ wsX60)
def wsX6_level : List Cond := .code yX6_level cX6_level 2 (some .int) :: ([.fieldLink RX6 42 "BarrierbookModel" "prices" "[I", .fieldLink RX6 7 "BarrierbookModel" "firsts" "[I"] ++ wsX60)
def wsX6_worstNow : List Cond := .code yX6_worstNow cX6_worstNow 1 (some .int) :: ([.methodLink RX6 73 yX6_level, .instanceMethod yX6_level, .selects RX6 yX6_level yX6_level, .initialized RX6, .code yX6_level cX6_level 2 (some .int), .fieldLink RX6 42 "BarrierbookModel" "prices" "[I", .fieldLink RX6 7 "BarrierbookModel" "firsts" "[I"] ++ wsX60)
def wsX6_moves : List Cond := .code yX6_moves cX6_moves 4 none :: ([.fieldLink RX6 42 "BarrierbookModel" "prices" "[I", .fieldLink RX6 13 "BarrierbookModel" "rises" "[I", .fieldLink RX6 16 "BarrierbookModel" "falls" "[I"] ++ wsX60)
def wsX6_period_r1 : List Cond := [Cond.fieldLink RX6 63 "BarrierbookModel" "isAgainst" "Z", Cond.fieldLink RX6 80 "BarrierbookModel" "done" "I", Cond.fieldLink RX6 23 "BarrierbookModel" "periods" "I", Cond.fieldLink RX6 87 "BarrierbookModel" "isKnocked" "Z", Cond.fieldLink RX6 26 "BarrierbookModel" "barrier" "I", Cond.fieldLink RX6 67 "BarrierbookModel" "isAtEnd" "Z", Cond.fieldLink RX6 29 "BarrierbookModel" "couponLevel" "I", Cond.fieldLink RX6 90 "BarrierbookModel" "paid" "I", Cond.fieldLink RX6 35 "BarrierbookModel" "coupon" "I", Cond.fieldLink RX6 70 "BarrierbookModel" "remembers" "Z", Cond.fieldLink RX6 93 "BarrierbookModel" "missed" "I", Cond.fieldLink RX6 32 "BarrierbookModel" "callLevel" "I", Cond.fieldLink RX6 96 "BarrierbookModel" "isOver" "Z", Cond.methodLink RX6 77 yX6_moves, Cond.instanceMethod yX6_moves, Cond.selects RX6 yX6_moves yX6_moves, Cond.initialized RX6, Cond.code yX6_moves cX6_moves 4 none, Cond.fieldLink RX6 42 "BarrierbookModel" "prices" "[I", Cond.fieldLink RX6 13 "BarrierbookModel" "rises" "[I", Cond.fieldLink RX6 16 "BarrierbookModel" "falls" "[I", Cond.methodLink RX6 83 yX6_worstNow, Cond.instanceMethod yX6_worstNow, Cond.selects RX6 yX6_worstNow yX6_worstNow]
def wsX6_period_r2 : List Cond := [Cond.code yX6_worstNow cX6_worstNow 1 (some .int), Cond.methodLink RX6 73 yX6_level, Cond.instanceMethod yX6_level, Cond.selects RX6 yX6_level yX6_level, Cond.code yX6_level cX6_level 2 (some .int), Cond.fieldLink RX6 7 "BarrierbookModel" "firsts" "[I"]
def wsX6_period : List Cond := .code yX6_period cX6_period 4 none :: ((wsX6_period_r1 ++ wsX6_period_r2) ++ wsX60)
def wsX6_runs_r1 : List Cond := [Cond.fieldLink RX6 42 "BarrierbookModel" "prices" "[I", Cond.fieldLink RX6 7 "BarrierbookModel" "firsts" "[I", Cond.fieldLink RX6 93 "BarrierbookModel" "missed" "I", Cond.fieldLink RX6 87 "BarrierbookModel" "isKnocked" "Z", Cond.fieldLink RX6 96 "BarrierbookModel" "isOver" "Z", Cond.fieldLink RX6 80 "BarrierbookModel" "done" "I", Cond.fieldLink RX6 90 "BarrierbookModel" "paid" "I", Cond.fieldLink RX6 38 "BarrierbookModel" "moves" "[Z", Cond.methodLink RX6 99 yX6_period, Cond.instanceMethod yX6_period, Cond.selects RX6 yX6_period yX6_period, Cond.initialized RX6, Cond.code yX6_period cX6_period 4 none, Cond.fieldLink RX6 63 "BarrierbookModel" "isAgainst" "Z", Cond.fieldLink RX6 23 "BarrierbookModel" "periods" "I", Cond.fieldLink RX6 26 "BarrierbookModel" "barrier" "I", Cond.fieldLink RX6 67 "BarrierbookModel" "isAtEnd" "Z", Cond.fieldLink RX6 29 "BarrierbookModel" "couponLevel" "I", Cond.fieldLink RX6 35 "BarrierbookModel" "coupon" "I", Cond.fieldLink RX6 70 "BarrierbookModel" "remembers" "Z", Cond.fieldLink RX6 32 "BarrierbookModel" "callLevel" "I", Cond.methodLink RX6 77 yX6_moves, Cond.instanceMethod yX6_moves, Cond.selects RX6 yX6_moves yX6_moves]
def wsX6_runs_r2 : List Cond := [Cond.code yX6_moves cX6_moves 4 none, Cond.fieldLink RX6 13 "BarrierbookModel" "rises" "[I", Cond.fieldLink RX6 16 "BarrierbookModel" "falls" "[I", Cond.methodLink RX6 83 yX6_worstNow, Cond.instanceMethod yX6_worstNow, Cond.selects RX6 yX6_worstNow yX6_worstNow, Cond.code yX6_worstNow cX6_worstNow 1 (some .int), Cond.methodLink RX6 73 yX6_level, Cond.instanceMethod yX6_level, Cond.selects RX6 yX6_level yX6_level, Cond.code yX6_level cX6_level 2 (some .int)]
def wsX6_runs : List Cond := .code yX6_runs cX6_runs 3 none :: ((wsX6_runs_r1 ++ wsX6_runs_r2) ++ wsX60)
def wsX6_paidBy_r1 : List Cond := [Cond.fieldLink RX6 90 "BarrierbookModel" "paid" "I", Cond.methodLink RX6 103 yX6_runs, Cond.instanceMethod yX6_runs, Cond.selects RX6 yX6_runs yX6_runs, Cond.initialized RX6, Cond.code yX6_runs cX6_runs 3 none, Cond.fieldLink RX6 42 "BarrierbookModel" "prices" "[I", Cond.fieldLink RX6 7 "BarrierbookModel" "firsts" "[I", Cond.fieldLink RX6 93 "BarrierbookModel" "missed" "I", Cond.fieldLink RX6 87 "BarrierbookModel" "isKnocked" "Z", Cond.fieldLink RX6 96 "BarrierbookModel" "isOver" "Z", Cond.fieldLink RX6 80 "BarrierbookModel" "done" "I", Cond.fieldLink RX6 38 "BarrierbookModel" "moves" "[Z", Cond.methodLink RX6 99 yX6_period, Cond.instanceMethod yX6_period, Cond.selects RX6 yX6_period yX6_period, Cond.code yX6_period cX6_period 4 none, Cond.fieldLink RX6 63 "BarrierbookModel" "isAgainst" "Z", Cond.fieldLink RX6 23 "BarrierbookModel" "periods" "I", Cond.fieldLink RX6 26 "BarrierbookModel" "barrier" "I", Cond.fieldLink RX6 67 "BarrierbookModel" "isAtEnd" "Z", Cond.fieldLink RX6 29 "BarrierbookModel" "couponLevel" "I", Cond.fieldLink RX6 35 "BarrierbookModel" "coupon" "I", Cond.fieldLink RX6 70 "BarrierbookModel" "remembers" "Z"]
def wsX6_paidBy_r2 : List Cond := [Cond.fieldLink RX6 32 "BarrierbookModel" "callLevel" "I", Cond.methodLink RX6 77 yX6_moves, Cond.instanceMethod yX6_moves, Cond.selects RX6 yX6_moves yX6_moves, Cond.code yX6_moves cX6_moves 4 none, Cond.fieldLink RX6 13 "BarrierbookModel" "rises" "[I", Cond.fieldLink RX6 16 "BarrierbookModel" "falls" "[I", Cond.methodLink RX6 83 yX6_worstNow, Cond.instanceMethod yX6_worstNow, Cond.selects RX6 yX6_worstNow yX6_worstNow, Cond.code yX6_worstNow cX6_worstNow 1 (some .int), Cond.methodLink RX6 73 yX6_level, Cond.instanceMethod yX6_level, Cond.selects RX6 yX6_level yX6_level, Cond.code yX6_level cX6_level 2 (some .int)]
def wsX6_paidBy : List Cond := .code yX6_paidBy cX6_paidBy 2 (some .int) :: ((wsX6_paidBy_r1 ++ wsX6_paidBy_r2) ++ wsX60)
def wsX6_tell_r1 : List Cond := [Cond.fieldLink RX6 60 "BarrierbookModel" "told" "I", Cond.fieldLink RX6 96 "BarrierbookModel" "isOver" "Z", Cond.fieldLink RX6 38 "BarrierbookModel" "moves" "[Z", Cond.methodLink RX6 107 yX6_paidBy, Cond.instanceMethod yX6_paidBy, Cond.selects RX6 yX6_paidBy yX6_paidBy, Cond.initialized RX6, Cond.code yX6_paidBy cX6_paidBy 2 (some .int), Cond.fieldLink RX6 90 "BarrierbookModel" "paid" "I", Cond.methodLink RX6 103 yX6_runs, Cond.instanceMethod yX6_runs, Cond.selects RX6 yX6_runs yX6_runs, Cond.code yX6_runs cX6_runs 3 none, Cond.fieldLink RX6 42 "BarrierbookModel" "prices" "[I", Cond.fieldLink RX6 7 "BarrierbookModel" "firsts" "[I", Cond.fieldLink RX6 93 "BarrierbookModel" "missed" "I", Cond.fieldLink RX6 87 "BarrierbookModel" "isKnocked" "Z", Cond.fieldLink RX6 80 "BarrierbookModel" "done" "I", Cond.methodLink RX6 99 yX6_period, Cond.instanceMethod yX6_period, Cond.selects RX6 yX6_period yX6_period, Cond.code yX6_period cX6_period 4 none, Cond.fieldLink RX6 63 "BarrierbookModel" "isAgainst" "Z", Cond.fieldLink RX6 23 "BarrierbookModel" "periods" "I"]
def wsX6_tell_r2 : List Cond := [Cond.fieldLink RX6 26 "BarrierbookModel" "barrier" "I", Cond.fieldLink RX6 67 "BarrierbookModel" "isAtEnd" "Z", Cond.fieldLink RX6 29 "BarrierbookModel" "couponLevel" "I", Cond.fieldLink RX6 35 "BarrierbookModel" "coupon" "I", Cond.fieldLink RX6 70 "BarrierbookModel" "remembers" "Z", Cond.fieldLink RX6 32 "BarrierbookModel" "callLevel" "I", Cond.methodLink RX6 77 yX6_moves, Cond.instanceMethod yX6_moves, Cond.selects RX6 yX6_moves yX6_moves, Cond.code yX6_moves cX6_moves 4 none, Cond.fieldLink RX6 13 "BarrierbookModel" "rises" "[I", Cond.fieldLink RX6 16 "BarrierbookModel" "falls" "[I", Cond.methodLink RX6 83 yX6_worstNow, Cond.instanceMethod yX6_worstNow, Cond.selects RX6 yX6_worstNow yX6_worstNow, Cond.code yX6_worstNow cX6_worstNow 1 (some .int), Cond.methodLink RX6 73 yX6_level, Cond.instanceMethod yX6_level, Cond.selects RX6 yX6_level yX6_level, Cond.code yX6_level cX6_level 2 (some .int), Cond.methodLink RX6 56 yX6_goes, Cond.instanceMethod yX6_goes, Cond.selects RX6 yX6_goes yX6_goes, Cond.code yX6_goes cX6_goes 2 (some .boolean)]
def wsX6_tell_r3 : List Cond := [Cond.fieldLink RX6 49 "BarrierbookModel" "thrown" "I"]
def wsX6_tell : List Cond := .code yX6_tell cX6_tell 3 (some .int) :: ((wsX6_tell_r1 ++ (wsX6_tell_r2 ++ wsX6_tell_r3)) ++ wsX60)
def wsX6_takeBack_r1 : List Cond := [Cond.fieldLink RX6 60 "BarrierbookModel" "told" "I", Cond.methodLink RX6 56 yX6_goes, Cond.instanceMethod yX6_goes, Cond.selects RX6 yX6_goes yX6_goes, Cond.initialized RX6, Cond.code yX6_goes cX6_goes 2 (some .boolean), Cond.fieldLink RX6 49 "BarrierbookModel" "thrown" "I", Cond.methodLink RX6 107 yX6_paidBy, Cond.instanceMethod yX6_paidBy, Cond.selects RX6 yX6_paidBy yX6_paidBy, Cond.code yX6_paidBy cX6_paidBy 2 (some .int), Cond.fieldLink RX6 90 "BarrierbookModel" "paid" "I", Cond.methodLink RX6 103 yX6_runs, Cond.instanceMethod yX6_runs, Cond.selects RX6 yX6_runs yX6_runs, Cond.code yX6_runs cX6_runs 3 none, Cond.fieldLink RX6 42 "BarrierbookModel" "prices" "[I", Cond.fieldLink RX6 7 "BarrierbookModel" "firsts" "[I", Cond.fieldLink RX6 93 "BarrierbookModel" "missed" "I", Cond.fieldLink RX6 87 "BarrierbookModel" "isKnocked" "Z", Cond.fieldLink RX6 96 "BarrierbookModel" "isOver" "Z", Cond.fieldLink RX6 80 "BarrierbookModel" "done" "I", Cond.fieldLink RX6 38 "BarrierbookModel" "moves" "[Z", Cond.methodLink RX6 99 yX6_period]
def wsX6_takeBack_r2 : List Cond := [Cond.instanceMethod yX6_period, Cond.selects RX6 yX6_period yX6_period, Cond.code yX6_period cX6_period 4 none, Cond.fieldLink RX6 63 "BarrierbookModel" "isAgainst" "Z", Cond.fieldLink RX6 23 "BarrierbookModel" "periods" "I", Cond.fieldLink RX6 26 "BarrierbookModel" "barrier" "I", Cond.fieldLink RX6 67 "BarrierbookModel" "isAtEnd" "Z", Cond.fieldLink RX6 29 "BarrierbookModel" "couponLevel" "I", Cond.fieldLink RX6 35 "BarrierbookModel" "coupon" "I", Cond.fieldLink RX6 70 "BarrierbookModel" "remembers" "Z", Cond.fieldLink RX6 32 "BarrierbookModel" "callLevel" "I", Cond.methodLink RX6 77 yX6_moves, Cond.instanceMethod yX6_moves, Cond.selects RX6 yX6_moves yX6_moves, Cond.code yX6_moves cX6_moves 4 none, Cond.fieldLink RX6 13 "BarrierbookModel" "rises" "[I", Cond.fieldLink RX6 16 "BarrierbookModel" "falls" "[I", Cond.methodLink RX6 83 yX6_worstNow, Cond.instanceMethod yX6_worstNow, Cond.selects RX6 yX6_worstNow yX6_worstNow, Cond.code yX6_worstNow cX6_worstNow 1 (some .int), Cond.methodLink RX6 73 yX6_level, Cond.instanceMethod yX6_level, Cond.selects RX6 yX6_level yX6_level]
def wsX6_takeBack_r3 : List Cond := [Cond.code yX6_level cX6_level 2 (some .int)]
def wsX6_takeBack : List Cond := .code yX6_takeBack cX6_takeBack 2 (some .int) :: ((wsX6_takeBack_r1 ++ (wsX6_takeBack_r2 ++ wsX6_takeBack_r3)) ++ wsX60)
def wsX6_told : List Cond := .code yX6_told cX6_told 1 (some .int) :: ([.fieldLink RX6 49 "BarrierbookModel" "thrown" "I", .fieldLink RX6 60 "BarrierbookModel" "told" "I"] ++ wsX60)
def wsX6_price_r1 : List Cond := [Cond.fieldLink RX6 60 "BarrierbookModel" "told" "I", Cond.fieldLink RX6 42 "BarrierbookModel" "prices" "[I", Cond.methodLink RX6 103 yX6_runs, Cond.instanceMethod yX6_runs, Cond.selects RX6 yX6_runs yX6_runs, Cond.initialized RX6, Cond.code yX6_runs cX6_runs 3 none, Cond.fieldLink RX6 7 "BarrierbookModel" "firsts" "[I", Cond.fieldLink RX6 93 "BarrierbookModel" "missed" "I", Cond.fieldLink RX6 87 "BarrierbookModel" "isKnocked" "Z", Cond.fieldLink RX6 96 "BarrierbookModel" "isOver" "Z", Cond.fieldLink RX6 80 "BarrierbookModel" "done" "I", Cond.fieldLink RX6 90 "BarrierbookModel" "paid" "I", Cond.fieldLink RX6 38 "BarrierbookModel" "moves" "[Z", Cond.methodLink RX6 99 yX6_period, Cond.instanceMethod yX6_period, Cond.selects RX6 yX6_period yX6_period, Cond.code yX6_period cX6_period 4 none, Cond.fieldLink RX6 63 "BarrierbookModel" "isAgainst" "Z", Cond.fieldLink RX6 23 "BarrierbookModel" "periods" "I", Cond.fieldLink RX6 26 "BarrierbookModel" "barrier" "I", Cond.fieldLink RX6 67 "BarrierbookModel" "isAtEnd" "Z", Cond.fieldLink RX6 29 "BarrierbookModel" "couponLevel" "I", Cond.fieldLink RX6 35 "BarrierbookModel" "coupon" "I"]
def wsX6_price_r2 : List Cond := [Cond.fieldLink RX6 70 "BarrierbookModel" "remembers" "Z", Cond.fieldLink RX6 32 "BarrierbookModel" "callLevel" "I", Cond.methodLink RX6 77 yX6_moves, Cond.instanceMethod yX6_moves, Cond.selects RX6 yX6_moves yX6_moves, Cond.code yX6_moves cX6_moves 4 none, Cond.fieldLink RX6 13 "BarrierbookModel" "rises" "[I", Cond.fieldLink RX6 16 "BarrierbookModel" "falls" "[I", Cond.methodLink RX6 83 yX6_worstNow, Cond.instanceMethod yX6_worstNow, Cond.selects RX6 yX6_worstNow yX6_worstNow, Cond.code yX6_worstNow cX6_worstNow 1 (some .int), Cond.methodLink RX6 73 yX6_level, Cond.instanceMethod yX6_level, Cond.selects RX6 yX6_level yX6_level, Cond.code yX6_level cX6_level 2 (some .int), Cond.methodLink RX6 52 yX6_isIn, Cond.static yX6_isIn, Cond.code yX6_isIn cX6_isIn 3 (some .boolean), Cond.methodLink RX6 56 yX6_goes, Cond.instanceMethod yX6_goes, Cond.selects RX6 yX6_goes yX6_goes, Cond.code yX6_goes cX6_goes 2 (some .boolean), Cond.fieldLink RX6 49 "BarrierbookModel" "thrown" "I"]
def wsX6_price : List Cond := .code yX6_price cX6_price 2 (some .int) :: ((wsX6_price_r1 ++ wsX6_price_r2) ++ wsX60)
def wsX6_worst_r1 : List Cond := [Cond.fieldLink RX6 49 "BarrierbookModel" "thrown" "I", Cond.fieldLink RX6 60 "BarrierbookModel" "told" "I", Cond.methodLink RX6 103 yX6_runs, Cond.instanceMethod yX6_runs, Cond.selects RX6 yX6_runs yX6_runs, Cond.initialized RX6, Cond.code yX6_runs cX6_runs 3 none, Cond.fieldLink RX6 42 "BarrierbookModel" "prices" "[I", Cond.fieldLink RX6 7 "BarrierbookModel" "firsts" "[I", Cond.fieldLink RX6 93 "BarrierbookModel" "missed" "I", Cond.fieldLink RX6 87 "BarrierbookModel" "isKnocked" "Z", Cond.fieldLink RX6 96 "BarrierbookModel" "isOver" "Z", Cond.fieldLink RX6 80 "BarrierbookModel" "done" "I", Cond.fieldLink RX6 90 "BarrierbookModel" "paid" "I", Cond.fieldLink RX6 38 "BarrierbookModel" "moves" "[Z", Cond.methodLink RX6 99 yX6_period, Cond.instanceMethod yX6_period, Cond.selects RX6 yX6_period yX6_period, Cond.code yX6_period cX6_period 4 none, Cond.fieldLink RX6 63 "BarrierbookModel" "isAgainst" "Z", Cond.fieldLink RX6 23 "BarrierbookModel" "periods" "I", Cond.fieldLink RX6 26 "BarrierbookModel" "barrier" "I", Cond.fieldLink RX6 67 "BarrierbookModel" "isAtEnd" "Z", Cond.fieldLink RX6 29 "BarrierbookModel" "couponLevel" "I"]
def wsX6_worst_r2 : List Cond := [Cond.fieldLink RX6 35 "BarrierbookModel" "coupon" "I", Cond.fieldLink RX6 70 "BarrierbookModel" "remembers" "Z", Cond.fieldLink RX6 32 "BarrierbookModel" "callLevel" "I", Cond.methodLink RX6 77 yX6_moves, Cond.instanceMethod yX6_moves, Cond.selects RX6 yX6_moves yX6_moves, Cond.code yX6_moves cX6_moves 4 none, Cond.fieldLink RX6 13 "BarrierbookModel" "rises" "[I", Cond.fieldLink RX6 16 "BarrierbookModel" "falls" "[I", Cond.methodLink RX6 83 yX6_worstNow, Cond.instanceMethod yX6_worstNow, Cond.selects RX6 yX6_worstNow yX6_worstNow, Cond.code yX6_worstNow cX6_worstNow 1 (some .int), Cond.methodLink RX6 73 yX6_level, Cond.instanceMethod yX6_level, Cond.selects RX6 yX6_level yX6_level, Cond.code yX6_level cX6_level 2 (some .int)]
def wsX6_worst : List Cond := .code yX6_worst cX6_worst 1 (some .int) :: ((wsX6_worst_r1 ++ wsX6_worst_r2) ++ wsX60)
def wsX6_isKnocked_r1 : List Cond := [Cond.fieldLink RX6 49 "BarrierbookModel" "thrown" "I", Cond.fieldLink RX6 60 "BarrierbookModel" "told" "I", Cond.fieldLink RX6 87 "BarrierbookModel" "isKnocked" "Z", Cond.methodLink RX6 103 yX6_runs, Cond.instanceMethod yX6_runs, Cond.selects RX6 yX6_runs yX6_runs, Cond.initialized RX6, Cond.code yX6_runs cX6_runs 3 none, Cond.fieldLink RX6 42 "BarrierbookModel" "prices" "[I", Cond.fieldLink RX6 7 "BarrierbookModel" "firsts" "[I", Cond.fieldLink RX6 93 "BarrierbookModel" "missed" "I", Cond.fieldLink RX6 96 "BarrierbookModel" "isOver" "Z", Cond.fieldLink RX6 80 "BarrierbookModel" "done" "I", Cond.fieldLink RX6 90 "BarrierbookModel" "paid" "I", Cond.fieldLink RX6 38 "BarrierbookModel" "moves" "[Z", Cond.methodLink RX6 99 yX6_period, Cond.instanceMethod yX6_period, Cond.selects RX6 yX6_period yX6_period, Cond.code yX6_period cX6_period 4 none, Cond.fieldLink RX6 63 "BarrierbookModel" "isAgainst" "Z", Cond.fieldLink RX6 23 "BarrierbookModel" "periods" "I", Cond.fieldLink RX6 26 "BarrierbookModel" "barrier" "I", Cond.fieldLink RX6 67 "BarrierbookModel" "isAtEnd" "Z", Cond.fieldLink RX6 29 "BarrierbookModel" "couponLevel" "I"]
def wsX6_isKnocked_r2 : List Cond := [Cond.fieldLink RX6 35 "BarrierbookModel" "coupon" "I", Cond.fieldLink RX6 70 "BarrierbookModel" "remembers" "Z", Cond.fieldLink RX6 32 "BarrierbookModel" "callLevel" "I", Cond.methodLink RX6 77 yX6_moves, Cond.instanceMethod yX6_moves, Cond.selects RX6 yX6_moves yX6_moves, Cond.code yX6_moves cX6_moves 4 none, Cond.fieldLink RX6 13 "BarrierbookModel" "rises" "[I", Cond.fieldLink RX6 16 "BarrierbookModel" "falls" "[I", Cond.methodLink RX6 83 yX6_worstNow, Cond.instanceMethod yX6_worstNow, Cond.selects RX6 yX6_worstNow yX6_worstNow, Cond.code yX6_worstNow cX6_worstNow 1 (some .int), Cond.methodLink RX6 73 yX6_level, Cond.instanceMethod yX6_level, Cond.selects RX6 yX6_level yX6_level, Cond.code yX6_level cX6_level 2 (some .int)]
def wsX6_isKnocked : List Cond := .code yX6_isKnocked cX6_isKnocked 1 (some .boolean) :: ((wsX6_isKnocked_r1 ++ wsX6_isKnocked_r2) ++ wsX60)
def wsX6_missed_r1 : List Cond := [Cond.fieldLink RX6 49 "BarrierbookModel" "thrown" "I", Cond.fieldLink RX6 60 "BarrierbookModel" "told" "I", Cond.fieldLink RX6 93 "BarrierbookModel" "missed" "I", Cond.methodLink RX6 103 yX6_runs, Cond.instanceMethod yX6_runs, Cond.selects RX6 yX6_runs yX6_runs, Cond.initialized RX6, Cond.code yX6_runs cX6_runs 3 none, Cond.fieldLink RX6 42 "BarrierbookModel" "prices" "[I", Cond.fieldLink RX6 7 "BarrierbookModel" "firsts" "[I", Cond.fieldLink RX6 87 "BarrierbookModel" "isKnocked" "Z", Cond.fieldLink RX6 96 "BarrierbookModel" "isOver" "Z", Cond.fieldLink RX6 80 "BarrierbookModel" "done" "I", Cond.fieldLink RX6 90 "BarrierbookModel" "paid" "I", Cond.fieldLink RX6 38 "BarrierbookModel" "moves" "[Z", Cond.methodLink RX6 99 yX6_period, Cond.instanceMethod yX6_period, Cond.selects RX6 yX6_period yX6_period, Cond.code yX6_period cX6_period 4 none, Cond.fieldLink RX6 63 "BarrierbookModel" "isAgainst" "Z", Cond.fieldLink RX6 23 "BarrierbookModel" "periods" "I", Cond.fieldLink RX6 26 "BarrierbookModel" "barrier" "I", Cond.fieldLink RX6 67 "BarrierbookModel" "isAtEnd" "Z", Cond.fieldLink RX6 29 "BarrierbookModel" "couponLevel" "I"]
def wsX6_missed_r2 : List Cond := [Cond.fieldLink RX6 35 "BarrierbookModel" "coupon" "I", Cond.fieldLink RX6 70 "BarrierbookModel" "remembers" "Z", Cond.fieldLink RX6 32 "BarrierbookModel" "callLevel" "I", Cond.methodLink RX6 77 yX6_moves, Cond.instanceMethod yX6_moves, Cond.selects RX6 yX6_moves yX6_moves, Cond.code yX6_moves cX6_moves 4 none, Cond.fieldLink RX6 13 "BarrierbookModel" "rises" "[I", Cond.fieldLink RX6 16 "BarrierbookModel" "falls" "[I", Cond.methodLink RX6 83 yX6_worstNow, Cond.instanceMethod yX6_worstNow, Cond.selects RX6 yX6_worstNow yX6_worstNow, Cond.code yX6_worstNow cX6_worstNow 1 (some .int), Cond.methodLink RX6 73 yX6_level, Cond.instanceMethod yX6_level, Cond.selects RX6 yX6_level yX6_level, Cond.code yX6_level cX6_level 2 (some .int)]
def wsX6_missed : List Cond := .code yX6_missed cX6_missed 1 (some .int) :: ((wsX6_missed_r1 ++ wsX6_missed_r2) ++ wsX60)
def wsX6_paid_r1 : List Cond := [Cond.fieldLink RX6 49 "BarrierbookModel" "thrown" "I", Cond.fieldLink RX6 60 "BarrierbookModel" "told" "I", Cond.methodLink RX6 107 yX6_paidBy, Cond.instanceMethod yX6_paidBy, Cond.selects RX6 yX6_paidBy yX6_paidBy, Cond.initialized RX6, Cond.code yX6_paidBy cX6_paidBy 2 (some .int), Cond.fieldLink RX6 90 "BarrierbookModel" "paid" "I", Cond.methodLink RX6 103 yX6_runs, Cond.instanceMethod yX6_runs, Cond.selects RX6 yX6_runs yX6_runs, Cond.code yX6_runs cX6_runs 3 none, Cond.fieldLink RX6 42 "BarrierbookModel" "prices" "[I", Cond.fieldLink RX6 7 "BarrierbookModel" "firsts" "[I", Cond.fieldLink RX6 93 "BarrierbookModel" "missed" "I", Cond.fieldLink RX6 87 "BarrierbookModel" "isKnocked" "Z", Cond.fieldLink RX6 96 "BarrierbookModel" "isOver" "Z", Cond.fieldLink RX6 80 "BarrierbookModel" "done" "I", Cond.fieldLink RX6 38 "BarrierbookModel" "moves" "[Z", Cond.methodLink RX6 99 yX6_period, Cond.instanceMethod yX6_period, Cond.selects RX6 yX6_period yX6_period, Cond.code yX6_period cX6_period 4 none, Cond.fieldLink RX6 63 "BarrierbookModel" "isAgainst" "Z"]
def wsX6_paid_r2 : List Cond := [Cond.fieldLink RX6 23 "BarrierbookModel" "periods" "I", Cond.fieldLink RX6 26 "BarrierbookModel" "barrier" "I", Cond.fieldLink RX6 67 "BarrierbookModel" "isAtEnd" "Z", Cond.fieldLink RX6 29 "BarrierbookModel" "couponLevel" "I", Cond.fieldLink RX6 35 "BarrierbookModel" "coupon" "I", Cond.fieldLink RX6 70 "BarrierbookModel" "remembers" "Z", Cond.fieldLink RX6 32 "BarrierbookModel" "callLevel" "I", Cond.methodLink RX6 77 yX6_moves, Cond.instanceMethod yX6_moves, Cond.selects RX6 yX6_moves yX6_moves, Cond.code yX6_moves cX6_moves 4 none, Cond.fieldLink RX6 13 "BarrierbookModel" "rises" "[I", Cond.fieldLink RX6 16 "BarrierbookModel" "falls" "[I", Cond.methodLink RX6 83 yX6_worstNow, Cond.instanceMethod yX6_worstNow, Cond.selects RX6 yX6_worstNow yX6_worstNow, Cond.code yX6_worstNow cX6_worstNow 1 (some .int), Cond.methodLink RX6 73 yX6_level, Cond.instanceMethod yX6_level, Cond.selects RX6 yX6_level yX6_level, Cond.code yX6_level cX6_level 2 (some .int)]
def wsX6_paid : List Cond := .code yX6_paid cX6_paid 1 (some .int) :: ((wsX6_paid_r1 ++ wsX6_paid_r2) ++ wsX60)
def wsX6_isOverNow_r1 : List Cond := [Cond.fieldLink RX6 60 "BarrierbookModel" "told" "I", Cond.fieldLink RX6 96 "BarrierbookModel" "isOver" "Z", Cond.methodLink RX6 103 yX6_runs, Cond.instanceMethod yX6_runs, Cond.selects RX6 yX6_runs yX6_runs, Cond.initialized RX6, Cond.code yX6_runs cX6_runs 3 none, Cond.fieldLink RX6 42 "BarrierbookModel" "prices" "[I", Cond.fieldLink RX6 7 "BarrierbookModel" "firsts" "[I", Cond.fieldLink RX6 93 "BarrierbookModel" "missed" "I", Cond.fieldLink RX6 87 "BarrierbookModel" "isKnocked" "Z", Cond.fieldLink RX6 80 "BarrierbookModel" "done" "I", Cond.fieldLink RX6 90 "BarrierbookModel" "paid" "I", Cond.fieldLink RX6 38 "BarrierbookModel" "moves" "[Z", Cond.methodLink RX6 99 yX6_period, Cond.instanceMethod yX6_period, Cond.selects RX6 yX6_period yX6_period, Cond.code yX6_period cX6_period 4 none, Cond.fieldLink RX6 63 "BarrierbookModel" "isAgainst" "Z", Cond.fieldLink RX6 23 "BarrierbookModel" "periods" "I", Cond.fieldLink RX6 26 "BarrierbookModel" "barrier" "I", Cond.fieldLink RX6 67 "BarrierbookModel" "isAtEnd" "Z", Cond.fieldLink RX6 29 "BarrierbookModel" "couponLevel" "I", Cond.fieldLink RX6 35 "BarrierbookModel" "coupon" "I"]
def wsX6_isOverNow_r2 : List Cond := [Cond.fieldLink RX6 70 "BarrierbookModel" "remembers" "Z", Cond.fieldLink RX6 32 "BarrierbookModel" "callLevel" "I", Cond.methodLink RX6 77 yX6_moves, Cond.instanceMethod yX6_moves, Cond.selects RX6 yX6_moves yX6_moves, Cond.code yX6_moves cX6_moves 4 none, Cond.fieldLink RX6 13 "BarrierbookModel" "rises" "[I", Cond.fieldLink RX6 16 "BarrierbookModel" "falls" "[I", Cond.methodLink RX6 83 yX6_worstNow, Cond.instanceMethod yX6_worstNow, Cond.selects RX6 yX6_worstNow yX6_worstNow, Cond.code yX6_worstNow cX6_worstNow 1 (some .int), Cond.methodLink RX6 73 yX6_level, Cond.instanceMethod yX6_level, Cond.selects RX6 yX6_level yX6_level, Cond.code yX6_level cX6_level 2 (some .int)]
def wsX6_isOverNow : List Cond := .code yX6_isOverNow cX6_isOverNow 1 (some .boolean) :: ((wsX6_isOverNow_r1 ++ wsX6_isOverNow_r2) ++ wsX60)
def wsX6_isOver_r1 : List Cond := [Cond.fieldLink RX6 49 "BarrierbookModel" "thrown" "I", Cond.methodLink RX6 110 yX6_isOverNow, Cond.instanceMethod yX6_isOverNow, Cond.selects RX6 yX6_isOverNow yX6_isOverNow, Cond.initialized RX6, Cond.code yX6_isOverNow cX6_isOverNow 1 (some .boolean), Cond.fieldLink RX6 60 "BarrierbookModel" "told" "I", Cond.fieldLink RX6 96 "BarrierbookModel" "isOver" "Z", Cond.methodLink RX6 103 yX6_runs, Cond.instanceMethod yX6_runs, Cond.selects RX6 yX6_runs yX6_runs, Cond.code yX6_runs cX6_runs 3 none, Cond.fieldLink RX6 42 "BarrierbookModel" "prices" "[I", Cond.fieldLink RX6 7 "BarrierbookModel" "firsts" "[I", Cond.fieldLink RX6 93 "BarrierbookModel" "missed" "I", Cond.fieldLink RX6 87 "BarrierbookModel" "isKnocked" "Z", Cond.fieldLink RX6 80 "BarrierbookModel" "done" "I", Cond.fieldLink RX6 90 "BarrierbookModel" "paid" "I", Cond.fieldLink RX6 38 "BarrierbookModel" "moves" "[Z", Cond.methodLink RX6 99 yX6_period, Cond.instanceMethod yX6_period, Cond.selects RX6 yX6_period yX6_period, Cond.code yX6_period cX6_period 4 none, Cond.fieldLink RX6 63 "BarrierbookModel" "isAgainst" "Z"]
def wsX6_isOver_r2 : List Cond := [Cond.fieldLink RX6 23 "BarrierbookModel" "periods" "I", Cond.fieldLink RX6 26 "BarrierbookModel" "barrier" "I", Cond.fieldLink RX6 67 "BarrierbookModel" "isAtEnd" "Z", Cond.fieldLink RX6 29 "BarrierbookModel" "couponLevel" "I", Cond.fieldLink RX6 35 "BarrierbookModel" "coupon" "I", Cond.fieldLink RX6 70 "BarrierbookModel" "remembers" "Z", Cond.fieldLink RX6 32 "BarrierbookModel" "callLevel" "I", Cond.methodLink RX6 77 yX6_moves, Cond.instanceMethod yX6_moves, Cond.selects RX6 yX6_moves yX6_moves, Cond.code yX6_moves cX6_moves 4 none, Cond.fieldLink RX6 13 "BarrierbookModel" "rises" "[I", Cond.fieldLink RX6 16 "BarrierbookModel" "falls" "[I", Cond.methodLink RX6 83 yX6_worstNow, Cond.instanceMethod yX6_worstNow, Cond.selects RX6 yX6_worstNow yX6_worstNow, Cond.code yX6_worstNow cX6_worstNow 1 (some .int), Cond.methodLink RX6 73 yX6_level, Cond.instanceMethod yX6_level, Cond.selects RX6 yX6_level yX6_level, Cond.code yX6_level cX6_level 2 (some .int)]
def wsX6_isOver : List Cond := .code yX6_isOver cX6_isOver 1 (some .boolean) :: ((wsX6_isOver_r1 ++ wsX6_isOver_r2) ++ wsX60)
def wsX6_rows_r1 : List Cond := [Cond.fieldLink RX6 23 "BarrierbookModel" "periods" "I", Cond.fieldLink RX6 60 "BarrierbookModel" "told" "I", Cond.methodLink RX6 110 yX6_isOverNow, Cond.instanceMethod yX6_isOverNow, Cond.selects RX6 yX6_isOverNow yX6_isOverNow, Cond.initialized RX6, Cond.code yX6_isOverNow cX6_isOverNow 1 (some .boolean), Cond.fieldLink RX6 96 "BarrierbookModel" "isOver" "Z", Cond.methodLink RX6 103 yX6_runs, Cond.instanceMethod yX6_runs, Cond.selects RX6 yX6_runs yX6_runs, Cond.code yX6_runs cX6_runs 3 none, Cond.fieldLink RX6 42 "BarrierbookModel" "prices" "[I", Cond.fieldLink RX6 7 "BarrierbookModel" "firsts" "[I", Cond.fieldLink RX6 93 "BarrierbookModel" "missed" "I", Cond.fieldLink RX6 87 "BarrierbookModel" "isKnocked" "Z", Cond.fieldLink RX6 80 "BarrierbookModel" "done" "I", Cond.fieldLink RX6 90 "BarrierbookModel" "paid" "I", Cond.fieldLink RX6 38 "BarrierbookModel" "moves" "[Z", Cond.methodLink RX6 99 yX6_period, Cond.instanceMethod yX6_period, Cond.selects RX6 yX6_period yX6_period, Cond.code yX6_period cX6_period 4 none, Cond.fieldLink RX6 63 "BarrierbookModel" "isAgainst" "Z"]
def wsX6_rows_r2 : List Cond := [Cond.fieldLink RX6 26 "BarrierbookModel" "barrier" "I", Cond.fieldLink RX6 67 "BarrierbookModel" "isAtEnd" "Z", Cond.fieldLink RX6 29 "BarrierbookModel" "couponLevel" "I", Cond.fieldLink RX6 35 "BarrierbookModel" "coupon" "I", Cond.fieldLink RX6 70 "BarrierbookModel" "remembers" "Z", Cond.fieldLink RX6 32 "BarrierbookModel" "callLevel" "I", Cond.methodLink RX6 77 yX6_moves, Cond.instanceMethod yX6_moves, Cond.selects RX6 yX6_moves yX6_moves, Cond.code yX6_moves cX6_moves 4 none, Cond.fieldLink RX6 13 "BarrierbookModel" "rises" "[I", Cond.fieldLink RX6 16 "BarrierbookModel" "falls" "[I", Cond.methodLink RX6 83 yX6_worstNow, Cond.instanceMethod yX6_worstNow, Cond.selects RX6 yX6_worstNow yX6_worstNow, Cond.code yX6_worstNow cX6_worstNow 1 (some .int), Cond.methodLink RX6 73 yX6_level, Cond.instanceMethod yX6_level, Cond.selects RX6 yX6_level yX6_level, Cond.code yX6_level cX6_level 2 (some .int)]
def wsX6_rows : List Cond := .code yX6_rows cX6_rows 1 (some .int) :: ((wsX6_rows_r1 ++ wsX6_rows_r2) ++ wsX60)
def wsX6_weight_r1 : List Cond := [Cond.fieldLink RX6 60 "BarrierbookModel" "told" "I", Cond.fieldLink RX6 23 "BarrierbookModel" "periods" "I", Cond.fieldLink RX6 38 "BarrierbookModel" "moves" "[Z", Cond.fieldLink RX6 19 "BarrierbookModel" "chance" "I", Cond.methodLink RX6 103 yX6_runs, Cond.instanceMethod yX6_runs, Cond.selects RX6 yX6_runs yX6_runs, Cond.initialized RX6, Cond.code yX6_runs cX6_runs 3 none, Cond.fieldLink RX6 42 "BarrierbookModel" "prices" "[I", Cond.fieldLink RX6 7 "BarrierbookModel" "firsts" "[I", Cond.fieldLink RX6 93 "BarrierbookModel" "missed" "I", Cond.fieldLink RX6 87 "BarrierbookModel" "isKnocked" "Z", Cond.fieldLink RX6 96 "BarrierbookModel" "isOver" "Z", Cond.fieldLink RX6 80 "BarrierbookModel" "done" "I", Cond.fieldLink RX6 90 "BarrierbookModel" "paid" "I", Cond.methodLink RX6 99 yX6_period, Cond.instanceMethod yX6_period, Cond.selects RX6 yX6_period yX6_period, Cond.code yX6_period cX6_period 4 none, Cond.fieldLink RX6 63 "BarrierbookModel" "isAgainst" "Z", Cond.fieldLink RX6 26 "BarrierbookModel" "barrier" "I", Cond.fieldLink RX6 67 "BarrierbookModel" "isAtEnd" "Z", Cond.fieldLink RX6 29 "BarrierbookModel" "couponLevel" "I"]
def wsX6_weight_r2 : List Cond := [Cond.fieldLink RX6 35 "BarrierbookModel" "coupon" "I", Cond.fieldLink RX6 70 "BarrierbookModel" "remembers" "Z", Cond.fieldLink RX6 32 "BarrierbookModel" "callLevel" "I", Cond.methodLink RX6 77 yX6_moves, Cond.instanceMethod yX6_moves, Cond.selects RX6 yX6_moves yX6_moves, Cond.code yX6_moves cX6_moves 4 none, Cond.fieldLink RX6 13 "BarrierbookModel" "rises" "[I", Cond.fieldLink RX6 16 "BarrierbookModel" "falls" "[I", Cond.methodLink RX6 83 yX6_worstNow, Cond.instanceMethod yX6_worstNow, Cond.selects RX6 yX6_worstNow yX6_worstNow, Cond.code yX6_worstNow cX6_worstNow 1 (some .int), Cond.methodLink RX6 73 yX6_level, Cond.instanceMethod yX6_level, Cond.selects RX6 yX6_level yX6_level, Cond.code yX6_level cX6_level 2 (some .int)]
def wsX6_weight : List Cond := .code yX6_weight cX6_weight 5 (some .long) :: ((wsX6_weight_r1 ++ wsX6_weight_r2) ++ wsX60)
def wsX6_sum_r1 : List Cond := [Cond.fieldLink RX6 60 "BarrierbookModel" "told" "I", Cond.fieldLink RX6 90 "BarrierbookModel" "paid" "I", Cond.methodLink RX6 107 yX6_paidBy, Cond.instanceMethod yX6_paidBy, Cond.selects RX6 yX6_paidBy yX6_paidBy, Cond.initialized RX6, Cond.code yX6_paidBy cX6_paidBy 2 (some .int), Cond.methodLink RX6 103 yX6_runs, Cond.instanceMethod yX6_runs, Cond.selects RX6 yX6_runs yX6_runs, Cond.code yX6_runs cX6_runs 3 none, Cond.fieldLink RX6 42 "BarrierbookModel" "prices" "[I", Cond.fieldLink RX6 7 "BarrierbookModel" "firsts" "[I", Cond.fieldLink RX6 93 "BarrierbookModel" "missed" "I", Cond.fieldLink RX6 87 "BarrierbookModel" "isKnocked" "Z", Cond.fieldLink RX6 96 "BarrierbookModel" "isOver" "Z", Cond.fieldLink RX6 80 "BarrierbookModel" "done" "I", Cond.fieldLink RX6 38 "BarrierbookModel" "moves" "[Z", Cond.methodLink RX6 99 yX6_period, Cond.instanceMethod yX6_period, Cond.selects RX6 yX6_period yX6_period, Cond.code yX6_period cX6_period 4 none, Cond.fieldLink RX6 63 "BarrierbookModel" "isAgainst" "Z", Cond.fieldLink RX6 23 "BarrierbookModel" "periods" "I"]
def wsX6_sum_r2 : List Cond := [Cond.fieldLink RX6 26 "BarrierbookModel" "barrier" "I", Cond.fieldLink RX6 67 "BarrierbookModel" "isAtEnd" "Z", Cond.fieldLink RX6 29 "BarrierbookModel" "couponLevel" "I", Cond.fieldLink RX6 35 "BarrierbookModel" "coupon" "I", Cond.fieldLink RX6 70 "BarrierbookModel" "remembers" "Z", Cond.fieldLink RX6 32 "BarrierbookModel" "callLevel" "I", Cond.methodLink RX6 77 yX6_moves, Cond.instanceMethod yX6_moves, Cond.selects RX6 yX6_moves yX6_moves, Cond.code yX6_moves cX6_moves 4 none, Cond.fieldLink RX6 13 "BarrierbookModel" "rises" "[I", Cond.fieldLink RX6 16 "BarrierbookModel" "falls" "[I", Cond.methodLink RX6 83 yX6_worstNow, Cond.instanceMethod yX6_worstNow, Cond.selects RX6 yX6_worstNow yX6_worstNow, Cond.code yX6_worstNow cX6_worstNow 1 (some .int), Cond.methodLink RX6 73 yX6_level, Cond.instanceMethod yX6_level, Cond.selects RX6 yX6_level yX6_level, Cond.code yX6_level cX6_level 2 (some .int), Cond.methodLink RX6 114 yX6_rows, Cond.instanceMethod yX6_rows, Cond.selects RX6 yX6_rows yX6_rows, Cond.code yX6_rows cX6_rows 1 (some .int)]
def wsX6_sum_r3 : List Cond := [Cond.methodLink RX6 110 yX6_isOverNow, Cond.instanceMethod yX6_isOverNow, Cond.selects RX6 yX6_isOverNow yX6_isOverNow, Cond.code yX6_isOverNow cX6_isOverNow 1 (some .boolean), Cond.methodLink RX6 117 yX6_weight, Cond.instanceMethod yX6_weight, Cond.selects RX6 yX6_weight yX6_weight, Cond.code yX6_weight cX6_weight 5 (some .long), Cond.fieldLink RX6 19 "BarrierbookModel" "chance" "I"]
def wsX6_sum : List Cond := .code yX6_sum cX6_sum 5 (some .long) :: ((wsX6_sum_r1 ++ (wsX6_sum_r2 ++ wsX6_sum_r3)) ++ wsX60)
def wsX6_worth_r1 : List Cond := [Cond.fieldLink RX6 49 "BarrierbookModel" "thrown" "I", Cond.methodLink RX6 110 yX6_isOverNow, Cond.instanceMethod yX6_isOverNow, Cond.selects RX6 yX6_isOverNow yX6_isOverNow, Cond.initialized RX6, Cond.code yX6_isOverNow cX6_isOverNow 1 (some .boolean), Cond.fieldLink RX6 60 "BarrierbookModel" "told" "I", Cond.fieldLink RX6 96 "BarrierbookModel" "isOver" "Z", Cond.methodLink RX6 103 yX6_runs, Cond.instanceMethod yX6_runs, Cond.selects RX6 yX6_runs yX6_runs, Cond.code yX6_runs cX6_runs 3 none, Cond.fieldLink RX6 42 "BarrierbookModel" "prices" "[I", Cond.fieldLink RX6 7 "BarrierbookModel" "firsts" "[I", Cond.fieldLink RX6 93 "BarrierbookModel" "missed" "I", Cond.fieldLink RX6 87 "BarrierbookModel" "isKnocked" "Z", Cond.fieldLink RX6 80 "BarrierbookModel" "done" "I", Cond.fieldLink RX6 90 "BarrierbookModel" "paid" "I", Cond.fieldLink RX6 38 "BarrierbookModel" "moves" "[Z", Cond.methodLink RX6 99 yX6_period, Cond.instanceMethod yX6_period, Cond.selects RX6 yX6_period yX6_period, Cond.code yX6_period cX6_period 4 none, Cond.fieldLink RX6 63 "BarrierbookModel" "isAgainst" "Z"]
def wsX6_worth_r2 : List Cond := [Cond.fieldLink RX6 23 "BarrierbookModel" "periods" "I", Cond.fieldLink RX6 26 "BarrierbookModel" "barrier" "I", Cond.fieldLink RX6 67 "BarrierbookModel" "isAtEnd" "Z", Cond.fieldLink RX6 29 "BarrierbookModel" "couponLevel" "I", Cond.fieldLink RX6 35 "BarrierbookModel" "coupon" "I", Cond.fieldLink RX6 70 "BarrierbookModel" "remembers" "Z", Cond.fieldLink RX6 32 "BarrierbookModel" "callLevel" "I", Cond.methodLink RX6 77 yX6_moves, Cond.instanceMethod yX6_moves, Cond.selects RX6 yX6_moves yX6_moves, Cond.code yX6_moves cX6_moves 4 none, Cond.fieldLink RX6 13 "BarrierbookModel" "rises" "[I", Cond.fieldLink RX6 16 "BarrierbookModel" "falls" "[I", Cond.methodLink RX6 83 yX6_worstNow, Cond.instanceMethod yX6_worstNow, Cond.selects RX6 yX6_worstNow yX6_worstNow, Cond.code yX6_worstNow cX6_worstNow 1 (some .int), Cond.methodLink RX6 73 yX6_level, Cond.instanceMethod yX6_level, Cond.selects RX6 yX6_level yX6_level, Cond.code yX6_level cX6_level 2 (some .int), Cond.methodLink RX6 121 yX6_sum, Cond.instanceMethod yX6_sum, Cond.selects RX6 yX6_sum yX6_sum]
def wsX6_worth_r3 : List Cond := [Cond.code yX6_sum cX6_sum 5 (some .long), Cond.methodLink RX6 107 yX6_paidBy, Cond.instanceMethod yX6_paidBy, Cond.selects RX6 yX6_paidBy yX6_paidBy, Cond.code yX6_paidBy cX6_paidBy 2 (some .int), Cond.methodLink RX6 114 yX6_rows, Cond.instanceMethod yX6_rows, Cond.selects RX6 yX6_rows yX6_rows, Cond.code yX6_rows cX6_rows 1 (some .int), Cond.methodLink RX6 117 yX6_weight, Cond.instanceMethod yX6_weight, Cond.selects RX6 yX6_weight yX6_weight, Cond.code yX6_weight cX6_weight 5 (some .long), Cond.fieldLink RX6 19 "BarrierbookModel" "chance" "I"]
def wsX6_worth : List Cond := .code yX6_worth cX6_worth 1 (some .long) :: ((wsX6_worth_r1 ++ (wsX6_worth_r2 ++ wsX6_worth_r3)) ++ wsX60)
def wsX6_worthByPaths_r1 : List Cond := [Cond.fieldLink RX6 49 "BarrierbookModel" "thrown" "I", Cond.methodLink RX6 110 yX6_isOverNow, Cond.instanceMethod yX6_isOverNow, Cond.selects RX6 yX6_isOverNow yX6_isOverNow, Cond.initialized RX6, Cond.code yX6_isOverNow cX6_isOverNow 1 (some .boolean), Cond.fieldLink RX6 60 "BarrierbookModel" "told" "I", Cond.fieldLink RX6 96 "BarrierbookModel" "isOver" "Z", Cond.methodLink RX6 103 yX6_runs, Cond.instanceMethod yX6_runs, Cond.selects RX6 yX6_runs yX6_runs, Cond.code yX6_runs cX6_runs 3 none, Cond.fieldLink RX6 42 "BarrierbookModel" "prices" "[I", Cond.fieldLink RX6 7 "BarrierbookModel" "firsts" "[I", Cond.fieldLink RX6 93 "BarrierbookModel" "missed" "I", Cond.fieldLink RX6 87 "BarrierbookModel" "isKnocked" "Z", Cond.fieldLink RX6 80 "BarrierbookModel" "done" "I", Cond.fieldLink RX6 90 "BarrierbookModel" "paid" "I", Cond.fieldLink RX6 38 "BarrierbookModel" "moves" "[Z", Cond.methodLink RX6 99 yX6_period, Cond.instanceMethod yX6_period, Cond.selects RX6 yX6_period yX6_period, Cond.code yX6_period cX6_period 4 none, Cond.fieldLink RX6 63 "BarrierbookModel" "isAgainst" "Z"]
def wsX6_worthByPaths_r2 : List Cond := [Cond.fieldLink RX6 23 "BarrierbookModel" "periods" "I", Cond.fieldLink RX6 26 "BarrierbookModel" "barrier" "I", Cond.fieldLink RX6 67 "BarrierbookModel" "isAtEnd" "Z", Cond.fieldLink RX6 29 "BarrierbookModel" "couponLevel" "I", Cond.fieldLink RX6 35 "BarrierbookModel" "coupon" "I", Cond.fieldLink RX6 70 "BarrierbookModel" "remembers" "Z", Cond.fieldLink RX6 32 "BarrierbookModel" "callLevel" "I", Cond.methodLink RX6 77 yX6_moves, Cond.instanceMethod yX6_moves, Cond.selects RX6 yX6_moves yX6_moves, Cond.code yX6_moves cX6_moves 4 none, Cond.fieldLink RX6 13 "BarrierbookModel" "rises" "[I", Cond.fieldLink RX6 16 "BarrierbookModel" "falls" "[I", Cond.methodLink RX6 83 yX6_worstNow, Cond.instanceMethod yX6_worstNow, Cond.selects RX6 yX6_worstNow yX6_worstNow, Cond.code yX6_worstNow cX6_worstNow 1 (some .int), Cond.methodLink RX6 73 yX6_level, Cond.instanceMethod yX6_level, Cond.selects RX6 yX6_level yX6_level, Cond.code yX6_level cX6_level 2 (some .int), Cond.methodLink RX6 121 yX6_sum, Cond.instanceMethod yX6_sum, Cond.selects RX6 yX6_sum yX6_sum]
def wsX6_worthByPaths_r3 : List Cond := [Cond.code yX6_sum cX6_sum 5 (some .long), Cond.methodLink RX6 107 yX6_paidBy, Cond.instanceMethod yX6_paidBy, Cond.selects RX6 yX6_paidBy yX6_paidBy, Cond.code yX6_paidBy cX6_paidBy 2 (some .int), Cond.methodLink RX6 114 yX6_rows, Cond.instanceMethod yX6_rows, Cond.selects RX6 yX6_rows yX6_rows, Cond.code yX6_rows cX6_rows 1 (some .int), Cond.methodLink RX6 117 yX6_weight, Cond.instanceMethod yX6_weight, Cond.selects RX6 yX6_weight yX6_weight, Cond.code yX6_weight cX6_weight 5 (some .long), Cond.fieldLink RX6 19 "BarrierbookModel" "chance" "I"]
def wsX6_worthByPaths : List Cond := .code yX6_worthByPaths cX6_worthByPaths 1 (some .long) :: ((wsX6_worthByPaths_r1 ++ (wsX6_worthByPaths_r2 ++ wsX6_worthByPaths_r3)) ++ wsX60)
def wsX6_divisor_r1 : List Cond := [Cond.fieldLink RX6 49 "BarrierbookModel" "thrown" "I", Cond.fieldLink RX6 60 "BarrierbookModel" "told" "I", Cond.fieldLink RX6 23 "BarrierbookModel" "periods" "I", Cond.constantLong RX6 125 (10), Cond.methodLink RX6 110 yX6_isOverNow, Cond.instanceMethod yX6_isOverNow, Cond.selects RX6 yX6_isOverNow yX6_isOverNow, Cond.initialized RX6, Cond.code yX6_isOverNow cX6_isOverNow 1 (some .boolean), Cond.fieldLink RX6 96 "BarrierbookModel" "isOver" "Z", Cond.methodLink RX6 103 yX6_runs, Cond.instanceMethod yX6_runs, Cond.selects RX6 yX6_runs yX6_runs, Cond.code yX6_runs cX6_runs 3 none, Cond.fieldLink RX6 42 "BarrierbookModel" "prices" "[I", Cond.fieldLink RX6 7 "BarrierbookModel" "firsts" "[I", Cond.fieldLink RX6 93 "BarrierbookModel" "missed" "I", Cond.fieldLink RX6 87 "BarrierbookModel" "isKnocked" "Z", Cond.fieldLink RX6 80 "BarrierbookModel" "done" "I", Cond.fieldLink RX6 90 "BarrierbookModel" "paid" "I", Cond.fieldLink RX6 38 "BarrierbookModel" "moves" "[Z", Cond.methodLink RX6 99 yX6_period, Cond.instanceMethod yX6_period, Cond.selects RX6 yX6_period yX6_period]
def wsX6_divisor_r2 : List Cond := [Cond.code yX6_period cX6_period 4 none, Cond.fieldLink RX6 63 "BarrierbookModel" "isAgainst" "Z", Cond.fieldLink RX6 26 "BarrierbookModel" "barrier" "I", Cond.fieldLink RX6 67 "BarrierbookModel" "isAtEnd" "Z", Cond.fieldLink RX6 29 "BarrierbookModel" "couponLevel" "I", Cond.fieldLink RX6 35 "BarrierbookModel" "coupon" "I", Cond.fieldLink RX6 70 "BarrierbookModel" "remembers" "Z", Cond.fieldLink RX6 32 "BarrierbookModel" "callLevel" "I", Cond.methodLink RX6 77 yX6_moves, Cond.instanceMethod yX6_moves, Cond.selects RX6 yX6_moves yX6_moves, Cond.code yX6_moves cX6_moves 4 none, Cond.fieldLink RX6 13 "BarrierbookModel" "rises" "[I", Cond.fieldLink RX6 16 "BarrierbookModel" "falls" "[I", Cond.methodLink RX6 83 yX6_worstNow, Cond.instanceMethod yX6_worstNow, Cond.selects RX6 yX6_worstNow yX6_worstNow, Cond.code yX6_worstNow cX6_worstNow 1 (some .int), Cond.methodLink RX6 73 yX6_level, Cond.instanceMethod yX6_level, Cond.selects RX6 yX6_level yX6_level, Cond.code yX6_level cX6_level 2 (some .int)]
def wsX6_divisor : List Cond := .code yX6_divisor cX6_divisor 4 (some .long) :: ((wsX6_divisor_r1 ++ wsX6_divisor_r2) ++ wsX60)
def wsX6_states_r1 : List Cond := [Cond.fieldLink RX6 49 "BarrierbookModel" "thrown" "I", Cond.fieldLink RX6 42 "BarrierbookModel" "prices" "[I", Cond.fieldLink RX6 93 "BarrierbookModel" "missed" "I", Cond.fieldLink RX6 87 "BarrierbookModel" "isKnocked" "Z", Cond.fieldLink RX6 80 "BarrierbookModel" "done" "I", Cond.fieldLink RX6 23 "BarrierbookModel" "periods" "I", Cond.fieldLink RX6 45 "BarrierbookModel" "seen" "[J", Cond.methodLink RX6 110 yX6_isOverNow, Cond.instanceMethod yX6_isOverNow, Cond.selects RX6 yX6_isOverNow yX6_isOverNow, Cond.initialized RX6, Cond.code yX6_isOverNow cX6_isOverNow 1 (some .boolean), Cond.fieldLink RX6 60 "BarrierbookModel" "told" "I", Cond.fieldLink RX6 96 "BarrierbookModel" "isOver" "Z", Cond.methodLink RX6 103 yX6_runs, Cond.instanceMethod yX6_runs, Cond.selects RX6 yX6_runs yX6_runs, Cond.code yX6_runs cX6_runs 3 none, Cond.fieldLink RX6 7 "BarrierbookModel" "firsts" "[I", Cond.fieldLink RX6 90 "BarrierbookModel" "paid" "I", Cond.fieldLink RX6 38 "BarrierbookModel" "moves" "[Z", Cond.methodLink RX6 99 yX6_period, Cond.instanceMethod yX6_period, Cond.selects RX6 yX6_period yX6_period]
def wsX6_states_r2 : List Cond := [Cond.code yX6_period cX6_period 4 none, Cond.fieldLink RX6 63 "BarrierbookModel" "isAgainst" "Z", Cond.fieldLink RX6 26 "BarrierbookModel" "barrier" "I", Cond.fieldLink RX6 67 "BarrierbookModel" "isAtEnd" "Z", Cond.fieldLink RX6 29 "BarrierbookModel" "couponLevel" "I", Cond.fieldLink RX6 35 "BarrierbookModel" "coupon" "I", Cond.fieldLink RX6 70 "BarrierbookModel" "remembers" "Z", Cond.fieldLink RX6 32 "BarrierbookModel" "callLevel" "I", Cond.methodLink RX6 77 yX6_moves, Cond.instanceMethod yX6_moves, Cond.selects RX6 yX6_moves yX6_moves, Cond.code yX6_moves cX6_moves 4 none, Cond.fieldLink RX6 13 "BarrierbookModel" "rises" "[I", Cond.fieldLink RX6 16 "BarrierbookModel" "falls" "[I", Cond.methodLink RX6 83 yX6_worstNow, Cond.instanceMethod yX6_worstNow, Cond.selects RX6 yX6_worstNow yX6_worstNow, Cond.code yX6_worstNow cX6_worstNow 1 (some .int), Cond.methodLink RX6 73 yX6_level, Cond.instanceMethod yX6_level, Cond.selects RX6 yX6_level yX6_level, Cond.code yX6_level cX6_level 2 (some .int), Cond.methodLink RX6 114 yX6_rows, Cond.instanceMethod yX6_rows]
def wsX6_states_r3 : List Cond := [Cond.selects RX6 yX6_rows yX6_rows, Cond.code yX6_rows cX6_rows 1 (some .int), Cond.methodLink RX6 117 yX6_weight, Cond.instanceMethod yX6_weight, Cond.selects RX6 yX6_weight yX6_weight, Cond.code yX6_weight cX6_weight 5 (some .long), Cond.fieldLink RX6 19 "BarrierbookModel" "chance" "I"]
def wsX6_states : List Cond := .code yX6_states cX6_states 7 (some .int) :: ((wsX6_states_r1 ++ (wsX6_states_r2 ++ wsX6_states_r3)) ++ wsX60)
def wsX6_extreme_r1 : List Cond := [Cond.fieldLink RX6 60 "BarrierbookModel" "told" "I", Cond.fieldLink RX6 90 "BarrierbookModel" "paid" "I", Cond.methodLink RX6 107 yX6_paidBy, Cond.instanceMethod yX6_paidBy, Cond.selects RX6 yX6_paidBy yX6_paidBy, Cond.initialized RX6, Cond.code yX6_paidBy cX6_paidBy 2 (some .int), Cond.methodLink RX6 103 yX6_runs, Cond.instanceMethod yX6_runs, Cond.selects RX6 yX6_runs yX6_runs, Cond.code yX6_runs cX6_runs 3 none, Cond.fieldLink RX6 42 "BarrierbookModel" "prices" "[I", Cond.fieldLink RX6 7 "BarrierbookModel" "firsts" "[I", Cond.fieldLink RX6 93 "BarrierbookModel" "missed" "I", Cond.fieldLink RX6 87 "BarrierbookModel" "isKnocked" "Z", Cond.fieldLink RX6 96 "BarrierbookModel" "isOver" "Z", Cond.fieldLink RX6 80 "BarrierbookModel" "done" "I", Cond.fieldLink RX6 38 "BarrierbookModel" "moves" "[Z", Cond.methodLink RX6 99 yX6_period, Cond.instanceMethod yX6_period, Cond.selects RX6 yX6_period yX6_period, Cond.code yX6_period cX6_period 4 none, Cond.fieldLink RX6 63 "BarrierbookModel" "isAgainst" "Z", Cond.fieldLink RX6 23 "BarrierbookModel" "periods" "I"]
def wsX6_extreme_r2 : List Cond := [Cond.fieldLink RX6 26 "BarrierbookModel" "barrier" "I", Cond.fieldLink RX6 67 "BarrierbookModel" "isAtEnd" "Z", Cond.fieldLink RX6 29 "BarrierbookModel" "couponLevel" "I", Cond.fieldLink RX6 35 "BarrierbookModel" "coupon" "I", Cond.fieldLink RX6 70 "BarrierbookModel" "remembers" "Z", Cond.fieldLink RX6 32 "BarrierbookModel" "callLevel" "I", Cond.methodLink RX6 77 yX6_moves, Cond.instanceMethod yX6_moves, Cond.selects RX6 yX6_moves yX6_moves, Cond.code yX6_moves cX6_moves 4 none, Cond.fieldLink RX6 13 "BarrierbookModel" "rises" "[I", Cond.fieldLink RX6 16 "BarrierbookModel" "falls" "[I", Cond.methodLink RX6 83 yX6_worstNow, Cond.instanceMethod yX6_worstNow, Cond.selects RX6 yX6_worstNow yX6_worstNow, Cond.code yX6_worstNow cX6_worstNow 1 (some .int), Cond.methodLink RX6 73 yX6_level, Cond.instanceMethod yX6_level, Cond.selects RX6 yX6_level yX6_level, Cond.code yX6_level cX6_level 2 (some .int), Cond.methodLink RX6 114 yX6_rows, Cond.instanceMethod yX6_rows, Cond.selects RX6 yX6_rows yX6_rows, Cond.code yX6_rows cX6_rows 1 (some .int)]
def wsX6_extreme_r3 : List Cond := [Cond.methodLink RX6 110 yX6_isOverNow, Cond.instanceMethod yX6_isOverNow, Cond.selects RX6 yX6_isOverNow yX6_isOverNow, Cond.code yX6_isOverNow cX6_isOverNow 1 (some .boolean), Cond.methodLink RX6 117 yX6_weight, Cond.instanceMethod yX6_weight, Cond.selects RX6 yX6_weight yX6_weight, Cond.code yX6_weight cX6_weight 5 (some .long), Cond.fieldLink RX6 19 "BarrierbookModel" "chance" "I"]
def wsX6_extreme : List Cond := .code yX6_extreme cX6_extreme 6 (some .int) :: ((wsX6_extreme_r1 ++ (wsX6_extreme_r2 ++ wsX6_extreme_r3)) ++ wsX60)
def wsX6_least_r1 : List Cond := [Cond.fieldLink RX6 49 "BarrierbookModel" "thrown" "I", Cond.methodLink RX6 110 yX6_isOverNow, Cond.instanceMethod yX6_isOverNow, Cond.selects RX6 yX6_isOverNow yX6_isOverNow, Cond.initialized RX6, Cond.code yX6_isOverNow cX6_isOverNow 1 (some .boolean), Cond.fieldLink RX6 60 "BarrierbookModel" "told" "I", Cond.fieldLink RX6 96 "BarrierbookModel" "isOver" "Z", Cond.methodLink RX6 103 yX6_runs, Cond.instanceMethod yX6_runs, Cond.selects RX6 yX6_runs yX6_runs, Cond.code yX6_runs cX6_runs 3 none, Cond.fieldLink RX6 42 "BarrierbookModel" "prices" "[I", Cond.fieldLink RX6 7 "BarrierbookModel" "firsts" "[I", Cond.fieldLink RX6 93 "BarrierbookModel" "missed" "I", Cond.fieldLink RX6 87 "BarrierbookModel" "isKnocked" "Z", Cond.fieldLink RX6 80 "BarrierbookModel" "done" "I", Cond.fieldLink RX6 90 "BarrierbookModel" "paid" "I", Cond.fieldLink RX6 38 "BarrierbookModel" "moves" "[Z", Cond.methodLink RX6 99 yX6_period, Cond.instanceMethod yX6_period, Cond.selects RX6 yX6_period yX6_period, Cond.code yX6_period cX6_period 4 none, Cond.fieldLink RX6 63 "BarrierbookModel" "isAgainst" "Z"]
def wsX6_least_r2 : List Cond := [Cond.fieldLink RX6 23 "BarrierbookModel" "periods" "I", Cond.fieldLink RX6 26 "BarrierbookModel" "barrier" "I", Cond.fieldLink RX6 67 "BarrierbookModel" "isAtEnd" "Z", Cond.fieldLink RX6 29 "BarrierbookModel" "couponLevel" "I", Cond.fieldLink RX6 35 "BarrierbookModel" "coupon" "I", Cond.fieldLink RX6 70 "BarrierbookModel" "remembers" "Z", Cond.fieldLink RX6 32 "BarrierbookModel" "callLevel" "I", Cond.methodLink RX6 77 yX6_moves, Cond.instanceMethod yX6_moves, Cond.selects RX6 yX6_moves yX6_moves, Cond.code yX6_moves cX6_moves 4 none, Cond.fieldLink RX6 13 "BarrierbookModel" "rises" "[I", Cond.fieldLink RX6 16 "BarrierbookModel" "falls" "[I", Cond.methodLink RX6 83 yX6_worstNow, Cond.instanceMethod yX6_worstNow, Cond.selects RX6 yX6_worstNow yX6_worstNow, Cond.code yX6_worstNow cX6_worstNow 1 (some .int), Cond.methodLink RX6 73 yX6_level, Cond.instanceMethod yX6_level, Cond.selects RX6 yX6_level yX6_level, Cond.code yX6_level cX6_level 2 (some .int), Cond.methodLink RX6 127 yX6_extreme, Cond.instanceMethod yX6_extreme, Cond.selects RX6 yX6_extreme yX6_extreme]
def wsX6_least_r3 : List Cond := [Cond.code yX6_extreme cX6_extreme 6 (some .int), Cond.methodLink RX6 107 yX6_paidBy, Cond.instanceMethod yX6_paidBy, Cond.selects RX6 yX6_paidBy yX6_paidBy, Cond.code yX6_paidBy cX6_paidBy 2 (some .int), Cond.methodLink RX6 114 yX6_rows, Cond.instanceMethod yX6_rows, Cond.selects RX6 yX6_rows yX6_rows, Cond.code yX6_rows cX6_rows 1 (some .int), Cond.methodLink RX6 117 yX6_weight, Cond.instanceMethod yX6_weight, Cond.selects RX6 yX6_weight yX6_weight, Cond.code yX6_weight cX6_weight 5 (some .long), Cond.fieldLink RX6 19 "BarrierbookModel" "chance" "I"]
def wsX6_least : List Cond := .code yX6_least cX6_least 1 (some .int) :: ((wsX6_least_r1 ++ (wsX6_least_r2 ++ wsX6_least_r3)) ++ wsX60)
def wsX6_most_r1 : List Cond := [Cond.fieldLink RX6 49 "BarrierbookModel" "thrown" "I", Cond.methodLink RX6 110 yX6_isOverNow, Cond.instanceMethod yX6_isOverNow, Cond.selects RX6 yX6_isOverNow yX6_isOverNow, Cond.initialized RX6, Cond.code yX6_isOverNow cX6_isOverNow 1 (some .boolean), Cond.fieldLink RX6 60 "BarrierbookModel" "told" "I", Cond.fieldLink RX6 96 "BarrierbookModel" "isOver" "Z", Cond.methodLink RX6 103 yX6_runs, Cond.instanceMethod yX6_runs, Cond.selects RX6 yX6_runs yX6_runs, Cond.code yX6_runs cX6_runs 3 none, Cond.fieldLink RX6 42 "BarrierbookModel" "prices" "[I", Cond.fieldLink RX6 7 "BarrierbookModel" "firsts" "[I", Cond.fieldLink RX6 93 "BarrierbookModel" "missed" "I", Cond.fieldLink RX6 87 "BarrierbookModel" "isKnocked" "Z", Cond.fieldLink RX6 80 "BarrierbookModel" "done" "I", Cond.fieldLink RX6 90 "BarrierbookModel" "paid" "I", Cond.fieldLink RX6 38 "BarrierbookModel" "moves" "[Z", Cond.methodLink RX6 99 yX6_period, Cond.instanceMethod yX6_period, Cond.selects RX6 yX6_period yX6_period, Cond.code yX6_period cX6_period 4 none, Cond.fieldLink RX6 63 "BarrierbookModel" "isAgainst" "Z"]
def wsX6_most_r2 : List Cond := [Cond.fieldLink RX6 23 "BarrierbookModel" "periods" "I", Cond.fieldLink RX6 26 "BarrierbookModel" "barrier" "I", Cond.fieldLink RX6 67 "BarrierbookModel" "isAtEnd" "Z", Cond.fieldLink RX6 29 "BarrierbookModel" "couponLevel" "I", Cond.fieldLink RX6 35 "BarrierbookModel" "coupon" "I", Cond.fieldLink RX6 70 "BarrierbookModel" "remembers" "Z", Cond.fieldLink RX6 32 "BarrierbookModel" "callLevel" "I", Cond.methodLink RX6 77 yX6_moves, Cond.instanceMethod yX6_moves, Cond.selects RX6 yX6_moves yX6_moves, Cond.code yX6_moves cX6_moves 4 none, Cond.fieldLink RX6 13 "BarrierbookModel" "rises" "[I", Cond.fieldLink RX6 16 "BarrierbookModel" "falls" "[I", Cond.methodLink RX6 83 yX6_worstNow, Cond.instanceMethod yX6_worstNow, Cond.selects RX6 yX6_worstNow yX6_worstNow, Cond.code yX6_worstNow cX6_worstNow 1 (some .int), Cond.methodLink RX6 73 yX6_level, Cond.instanceMethod yX6_level, Cond.selects RX6 yX6_level yX6_level, Cond.code yX6_level cX6_level 2 (some .int), Cond.methodLink RX6 127 yX6_extreme, Cond.instanceMethod yX6_extreme, Cond.selects RX6 yX6_extreme yX6_extreme]
def wsX6_most_r3 : List Cond := [Cond.code yX6_extreme cX6_extreme 6 (some .int), Cond.methodLink RX6 107 yX6_paidBy, Cond.instanceMethod yX6_paidBy, Cond.selects RX6 yX6_paidBy yX6_paidBy, Cond.code yX6_paidBy cX6_paidBy 2 (some .int), Cond.methodLink RX6 114 yX6_rows, Cond.instanceMethod yX6_rows, Cond.selects RX6 yX6_rows yX6_rows, Cond.code yX6_rows cX6_rows 1 (some .int), Cond.methodLink RX6 117 yX6_weight, Cond.instanceMethod yX6_weight, Cond.selects RX6 yX6_weight yX6_weight, Cond.code yX6_weight cX6_weight 5 (some .long), Cond.fieldLink RX6 19 "BarrierbookModel" "chance" "I"]
def wsX6_most : List Cond := .code yX6_most cX6_most 1 (some .int) :: ((wsX6_most_r1 ++ (wsX6_most_r2 ++ wsX6_most_r3)) ++ wsX60)
def wsX6_endsIn_r1 : List Cond := [Cond.fieldLink RX6 23 "BarrierbookModel" "periods" "I", Cond.fieldLink RX6 60 "BarrierbookModel" "told" "I", Cond.fieldLink RX6 80 "BarrierbookModel" "done" "I", Cond.methodLink RX6 52 yX6_isIn, Cond.static yX6_isIn, Cond.initialized RX6, Cond.code yX6_isIn cX6_isIn 3 (some .boolean), Cond.methodLink RX6 56 yX6_goes, Cond.instanceMethod yX6_goes, Cond.selects RX6 yX6_goes yX6_goes, Cond.code yX6_goes cX6_goes 2 (some .boolean), Cond.fieldLink RX6 49 "BarrierbookModel" "thrown" "I", Cond.methodLink RX6 114 yX6_rows, Cond.instanceMethod yX6_rows, Cond.selects RX6 yX6_rows yX6_rows, Cond.code yX6_rows cX6_rows 1 (some .int), Cond.methodLink RX6 110 yX6_isOverNow, Cond.instanceMethod yX6_isOverNow, Cond.selects RX6 yX6_isOverNow yX6_isOverNow, Cond.code yX6_isOverNow cX6_isOverNow 1 (some .boolean), Cond.fieldLink RX6 96 "BarrierbookModel" "isOver" "Z", Cond.methodLink RX6 103 yX6_runs, Cond.instanceMethod yX6_runs, Cond.selects RX6 yX6_runs yX6_runs]
def wsX6_endsIn_r2 : List Cond := [Cond.code yX6_runs cX6_runs 3 none, Cond.fieldLink RX6 42 "BarrierbookModel" "prices" "[I", Cond.fieldLink RX6 7 "BarrierbookModel" "firsts" "[I", Cond.fieldLink RX6 93 "BarrierbookModel" "missed" "I", Cond.fieldLink RX6 87 "BarrierbookModel" "isKnocked" "Z", Cond.fieldLink RX6 90 "BarrierbookModel" "paid" "I", Cond.fieldLink RX6 38 "BarrierbookModel" "moves" "[Z", Cond.methodLink RX6 99 yX6_period, Cond.instanceMethod yX6_period, Cond.selects RX6 yX6_period yX6_period, Cond.code yX6_period cX6_period 4 none, Cond.fieldLink RX6 63 "BarrierbookModel" "isAgainst" "Z", Cond.fieldLink RX6 26 "BarrierbookModel" "barrier" "I", Cond.fieldLink RX6 67 "BarrierbookModel" "isAtEnd" "Z", Cond.fieldLink RX6 29 "BarrierbookModel" "couponLevel" "I", Cond.fieldLink RX6 35 "BarrierbookModel" "coupon" "I", Cond.fieldLink RX6 70 "BarrierbookModel" "remembers" "Z", Cond.fieldLink RX6 32 "BarrierbookModel" "callLevel" "I", Cond.methodLink RX6 77 yX6_moves, Cond.instanceMethod yX6_moves, Cond.selects RX6 yX6_moves yX6_moves, Cond.code yX6_moves cX6_moves 4 none, Cond.fieldLink RX6 13 "BarrierbookModel" "rises" "[I", Cond.fieldLink RX6 16 "BarrierbookModel" "falls" "[I"]
def wsX6_endsIn_r3 : List Cond := [Cond.methodLink RX6 83 yX6_worstNow, Cond.instanceMethod yX6_worstNow, Cond.selects RX6 yX6_worstNow yX6_worstNow, Cond.code yX6_worstNow cX6_worstNow 1 (some .int), Cond.methodLink RX6 73 yX6_level, Cond.instanceMethod yX6_level, Cond.selects RX6 yX6_level yX6_level, Cond.code yX6_level cX6_level 2 (some .int), Cond.methodLink RX6 117 yX6_weight, Cond.instanceMethod yX6_weight, Cond.selects RX6 yX6_weight yX6_weight, Cond.code yX6_weight cX6_weight 5 (some .long), Cond.fieldLink RX6 19 "BarrierbookModel" "chance" "I"]
def wsX6_endsIn : List Cond := .code yX6_endsIn cX6_endsIn 7 (some .long) :: ((wsX6_endsIn_r1 ++ (wsX6_endsIn_r2 ++ wsX6_endsIn_r3)) ++ wsX60)
def wsX6_knocks_r1 : List Cond := [Cond.fieldLink RX6 49 "BarrierbookModel" "thrown" "I", Cond.fieldLink RX6 87 "BarrierbookModel" "isKnocked" "Z", Cond.methodLink RX6 110 yX6_isOverNow, Cond.instanceMethod yX6_isOverNow, Cond.selects RX6 yX6_isOverNow yX6_isOverNow, Cond.initialized RX6, Cond.code yX6_isOverNow cX6_isOverNow 1 (some .boolean), Cond.fieldLink RX6 60 "BarrierbookModel" "told" "I", Cond.fieldLink RX6 96 "BarrierbookModel" "isOver" "Z", Cond.methodLink RX6 103 yX6_runs, Cond.instanceMethod yX6_runs, Cond.selects RX6 yX6_runs yX6_runs, Cond.code yX6_runs cX6_runs 3 none, Cond.fieldLink RX6 42 "BarrierbookModel" "prices" "[I", Cond.fieldLink RX6 7 "BarrierbookModel" "firsts" "[I", Cond.fieldLink RX6 93 "BarrierbookModel" "missed" "I", Cond.fieldLink RX6 80 "BarrierbookModel" "done" "I", Cond.fieldLink RX6 90 "BarrierbookModel" "paid" "I", Cond.fieldLink RX6 38 "BarrierbookModel" "moves" "[Z", Cond.methodLink RX6 99 yX6_period, Cond.instanceMethod yX6_period, Cond.selects RX6 yX6_period yX6_period, Cond.code yX6_period cX6_period 4 none, Cond.fieldLink RX6 63 "BarrierbookModel" "isAgainst" "Z"]
def wsX6_knocks_r2 : List Cond := [Cond.fieldLink RX6 23 "BarrierbookModel" "periods" "I", Cond.fieldLink RX6 26 "BarrierbookModel" "barrier" "I", Cond.fieldLink RX6 67 "BarrierbookModel" "isAtEnd" "Z", Cond.fieldLink RX6 29 "BarrierbookModel" "couponLevel" "I", Cond.fieldLink RX6 35 "BarrierbookModel" "coupon" "I", Cond.fieldLink RX6 70 "BarrierbookModel" "remembers" "Z", Cond.fieldLink RX6 32 "BarrierbookModel" "callLevel" "I", Cond.methodLink RX6 77 yX6_moves, Cond.instanceMethod yX6_moves, Cond.selects RX6 yX6_moves yX6_moves, Cond.code yX6_moves cX6_moves 4 none, Cond.fieldLink RX6 13 "BarrierbookModel" "rises" "[I", Cond.fieldLink RX6 16 "BarrierbookModel" "falls" "[I", Cond.methodLink RX6 83 yX6_worstNow, Cond.instanceMethod yX6_worstNow, Cond.selects RX6 yX6_worstNow yX6_worstNow, Cond.code yX6_worstNow cX6_worstNow 1 (some .int), Cond.methodLink RX6 73 yX6_level, Cond.instanceMethod yX6_level, Cond.selects RX6 yX6_level yX6_level, Cond.code yX6_level cX6_level 2 (some .int), Cond.methodLink RX6 114 yX6_rows, Cond.instanceMethod yX6_rows, Cond.selects RX6 yX6_rows yX6_rows]
def wsX6_knocks_r3 : List Cond := [Cond.code yX6_rows cX6_rows 1 (some .int), Cond.methodLink RX6 117 yX6_weight, Cond.instanceMethod yX6_weight, Cond.selects RX6 yX6_weight yX6_weight, Cond.code yX6_weight cX6_weight 5 (some .long), Cond.fieldLink RX6 19 "BarrierbookModel" "chance" "I"]
def wsX6_knocks : List Cond := .code yX6_knocks cX6_knocks 6 (some .long) :: ((wsX6_knocks_r1 ++ (wsX6_knocks_r2 ++ wsX6_knocks_r3)) ++ wsX60)
def wsJ9_max_7cf53 : List Cond := .code yJ9_max_7cf53 cJ9_max_7cf53 2 (some .int) :: ([])
def wsJ9_min_7cf53 : List Cond := .code yJ9_min_7cf53 cJ9_min_7cf53 2 (some .int) :: ([])
def wsL_setAsset_r1 : List Cond := [Cond.classLink RL 13 "java/lang/IndexOutOfBoundsException", Cond.classLink RL 15 "java/lang/IllegalArgumentException", Cond.methodLink RL 7 yX5_setAsset, Cond.instanceMethod yX5_setAsset, Cond.selects RX5 yX5_setAsset yX5_setAsset, Cond.initialized RX5, Cond.code yX5_setAsset cX5_setAsset 6 none, Cond.classLink RX5 41 "java/lang/IndexOutOfBoundsException", Cond.initialized "java/lang/IndexOutOfBoundsException", Cond.classLink RX5 52 "java/lang/IllegalArgumentException", Cond.initialized "java/lang/IllegalArgumentException", Cond.fieldLink RX5 12 "Barrierbook" "note" "LBarrierbook$Note;", Cond.fieldLink RX5 57 "Barrierbook$Note" "asset0" "LBarrierbook$Asset;", Cond.fieldLink RX5 61 "Barrierbook$Note" "asset1" "LBarrierbook$Asset;", Cond.fieldLink RX5 64 "Barrierbook$Asset" "first" "I", Cond.fieldLink RX5 69 "Barrierbook$Asset" "rise" "I", Cond.fieldLink RX5 72 "Barrierbook$Asset" "fall" "I", Cond.fieldLink RX5 19 "Barrierbook" "now" "LBarrierbook$Standing;", Cond.methodLink RX5 37 yX5_isAsset, Cond.static yX5_isAsset, Cond.code yX5_isAsset cX5_isAsset 1 (some .boolean), Cond.methodLink RX5 48 yX5_isWithin, Cond.static yX5_isWithin, Cond.code yX5_isWithin cX5_isWithin 3 (some .boolean)]
def wsL_setAsset_r2 : List Cond := [Cond.methodLink RX5 75 yX3_begin, Cond.instanceMethod yX3_begin, Cond.selects RX3 yX3_begin yX3_begin, Cond.initialized RX3, Cond.code yX3_begin cX3_begin 2 none, Cond.fieldLink RX3 9 "Barrierbook$Standing" "told" "I", Cond.fieldLink RX3 37 "Barrierbook$Note" "asset0" "LBarrierbook$Asset;", Cond.fieldLink RX3 43 "Barrierbook$Asset" "first" "I", Cond.fieldLink RX3 15 "Barrierbook$Standing" "price0" "I", Cond.fieldLink RX3 48 "Barrierbook$Note" "asset1" "LBarrierbook$Asset;", Cond.fieldLink RX3 18 "Barrierbook$Standing" "price1" "I", Cond.fieldLink RX3 21 "Barrierbook$Standing" "missed" "I", Cond.fieldLink RX3 24 "Barrierbook$Standing" "isKnocked" "Z", Cond.fieldLink RX3 28 "Barrierbook$Standing" "isOver" "Z", Cond.fieldLink RX3 31 "Barrierbook$Standing" "paidLast" "I", Cond.fieldLink RX3 34 "Barrierbook$Standing" "paidInAll" "I"]
def wsL_setAsset : List Cond := .codeWith yL_setAsset cL_setAsset 6 (some .int) [(0, 9, 12, 13), (0, 9, 16, 15)] :: ((wsL_setAsset_r1 ++ wsL_setAsset_r2) ++ wsX50 ++ wsX20 ++ wsX00 ++ wsX30 ++ (vx_atS RX5 45 "java/lang/IndexOutOfBoundsException" ["java/lang/RuntimeException", "java/lang/Exception"]).filter goodWord ++ (vx_atS RX5 56 "java/lang/IllegalArgumentException" ["java/lang/RuntimeException", "java/lang/Exception"]).filter goodWord)
def wsL_setMoves_r1 : List Cond := [Cond.classLink RL 15 "java/lang/IllegalArgumentException", Cond.methodLink RL 17 yX5_setMoves, Cond.instanceMethod yX5_setMoves, Cond.selects RX5 yX5_setMoves yX5_setMoves, Cond.initialized RX5, Cond.code yX5_setMoves cX5_setMoves 3 none, Cond.classLink RX5 52 "java/lang/IllegalArgumentException", Cond.initialized "java/lang/IllegalArgumentException", Cond.fieldLink RX5 12 "Barrierbook" "note" "LBarrierbook$Note;", Cond.fieldLink RX5 81 "Barrierbook$Note" "isAgainst" "Z", Cond.fieldLink RX5 85 "Barrierbook$Note" "chance" "I", Cond.fieldLink RX5 19 "Barrierbook" "now" "LBarrierbook$Standing;", Cond.methodLink RX5 48 yX5_isWithin, Cond.static yX5_isWithin, Cond.code yX5_isWithin cX5_isWithin 3 (some .boolean), Cond.methodLink RX5 75 yX3_begin, Cond.instanceMethod yX3_begin, Cond.selects RX3 yX3_begin yX3_begin, Cond.initialized RX3, Cond.code yX3_begin cX3_begin 2 none, Cond.fieldLink RX3 9 "Barrierbook$Standing" "told" "I", Cond.fieldLink RX3 37 "Barrierbook$Note" "asset0" "LBarrierbook$Asset;", Cond.fieldLink RX3 43 "Barrierbook$Asset" "first" "I", Cond.fieldLink RX3 15 "Barrierbook$Standing" "price0" "I"]
def wsL_setMoves_r2 : List Cond := [Cond.fieldLink RX3 48 "Barrierbook$Note" "asset1" "LBarrierbook$Asset;", Cond.fieldLink RX3 18 "Barrierbook$Standing" "price1" "I", Cond.fieldLink RX3 21 "Barrierbook$Standing" "missed" "I", Cond.fieldLink RX3 24 "Barrierbook$Standing" "isKnocked" "Z", Cond.fieldLink RX3 28 "Barrierbook$Standing" "isOver" "Z", Cond.fieldLink RX3 31 "Barrierbook$Standing" "paidLast" "I", Cond.fieldLink RX3 34 "Barrierbook$Standing" "paidInAll" "I"]
def wsL_setMoves : List Cond := .codeWith yL_setMoves cL_setMoves 4 (some .int) [(0, 6, 9, 15)] :: ((wsL_setMoves_r1 ++ wsL_setMoves_r2) ++ wsX50 ++ wsX20 ++ wsX30 ++ wsX00 ++ (vx_atS RX5 56 "java/lang/IllegalArgumentException" ["java/lang/RuntimeException", "java/lang/Exception"]).filter goodWord)
def wsL_setNote_r1 : List Cond := [Cond.classLink RL 15 "java/lang/IllegalArgumentException", Cond.methodLink RL 21 yX5_setNote, Cond.instanceMethod yX5_setNote, Cond.selects RX5 yX5_setNote yX5_setNote, Cond.initialized RX5, Cond.code yX5_setNote cX5_setNote 6 none, Cond.classLink RX5 52 "java/lang/IllegalArgumentException", Cond.initialized "java/lang/IllegalArgumentException", Cond.fieldLink RX5 12 "Barrierbook" "note" "LBarrierbook$Note;", Cond.fieldLink RX5 90 "Barrierbook$Note" "periods" "I", Cond.fieldLink RX5 93 "Barrierbook$Note" "barrier" "I", Cond.fieldLink RX5 96 "Barrierbook$Note" "couponLevel" "I", Cond.fieldLink RX5 99 "Barrierbook$Note" "callLevel" "I", Cond.fieldLink RX5 102 "Barrierbook$Note" "coupon" "I", Cond.fieldLink RX5 19 "Barrierbook" "now" "LBarrierbook$Standing;", Cond.methodLink RX5 48 yX5_isWithin, Cond.static yX5_isWithin, Cond.code yX5_isWithin cX5_isWithin 3 (some .boolean), Cond.methodLink RX5 75 yX3_begin, Cond.instanceMethod yX3_begin, Cond.selects RX3 yX3_begin yX3_begin, Cond.initialized RX3, Cond.code yX3_begin cX3_begin 2 none, Cond.fieldLink RX3 9 "Barrierbook$Standing" "told" "I"]
def wsL_setNote_r2 : List Cond := [Cond.fieldLink RX3 37 "Barrierbook$Note" "asset0" "LBarrierbook$Asset;", Cond.fieldLink RX3 43 "Barrierbook$Asset" "first" "I", Cond.fieldLink RX3 15 "Barrierbook$Standing" "price0" "I", Cond.fieldLink RX3 48 "Barrierbook$Note" "asset1" "LBarrierbook$Asset;", Cond.fieldLink RX3 18 "Barrierbook$Standing" "price1" "I", Cond.fieldLink RX3 21 "Barrierbook$Standing" "missed" "I", Cond.fieldLink RX3 24 "Barrierbook$Standing" "isKnocked" "Z", Cond.fieldLink RX3 28 "Barrierbook$Standing" "isOver" "Z", Cond.fieldLink RX3 31 "Barrierbook$Standing" "paidLast" "I", Cond.fieldLink RX3 34 "Barrierbook$Standing" "paidInAll" "I"]
def wsL_setNote : List Cond := .codeWith yL_setNote cL_setNote 7 (some .int) [(0, 11, 14, 15)] :: ((wsL_setNote_r1 ++ wsL_setNote_r2) ++ wsX50 ++ wsX20 ++ wsX30 ++ wsX00 ++ (vx_atS RX5 56 "java/lang/IllegalArgumentException" ["java/lang/RuntimeException", "java/lang/Exception"]).filter goodWord)
def wsL_tell_r1 : List Cond := [Cond.classLink RL 29 "java/lang/IllegalStateException", Cond.methodLink RL 25 yX5_tell, Cond.instanceMethod yX5_tell, Cond.selects RX5 yX5_tell yX5_tell, Cond.initialized RX5, Cond.code yX5_tell cX5_tell 3 (some .int), Cond.classLink RX5 114 "java/lang/IllegalStateException", Cond.initialized "java/lang/IllegalStateException", Cond.fieldLink RX5 19 "Barrierbook" "now" "LBarrierbook$Standing;", Cond.fieldLink RX5 111 "Barrierbook$Standing" "isOver" "Z", Cond.fieldLink RX5 119 "Barrierbook$Standing" "told" "I", Cond.fieldLink RX5 33 "Barrierbook" "moves" "I", Cond.fieldLink RX5 12 "Barrierbook" "note" "LBarrierbook$Note;", Cond.fieldLink RX5 126 "Barrierbook$Standing" "paidLast" "I", Cond.methodLink RX5 122 yX3_move, Cond.instanceMethod yX3_move, Cond.selects RX3 yX3_move yX3_move, Cond.initialized RX3, Cond.code yX3_move cX3_move 5 none, Cond.fieldLink RX3 9 "Barrierbook$Standing" "told" "I", Cond.fieldLink RX3 37 "Barrierbook$Note" "asset0" "LBarrierbook$Asset;", Cond.fieldLink RX3 15 "Barrierbook$Standing" "price0" "I", Cond.fieldLink RX3 48 "Barrierbook$Note" "asset1" "LBarrierbook$Asset;", Cond.fieldLink RX3 18 "Barrierbook$Standing" "price1" "I"]
def wsL_tell_r2 : List Cond := [Cond.fieldLink RX3 65 "Barrierbook$Note" "isAgainst" "Z", Cond.fieldLink RX3 68 "Barrierbook$Note" "periods" "I", Cond.fieldLink RX3 75 "Barrierbook$Note" "barrier" "I", Cond.fieldLink RX3 78 "Barrierbook$Note" "isAtEnd" "Z", Cond.fieldLink RX3 24 "Barrierbook$Standing" "isKnocked" "Z", Cond.fieldLink RX3 31 "Barrierbook$Standing" "paidLast" "I", Cond.fieldLink RX3 85 "Barrierbook$Note" "callLevel" "I", Cond.fieldLink RX3 28 "Barrierbook$Standing" "isOver" "Z", Cond.fieldLink RX3 34 "Barrierbook$Standing" "paidInAll" "I", Cond.methodLink RX3 61 yX0_priceBehind, Cond.instanceMethod yX0_priceBehind, Cond.selects RX0 yX0_priceBehind yX0_priceBehind, Cond.initialized RX0, Cond.code yX0_priceBehind cX0_priceBehind 3 (some .int), Cond.fieldLink RX0 15 "Barrierbook$Asset" "rise" "I", Cond.fieldLink RX0 18 "Barrierbook$Asset" "fall" "I", Cond.methodLink RX0 21 Lib.Math.max.name, Cond.static Lib.Math.max.name, Cond.initialized "java/lang/Math", Cond.code Lib.Math.max.name Lib.Math.max.code 2 (some .int), Cond.methodLink RX3 71 yX3_worstLevel, Cond.instanceMethod yX3_worstLevel, Cond.selects RX3 yX3_worstLevel yX3_worstLevel, Cond.code yX3_worstLevel cX3_worstLevel 2 (some .int)]
def wsL_tell_r3 : List Cond := [Cond.methodLink RX3 55 Lib.Math.min.name, Cond.static Lib.Math.min.name, Cond.code Lib.Math.min.name Lib.Math.min.code 2 (some .int), Cond.methodLink RX3 51 yX0_levelAt, Cond.instanceMethod yX0_levelAt, Cond.selects RX0 yX0_levelAt yX0_levelAt, Cond.code yX0_levelAt cX0_levelAt 2 (some .int), Cond.fieldLink RX0 9 "Barrierbook$Asset" "first" "I", Cond.methodLink RX3 81 yX3_takeCoupons, Cond.instanceMethod yX3_takeCoupons, Cond.selects RX3 yX3_takeCoupons yX3_takeCoupons, Cond.code yX3_takeCoupons cX3_takeCoupons 4 (some .int), Cond.fieldLink RX3 91 "Barrierbook$Note" "couponLevel" "I", Cond.fieldLink RX3 21 "Barrierbook$Standing" "missed" "I", Cond.fieldLink RX3 94 "Barrierbook$Note" "remembers" "Z", Cond.fieldLink RX3 97 "Barrierbook$Note" "coupon" "I", Cond.methodLink RX3 88 yX3_endPay, Cond.instanceMethod yX3_endPay, Cond.selects RX3 yX3_endPay yX3_endPay, Cond.code yX3_endPay cX3_endPay 4 (some .int)]
def wsL_tell : List Cond := .codeWith yL_tell cL_tell 4 (some .int) [(0, 9, 12, 29)] :: ((wsL_tell_r1 ++ (wsL_tell_r2 ++ wsL_tell_r3)) ++ wsX50 ++ wsX30 ++ wsX20 ++ wsX00 ++ (vx_atS RX5 118 "java/lang/IllegalStateException" ["java/lang/RuntimeException", "java/lang/Exception"]).filter goodWord)
def wsL_takeBack_r1 : List Cond := [Cond.classLink RL 29 "java/lang/IllegalStateException", Cond.methodLink RL 31 yX5_takeBack, Cond.instanceMethod yX5_takeBack, Cond.selects RX5 yX5_takeBack yX5_takeBack, Cond.initialized RX5, Cond.code yX5_takeBack cX5_takeBack 4 (some .int), Cond.classLink RX5 114 "java/lang/IllegalStateException", Cond.initialized "java/lang/IllegalStateException", Cond.fieldLink RX5 19 "Barrierbook" "now" "LBarrierbook$Standing;", Cond.fieldLink RX5 119 "Barrierbook$Standing" "told" "I", Cond.fieldLink RX5 126 "Barrierbook$Standing" "paidLast" "I", Cond.fieldLink RX5 12 "Barrierbook" "note" "LBarrierbook$Note;", Cond.fieldLink RX5 33 "Barrierbook" "moves" "I", Cond.methodLink RX5 75 yX3_begin, Cond.instanceMethod yX3_begin, Cond.selects RX3 yX3_begin yX3_begin, Cond.initialized RX3, Cond.code yX3_begin cX3_begin 2 none, Cond.fieldLink RX3 9 "Barrierbook$Standing" "told" "I", Cond.fieldLink RX3 37 "Barrierbook$Note" "asset0" "LBarrierbook$Asset;", Cond.fieldLink RX3 43 "Barrierbook$Asset" "first" "I", Cond.fieldLink RX3 15 "Barrierbook$Standing" "price0" "I", Cond.fieldLink RX3 48 "Barrierbook$Note" "asset1" "LBarrierbook$Asset;", Cond.fieldLink RX3 18 "Barrierbook$Standing" "price1" "I"]
def wsL_takeBack_r2 : List Cond := [Cond.fieldLink RX3 21 "Barrierbook$Standing" "missed" "I", Cond.fieldLink RX3 24 "Barrierbook$Standing" "isKnocked" "Z", Cond.fieldLink RX3 28 "Barrierbook$Standing" "isOver" "Z", Cond.fieldLink RX3 31 "Barrierbook$Standing" "paidLast" "I", Cond.fieldLink RX3 34 "Barrierbook$Standing" "paidInAll" "I", Cond.methodLink RX5 131 yX5_isUpAt, Cond.static yX5_isUpAt, Cond.code yX5_isUpAt cX5_isUpAt 2 (some .boolean), Cond.methodLink RX5 122 yX3_move, Cond.instanceMethod yX3_move, Cond.selects RX3 yX3_move yX3_move, Cond.code yX3_move cX3_move 5 none, Cond.fieldLink RX3 65 "Barrierbook$Note" "isAgainst" "Z", Cond.fieldLink RX3 68 "Barrierbook$Note" "periods" "I", Cond.fieldLink RX3 75 "Barrierbook$Note" "barrier" "I", Cond.fieldLink RX3 78 "Barrierbook$Note" "isAtEnd" "Z", Cond.fieldLink RX3 85 "Barrierbook$Note" "callLevel" "I", Cond.methodLink RX3 61 yX0_priceBehind, Cond.instanceMethod yX0_priceBehind, Cond.selects RX0 yX0_priceBehind yX0_priceBehind, Cond.initialized RX0, Cond.code yX0_priceBehind cX0_priceBehind 3 (some .int), Cond.fieldLink RX0 15 "Barrierbook$Asset" "rise" "I", Cond.fieldLink RX0 18 "Barrierbook$Asset" "fall" "I"]
def wsL_takeBack_r3 : List Cond := [Cond.methodLink RX0 21 Lib.Math.max.name, Cond.static Lib.Math.max.name, Cond.initialized "java/lang/Math", Cond.code Lib.Math.max.name Lib.Math.max.code 2 (some .int), Cond.methodLink RX3 71 yX3_worstLevel, Cond.instanceMethod yX3_worstLevel, Cond.selects RX3 yX3_worstLevel yX3_worstLevel, Cond.code yX3_worstLevel cX3_worstLevel 2 (some .int), Cond.methodLink RX3 55 Lib.Math.min.name, Cond.static Lib.Math.min.name, Cond.code Lib.Math.min.name Lib.Math.min.code 2 (some .int), Cond.methodLink RX3 51 yX0_levelAt, Cond.instanceMethod yX0_levelAt, Cond.selects RX0 yX0_levelAt yX0_levelAt, Cond.code yX0_levelAt cX0_levelAt 2 (some .int), Cond.fieldLink RX0 9 "Barrierbook$Asset" "first" "I", Cond.methodLink RX3 81 yX3_takeCoupons, Cond.instanceMethod yX3_takeCoupons, Cond.selects RX3 yX3_takeCoupons yX3_takeCoupons, Cond.code yX3_takeCoupons cX3_takeCoupons 4 (some .int), Cond.fieldLink RX3 91 "Barrierbook$Note" "couponLevel" "I", Cond.fieldLink RX3 94 "Barrierbook$Note" "remembers" "Z", Cond.fieldLink RX3 97 "Barrierbook$Note" "coupon" "I", Cond.methodLink RX3 88 yX3_endPay]
def wsL_takeBack_r4 : List Cond := [Cond.instanceMethod yX3_endPay, Cond.selects RX3 yX3_endPay yX3_endPay, Cond.code yX3_endPay cX3_endPay 4 (some .int)]
def wsL_takeBack : List Cond := .codeWith yL_takeBack cL_takeBack 3 (some .int) [(0, 8, 11, 29)] :: ((wsL_takeBack_r1 ++ (wsL_takeBack_r2 ++ (wsL_takeBack_r3 ++ wsL_takeBack_r4))) ++ wsX50 ++ wsX30 ++ wsX20 ++ wsX00 ++ (vx_atS RX5 118 "java/lang/IllegalStateException" ["java/lang/RuntimeException", "java/lang/Exception"]).filter goodWord)
def wsL_price : List Cond := .codeWith yL_price cL_price 4 (some .int) [(0, 9, 12, 13)] :: ([.classLink RL 13 "java/lang/IndexOutOfBoundsException", .methodLink RL 35 yX5_price, .instanceMethod yX5_price, .selects RX5 yX5_price yX5_price, .initialized RX5, .code yX5_price cX5_price 2 (some .int), .classLink RX5 41 "java/lang/IndexOutOfBoundsException", .initialized "java/lang/IndexOutOfBoundsException", .fieldLink RX5 19 "Barrierbook" "now" "LBarrierbook$Standing;", .fieldLink RX5 135 "Barrierbook$Standing" "price0" "I", .fieldLink RX5 138 "Barrierbook$Standing" "price1" "I", .methodLink RX5 37 yX5_isAsset, .static yX5_isAsset, .code yX5_isAsset cX5_isAsset 1 (some .boolean)] ++ wsX50 ++ wsX30 ++ (vx_atS RX5 45 "java/lang/IndexOutOfBoundsException" ["java/lang/RuntimeException", "java/lang/Exception"]).filter goodWord)
def wsL_endsIn_r1 : List Cond := [Cond.classLink RL 15 "java/lang/IllegalArgumentException", Cond.methodLink RL 39 yX5_endsIn, Cond.instanceMethod yX5_endsIn, Cond.selects RX5 yX5_endsIn yX5_endsIn, Cond.initialized RX5, Cond.code yX5_endsIn cX5_endsIn 2 (some .long), Cond.classLink RX5 52 "java/lang/IllegalArgumentException", Cond.initialized "java/lang/IllegalArgumentException", Cond.fieldLink RX5 12 "Barrierbook" "note" "LBarrierbook$Note;", Cond.fieldLink RX5 90 "Barrierbook$Note" "periods" "I", Cond.fieldLink RX5 29 "Barrierbook" "tree" "LBarrierbook$Tree;", Cond.fieldLink RX5 19 "Barrierbook" "now" "LBarrierbook$Standing;", Cond.methodLink RX5 48 yX5_isWithin, Cond.static yX5_isWithin, Cond.code yX5_isWithin cX5_isWithin 3 (some .boolean), Cond.methodLink RX5 154 yX4_grow, Cond.instanceMethod yX4_grow, Cond.selects RX4 yX4_grow yX4_grow, Cond.initialized RX4, Cond.code yX4_grow cX4_grow 4 none, Cond.fieldLink RX4 52 "Barrierbook$Standing" "isOver" "Z", Cond.fieldLink RX4 56 "Barrierbook$Standing" "isKnocked" "Z", Cond.fieldLink RX4 36 "Barrierbook$Tree" "knockedSum" "J", Cond.fieldLink RX4 39 "Barrierbook$Tree" "lastStates" "I"]
def wsL_endsIn_r2 : List Cond := [Cond.fieldLink RX4 43 "Barrierbook$Tree" "leastPaid" "I", Cond.fieldLink RX4 25 "Barrierbook$Tree" "from" "LBarrierbook$Layer;", Cond.fieldLink RX4 59 "Barrierbook$Layer" "size" "I", Cond.fieldLink RX4 66 "Barrierbook$Standing" "told" "I", Cond.fieldLink RX4 69 "Barrierbook$Note" "periods" "I", Cond.methodLink RX4 49 yX4_clear, Cond.instanceMethod yX4_clear, Cond.selects RX4 yX4_clear yX4_clear, Cond.code yX4_clear cX4_clear 2 none, Cond.fieldLink RX4 18 "Barrierbook$Tree" "endSums" "[J", Cond.fieldLink RX4 32 "Barrierbook$Tree" "paidSum" "J", Cond.constant RX4 80 (2147483647), Cond.fieldLink RX4 46 "Barrierbook$Tree" "mostPaid" "I", Cond.methodLink RX4 62 yX1_add, Cond.instanceMethod yX1_add, Cond.selects RX1 yX1_add yX1_add, Cond.initialized RX1, Cond.code yX1_add cX1_add 7 none, Cond.fieldLink RX1 25 "Barrierbook$Layer" "weights" "[J", Cond.fieldLink RX1 29 "Barrierbook$Layer" "leasts" "[I", Cond.methodLink RX1 43 Lib.Math.min.name, Cond.static Lib.Math.min.name, Cond.initialized "java/lang/Math", Cond.code Lib.Math.min.name Lib.Math.min.code 2 (some .int)]
def wsL_endsIn_r3 : List Cond := [Cond.fieldLink RX1 32 "Barrierbook$Layer" "mosts" "[I", Cond.methodLink RX1 49 Lib.Math.max.name, Cond.static Lib.Math.max.name, Cond.code Lib.Math.max.name Lib.Math.max.code 2 (some .int), Cond.fieldLink RX1 35 "Barrierbook$Layer" "size" "I", Cond.fieldLink RX1 9 "Barrierbook$Layer" "prices0" "[I", Cond.fieldLink RX1 52 "Barrierbook$Standing" "price0" "I", Cond.fieldLink RX1 15 "Barrierbook$Layer" "prices1" "[I", Cond.fieldLink RX1 57 "Barrierbook$Standing" "price1" "I", Cond.fieldLink RX1 18 "Barrierbook$Layer" "misses" "[I", Cond.fieldLink RX1 60 "Barrierbook$Standing" "missed" "I", Cond.fieldLink RX1 21 "Barrierbook$Layer" "knocked" "[Z", Cond.fieldLink RX1 63 "Barrierbook$Standing" "isKnocked" "Z", Cond.methodLink RX1 39 yX1_find, Cond.instanceMethod yX1_find, Cond.selects RX1 yX1_find yX1_find, Cond.code yX1_find cX1_find 3 (some .int), Cond.methodLink RX4 74 yX4_growPeriod, Cond.instanceMethod yX4_growPeriod, Cond.selects RX4 yX4_growPeriod yX4_growPeriod, Cond.code yX4_growPeriod cX4_growPeriod 4 none, Cond.fieldLink RX4 29 "Barrierbook$Tree" "to" "LBarrierbook$Layer;", Cond.methodLink RX4 81 yX4_growBranch, Cond.instanceMethod yX4_growBranch]
def wsL_endsIn_r4 : List Cond := [Cond.selects RX4 yX4_growBranch yX4_growBranch, Cond.code yX4_growBranch cX4_growBranch 11 none, Cond.fieldLink RX4 12 "Barrierbook$Tree" "branch" "LBarrierbook$Standing;", Cond.fieldLink RX4 97 "Barrierbook$Layer" "weights" "[J", Cond.fieldLink RX4 108 "Barrierbook$Layer" "leasts" "[I", Cond.fieldLink RX4 112 "Barrierbook$Standing" "paidLast" "I", Cond.fieldLink RX4 115 "Barrierbook$Layer" "mosts" "[I", Cond.methodLink RX4 85 yX1_holds, Cond.instanceMethod yX1_holds, Cond.selects RX1 yX1_holds yX1_holds, Cond.code yX1_holds cX1_holds 2 (some .boolean), Cond.methodLink RX4 89 yX1_show, Cond.instanceMethod yX1_show, Cond.selects RX1 yX1_show yX1_show, Cond.code yX1_show cX1_show 4 none, Cond.fieldLink RX1 71 "Barrierbook$Standing" "told" "I", Cond.fieldLink RX1 74 "Barrierbook$Standing" "isOver" "Z", Cond.fieldLink RX1 77 "Barrierbook$Standing" "paidLast" "I", Cond.fieldLink RX1 80 "Barrierbook$Standing" "paidInAll" "I", Cond.methodLink RX1 67 yX1_holds, Cond.methodLink RX4 93 yX3_move, Cond.instanceMethod yX3_move, Cond.selects RX3 yX3_move yX3_move, Cond.initialized RX3]
def wsL_endsIn_r5 : List Cond := [Cond.code yX3_move cX3_move 5 none, Cond.fieldLink RX3 9 "Barrierbook$Standing" "told" "I", Cond.fieldLink RX3 37 "Barrierbook$Note" "asset0" "LBarrierbook$Asset;", Cond.fieldLink RX3 15 "Barrierbook$Standing" "price0" "I", Cond.fieldLink RX3 48 "Barrierbook$Note" "asset1" "LBarrierbook$Asset;", Cond.fieldLink RX3 18 "Barrierbook$Standing" "price1" "I", Cond.fieldLink RX3 65 "Barrierbook$Note" "isAgainst" "Z", Cond.fieldLink RX3 68 "Barrierbook$Note" "periods" "I", Cond.fieldLink RX3 75 "Barrierbook$Note" "barrier" "I", Cond.fieldLink RX3 78 "Barrierbook$Note" "isAtEnd" "Z", Cond.fieldLink RX3 24 "Barrierbook$Standing" "isKnocked" "Z", Cond.fieldLink RX3 31 "Barrierbook$Standing" "paidLast" "I", Cond.fieldLink RX3 85 "Barrierbook$Note" "callLevel" "I", Cond.fieldLink RX3 28 "Barrierbook$Standing" "isOver" "Z", Cond.fieldLink RX3 34 "Barrierbook$Standing" "paidInAll" "I", Cond.methodLink RX3 61 yX0_priceBehind, Cond.instanceMethod yX0_priceBehind, Cond.selects RX0 yX0_priceBehind yX0_priceBehind, Cond.initialized RX0, Cond.code yX0_priceBehind cX0_priceBehind 3 (some .int), Cond.fieldLink RX0 15 "Barrierbook$Asset" "rise" "I", Cond.fieldLink RX0 18 "Barrierbook$Asset" "fall" "I", Cond.methodLink RX0 21 Lib.Math.max.name, Cond.methodLink RX3 71 yX3_worstLevel]
def wsL_endsIn_r6 : List Cond := [Cond.instanceMethod yX3_worstLevel, Cond.selects RX3 yX3_worstLevel yX3_worstLevel, Cond.code yX3_worstLevel cX3_worstLevel 2 (some .int), Cond.methodLink RX3 55 Lib.Math.min.name, Cond.methodLink RX3 51 yX0_levelAt, Cond.instanceMethod yX0_levelAt, Cond.selects RX0 yX0_levelAt yX0_levelAt, Cond.code yX0_levelAt cX0_levelAt 2 (some .int), Cond.fieldLink RX0 9 "Barrierbook$Asset" "first" "I", Cond.methodLink RX3 81 yX3_takeCoupons, Cond.instanceMethod yX3_takeCoupons, Cond.selects RX3 yX3_takeCoupons yX3_takeCoupons, Cond.code yX3_takeCoupons cX3_takeCoupons 4 (some .int), Cond.fieldLink RX3 91 "Barrierbook$Note" "couponLevel" "I", Cond.fieldLink RX3 21 "Barrierbook$Standing" "missed" "I", Cond.fieldLink RX3 94 "Barrierbook$Note" "remembers" "Z", Cond.fieldLink RX3 97 "Barrierbook$Note" "coupon" "I", Cond.methodLink RX3 88 yX3_endPay, Cond.instanceMethod yX3_endPay, Cond.selects RX3 yX3_endPay yX3_endPay, Cond.code yX3_endPay cX3_endPay 4 (some .int), Cond.methodLink RX4 100 yX2_weightOf, Cond.instanceMethod yX2_weightOf, Cond.selects RX2 yX2_weightOf yX2_weightOf]
def wsL_endsIn_r7 : List Cond := [Cond.initialized RX2, Cond.code yX2_weightOf cX2_weightOf 2 (some .int), Cond.fieldLink RX2 25 "Barrierbook$Note" "chance" "I", Cond.static yX5_wholeWeightOf, Cond.code yX5_wholeWeightOf cX5_wholeWeightOf 4 (some .long), Cond.constantLong RX5 191 (10), Cond.methodLink RX4 118 yX4_end, Cond.instanceMethod yX4_end, Cond.selects RX4 yX4_end yX4_end, Cond.code yX4_end cX4_end 6 none, Cond.methodLink RX4 122 Lib.Math.min.name, Cond.methodLink RX4 128 Lib.Math.max.name, Cond.methodLink RX5 181 yX4_endSumOf, Cond.instanceMethod yX4_endSumOf, Cond.selects RX4 yX4_endSumOf yX4_endSumOf, Cond.code yX4_endSumOf cX4_endSumOf 2 (some .long)]
def wsL_endsIn : List Cond := .codeWith yL_endsIn cL_endsIn 4 (some .int) [(0, 8, 11, 15)] :: ((wsL_endsIn_r1 ++ (wsL_endsIn_r2 ++ (wsL_endsIn_r3 ++ (wsL_endsIn_r4 ++ (wsL_endsIn_r5 ++ (wsL_endsIn_r6 ++ wsL_endsIn_r7)))))) ++ wsX50 ++ wsX20 ++ wsX30 ++ wsX40 ++ wsX10 ++ wsX00 ++ (vx_atS RX5 56 "java/lang/IllegalArgumentException" ["java/lang/RuntimeException", "java/lang/Exception"]).filter goodWord)
def wsL_law0_r1 : List Cond := [Cond.classLink RL 8 RX5, Cond.instantiable RX5 5, Cond.initialized RX5, Cond.classLink RL 44 RX6, Cond.instantiable RX6 22, Cond.initialized RX6, Cond.arrayClass .long, Cond.methodLink RL 43 yX5_init, Cond.instanceMethod yX5_init, Cond.code yX5_init cX5_init 1 none, Cond.methodLink RX5 3 objectInit, Cond.instanceMethod objectInit, Cond.code objectInit ⟨#[0xb1]⟩ 1 none, Cond.classLink RX5 9 RX2, Cond.instantiable RX2 11, Cond.initialized RX2, Cond.fieldLink RX5 12 "Barrierbook" "note" "LBarrierbook$Note;", Cond.classLink RX5 16 RX3, Cond.instantiable RX3 8, Cond.initialized RX3, Cond.fieldLink RX5 19 "Barrierbook" "now" "LBarrierbook$Standing;", Cond.fieldLink RX5 23 "Barrierbook" "walker" "LBarrierbook$Standing;", Cond.classLink RX5 26 RX4, Cond.instantiable RX4 9]
def wsL_law0_r2 : List Cond := [Cond.initialized RX4, Cond.fieldLink RX5 29 "Barrierbook" "tree" "LBarrierbook$Tree;", Cond.fieldLink RX5 33 "Barrierbook" "moves" "I", Cond.instanceMethod yX2_init, Cond.code yX2_init cX2_init 1 none, Cond.methodLink RX2 3 objectInit, Cond.classLink RX2 9 RX0, Cond.instantiable RX0 3, Cond.initialized RX0, Cond.fieldLink RX2 12 "Barrierbook$Note" "asset0" "LBarrierbook$Asset;", Cond.fieldLink RX2 18 "Barrierbook$Note" "asset1" "LBarrierbook$Asset;", Cond.fieldLink RX2 21 "Barrierbook$Note" "isAgainst" "Z", Cond.fieldLink RX2 25 "Barrierbook$Note" "chance" "I", Cond.fieldLink RX2 29 "Barrierbook$Note" "periods" "I", Cond.fieldLink RX2 32 "Barrierbook$Note" "barrier" "I", Cond.fieldLink RX2 35 "Barrierbook$Note" "couponLevel" "I", Cond.fieldLink RX2 38 "Barrierbook$Note" "callLevel" "I", Cond.fieldLink RX2 41 "Barrierbook$Note" "coupon" "I", Cond.fieldLink RX2 44 "Barrierbook$Note" "isAtEnd" "Z", Cond.fieldLink RX2 47 "Barrierbook$Note" "remembers" "Z", Cond.instanceMethod yX0_init, Cond.code yX0_init cX0_init 1 none, Cond.methodLink RX0 3 objectInit, Cond.fieldLink RX0 9 "Barrierbook$Asset" "first" "I"]
def wsL_law0_r3 : List Cond := [Cond.fieldLink RX0 15 "Barrierbook$Asset" "rise" "I", Cond.fieldLink RX0 18 "Barrierbook$Asset" "fall" "I", Cond.instanceMethod yX3_init, Cond.code yX3_init cX3_init 1 none, Cond.methodLink RX3 3 objectInit, Cond.fieldLink RX3 9 "Barrierbook$Standing" "told" "I", Cond.fieldLink RX3 15 "Barrierbook$Standing" "price0" "I", Cond.fieldLink RX3 18 "Barrierbook$Standing" "price1" "I", Cond.fieldLink RX3 21 "Barrierbook$Standing" "missed" "I", Cond.fieldLink RX3 24 "Barrierbook$Standing" "isKnocked" "Z", Cond.fieldLink RX3 28 "Barrierbook$Standing" "isOver" "Z", Cond.fieldLink RX3 31 "Barrierbook$Standing" "paidLast" "I", Cond.fieldLink RX3 34 "Barrierbook$Standing" "paidInAll" "I", Cond.instanceMethod yX4_init, Cond.code yX4_init cX4_init 1 none, Cond.methodLink RX4 3 objectInit, Cond.classLink RX4 9 RX3, Cond.fieldLink RX4 12 "Barrierbook$Tree" "branch" "LBarrierbook$Standing;", Cond.fieldLink RX4 18 "Barrierbook$Tree" "endSums" "[J", Cond.classLink RX4 22 RX1, Cond.instantiable RX1 8, Cond.initialized RX1, Cond.fieldLink RX4 25 "Barrierbook$Tree" "from" "LBarrierbook$Layer;", Cond.fieldLink RX4 29 "Barrierbook$Tree" "to" "LBarrierbook$Layer;"]
def wsL_law0_r4 : List Cond := [Cond.fieldLink RX4 32 "Barrierbook$Tree" "paidSum" "J", Cond.fieldLink RX4 36 "Barrierbook$Tree" "knockedSum" "J", Cond.fieldLink RX4 39 "Barrierbook$Tree" "lastStates" "I", Cond.fieldLink RX4 43 "Barrierbook$Tree" "leastPaid" "I", Cond.fieldLink RX4 46 "Barrierbook$Tree" "mostPaid" "I", Cond.instanceMethod yX1_init, Cond.code yX1_init cX1_init 1 none, Cond.methodLink RX1 3 objectInit, Cond.arrayClass .int, Cond.fieldLink RX1 9 "Barrierbook$Layer" "prices0" "[I", Cond.fieldLink RX1 15 "Barrierbook$Layer" "prices1" "[I", Cond.fieldLink RX1 18 "Barrierbook$Layer" "misses" "[I", Cond.arrayClass .boolean, Cond.fieldLink RX1 21 "Barrierbook$Layer" "knocked" "[Z", Cond.fieldLink RX1 25 "Barrierbook$Layer" "weights" "[J", Cond.fieldLink RX1 29 "Barrierbook$Layer" "leasts" "[I", Cond.fieldLink RX1 32 "Barrierbook$Layer" "mosts" "[I", Cond.fieldLink RX1 35 "Barrierbook$Layer" "size" "I", Cond.methodLink RL 46 yX6_init, Cond.instanceMethod yX6_init, Cond.code yX6_init cX6_init 2 none, Cond.methodLink RX6 1 objectInit, Cond.fieldLink RX6 7 "BarrierbookModel" "firsts" "[I", Cond.fieldLink RX6 13 "BarrierbookModel" "rises" "[I"]
def wsL_law0_r5 : List Cond := [Cond.fieldLink RX6 16 "BarrierbookModel" "falls" "[I", Cond.fieldLink RX6 19 "BarrierbookModel" "chance" "I", Cond.fieldLink RX6 23 "BarrierbookModel" "periods" "I", Cond.fieldLink RX6 26 "BarrierbookModel" "barrier" "I", Cond.fieldLink RX6 29 "BarrierbookModel" "couponLevel" "I", Cond.fieldLink RX6 32 "BarrierbookModel" "callLevel" "I", Cond.fieldLink RX6 35 "BarrierbookModel" "coupon" "I", Cond.fieldLink RX6 38 "BarrierbookModel" "moves" "[Z", Cond.fieldLink RX6 42 "BarrierbookModel" "prices" "[I", Cond.fieldLink RX6 45 "BarrierbookModel" "seen" "[J", Cond.methodLink RL 47 yL_setAsset, Cond.static yL_setAsset, Cond.initialized RL, Cond.codeWith yL_setAsset cL_setAsset 6 (some .int) [(0, 9, 12, 13), (0, 9, 16, 15)], Cond.classLink RL 13 "java/lang/IndexOutOfBoundsException", Cond.classLink RL 15 "java/lang/IllegalArgumentException", Cond.methodLink RL 7 yX5_setAsset, Cond.instanceMethod yX5_setAsset, Cond.selects RX5 yX5_setAsset yX5_setAsset, Cond.code yX5_setAsset cX5_setAsset 6 none, Cond.classLink RX5 41 "java/lang/IndexOutOfBoundsException", Cond.initialized "java/lang/IndexOutOfBoundsException", Cond.classLink RX5 52 "java/lang/IllegalArgumentException", Cond.initialized "java/lang/IllegalArgumentException"]
def wsL_law0_r6 : List Cond := [Cond.fieldLink RX5 57 "Barrierbook$Note" "asset0" "LBarrierbook$Asset;", Cond.fieldLink RX5 61 "Barrierbook$Note" "asset1" "LBarrierbook$Asset;", Cond.fieldLink RX5 64 "Barrierbook$Asset" "first" "I", Cond.fieldLink RX5 69 "Barrierbook$Asset" "rise" "I", Cond.fieldLink RX5 72 "Barrierbook$Asset" "fall" "I", Cond.methodLink RX5 37 yX5_isAsset, Cond.static yX5_isAsset, Cond.code yX5_isAsset cX5_isAsset 1 (some .boolean), Cond.methodLink RX5 48 yX5_isWithin, Cond.static yX5_isWithin, Cond.code yX5_isWithin cX5_isWithin 3 (some .boolean), Cond.methodLink RX5 75 yX3_begin, Cond.instanceMethod yX3_begin, Cond.selects RX3 yX3_begin yX3_begin, Cond.code yX3_begin cX3_begin 2 none, Cond.fieldLink RX3 37 "Barrierbook$Note" "asset0" "LBarrierbook$Asset;", Cond.fieldLink RX3 43 "Barrierbook$Asset" "first" "I", Cond.fieldLink RX3 48 "Barrierbook$Note" "asset1" "LBarrierbook$Asset;", Cond.methodLink RL 52 yX6_setAsset, Cond.instanceMethod yX6_setAsset, Cond.selects RX6 yX6_setAsset yX6_setAsset, Cond.code yX6_setAsset cX6_setAsset 6 none, Cond.fieldLink RX6 60 "BarrierbookModel" "told" "I", Cond.methodLink RX6 52 yX6_isIn]
def wsL_law0_r7 : List Cond := [Cond.static yX6_isIn, Cond.code yX6_isIn cX6_isIn 3 (some .boolean), Cond.methodLink RX6 56 yX6_goes, Cond.instanceMethod yX6_goes, Cond.selects RX6 yX6_goes yX6_goes, Cond.code yX6_goes cX6_goes 2 (some .boolean), Cond.fieldLink RX6 49 "BarrierbookModel" "thrown" "I", Cond.methodLink RL 53 yX6_thrown, Cond.instanceMethod yX6_thrown, Cond.selects RX6 yX6_thrown yX6_thrown, Cond.code yX6_thrown cX6_thrown 1 (some .int), Cond.methodLink RL 56 yL_setMoves, Cond.static yL_setMoves, Cond.codeWith yL_setMoves cL_setMoves 4 (some .int) [(0, 6, 9, 15)], Cond.methodLink RL 17 yX5_setMoves, Cond.instanceMethod yX5_setMoves, Cond.selects RX5 yX5_setMoves yX5_setMoves, Cond.code yX5_setMoves cX5_setMoves 3 none, Cond.fieldLink RX5 81 "Barrierbook$Note" "isAgainst" "Z", Cond.fieldLink RX5 85 "Barrierbook$Note" "chance" "I", Cond.methodLink RL 59 yX6_setMoves, Cond.instanceMethod yX6_setMoves, Cond.selects RX6 yX6_setMoves yX6_setMoves, Cond.code yX6_setMoves cX6_setMoves 3 none]
def wsL_law0_r8 : List Cond := [Cond.fieldLink RX6 63 "BarrierbookModel" "isAgainst" "Z", Cond.methodLink RL 60 yL_setNote, Cond.static yL_setNote, Cond.codeWith yL_setNote cL_setNote 7 (some .int) [(0, 11, 14, 15)], Cond.methodLink RL 21 yX5_setNote, Cond.instanceMethod yX5_setNote, Cond.selects RX5 yX5_setNote yX5_setNote, Cond.code yX5_setNote cX5_setNote 6 none, Cond.fieldLink RX5 90 "Barrierbook$Note" "periods" "I", Cond.fieldLink RX5 93 "Barrierbook$Note" "barrier" "I", Cond.fieldLink RX5 96 "Barrierbook$Note" "couponLevel" "I", Cond.fieldLink RX5 99 "Barrierbook$Note" "callLevel" "I", Cond.fieldLink RX5 102 "Barrierbook$Note" "coupon" "I", Cond.methodLink RL 63 yX6_setNote, Cond.instanceMethod yX6_setNote, Cond.selects RX6 yX6_setNote yX6_setNote, Cond.code yX6_setNote cX6_setNote 7 none, Cond.methodLink RL 64 yX5_setKind, Cond.instanceMethod yX5_setKind, Cond.selects RX5 yX5_setKind yX5_setKind, Cond.code yX5_setKind cX5_setKind 3 none, Cond.fieldLink RX5 105 "Barrierbook$Note" "isAtEnd" "Z", Cond.fieldLink RX5 108 "Barrierbook$Note" "remembers" "Z", Cond.methodLink RL 68 yX6_setKind]
def wsL_law0_r9 : List Cond := [Cond.instanceMethod yX6_setKind, Cond.selects RX6 yX6_setKind yX6_setKind, Cond.code yX6_setKind cX6_setKind 3 none, Cond.fieldLink RX6 67 "BarrierbookModel" "isAtEnd" "Z", Cond.fieldLink RX6 70 "BarrierbookModel" "remembers" "Z", Cond.methodLink RL 69 yL_tell, Cond.static yL_tell, Cond.codeWith yL_tell cL_tell 4 (some .int) [(0, 9, 12, 29)], Cond.classLink RL 29 "java/lang/IllegalStateException", Cond.methodLink RL 25 yX5_tell, Cond.instanceMethod yX5_tell, Cond.selects RX5 yX5_tell yX5_tell, Cond.code yX5_tell cX5_tell 3 (some .int), Cond.classLink RX5 114 "java/lang/IllegalStateException", Cond.initialized "java/lang/IllegalStateException", Cond.fieldLink RX5 111 "Barrierbook$Standing" "isOver" "Z", Cond.fieldLink RX5 119 "Barrierbook$Standing" "told" "I", Cond.fieldLink RX5 126 "Barrierbook$Standing" "paidLast" "I", Cond.methodLink RX5 122 yX3_move, Cond.instanceMethod yX3_move, Cond.selects RX3 yX3_move yX3_move, Cond.code yX3_move cX3_move 5 none, Cond.fieldLink RX3 65 "Barrierbook$Note" "isAgainst" "Z", Cond.fieldLink RX3 68 "Barrierbook$Note" "periods" "I"]
def wsL_law0_r10 : List Cond := [Cond.fieldLink RX3 75 "Barrierbook$Note" "barrier" "I", Cond.fieldLink RX3 78 "Barrierbook$Note" "isAtEnd" "Z", Cond.fieldLink RX3 85 "Barrierbook$Note" "callLevel" "I", Cond.methodLink RX3 61 yX0_priceBehind, Cond.instanceMethod yX0_priceBehind, Cond.selects RX0 yX0_priceBehind yX0_priceBehind, Cond.code yX0_priceBehind cX0_priceBehind 3 (some .int), Cond.methodLink RX0 21 Lib.Math.max.name, Cond.static Lib.Math.max.name, Cond.initialized "java/lang/Math", Cond.code Lib.Math.max.name Lib.Math.max.code 2 (some .int), Cond.methodLink RX3 71 yX3_worstLevel, Cond.instanceMethod yX3_worstLevel, Cond.selects RX3 yX3_worstLevel yX3_worstLevel, Cond.code yX3_worstLevel cX3_worstLevel 2 (some .int), Cond.methodLink RX3 55 Lib.Math.min.name, Cond.static Lib.Math.min.name, Cond.code Lib.Math.min.name Lib.Math.min.code 2 (some .int), Cond.methodLink RX3 51 yX0_levelAt, Cond.instanceMethod yX0_levelAt, Cond.selects RX0 yX0_levelAt yX0_levelAt, Cond.code yX0_levelAt cX0_levelAt 2 (some .int), Cond.methodLink RX3 81 yX3_takeCoupons, Cond.instanceMethod yX3_takeCoupons]
def wsL_law0_r11 : List Cond := [Cond.selects RX3 yX3_takeCoupons yX3_takeCoupons, Cond.code yX3_takeCoupons cX3_takeCoupons 4 (some .int), Cond.fieldLink RX3 91 "Barrierbook$Note" "couponLevel" "I", Cond.fieldLink RX3 94 "Barrierbook$Note" "remembers" "Z", Cond.fieldLink RX3 97 "Barrierbook$Note" "coupon" "I", Cond.methodLink RX3 88 yX3_endPay, Cond.instanceMethod yX3_endPay, Cond.selects RX3 yX3_endPay yX3_endPay, Cond.code yX3_endPay cX3_endPay 4 (some .int), Cond.methodLink RL 72 yX6_tell, Cond.instanceMethod yX6_tell, Cond.selects RX6 yX6_tell yX6_tell, Cond.code yX6_tell cX6_tell 3 (some .int), Cond.fieldLink RX6 96 "BarrierbookModel" "isOver" "Z", Cond.methodLink RX6 107 yX6_paidBy, Cond.instanceMethod yX6_paidBy, Cond.selects RX6 yX6_paidBy yX6_paidBy, Cond.code yX6_paidBy cX6_paidBy 2 (some .int), Cond.fieldLink RX6 90 "BarrierbookModel" "paid" "I", Cond.methodLink RX6 103 yX6_runs, Cond.instanceMethod yX6_runs, Cond.selects RX6 yX6_runs yX6_runs, Cond.code yX6_runs cX6_runs 3 none, Cond.fieldLink RX6 93 "BarrierbookModel" "missed" "I"]
def wsL_law0_r12 : List Cond := [Cond.fieldLink RX6 87 "BarrierbookModel" "isKnocked" "Z", Cond.fieldLink RX6 80 "BarrierbookModel" "done" "I", Cond.methodLink RX6 99 yX6_period, Cond.instanceMethod yX6_period, Cond.selects RX6 yX6_period yX6_period, Cond.code yX6_period cX6_period 4 none, Cond.methodLink RX6 77 yX6_moves, Cond.instanceMethod yX6_moves, Cond.selects RX6 yX6_moves yX6_moves, Cond.code yX6_moves cX6_moves 4 none, Cond.methodLink RX6 83 yX6_worstNow, Cond.instanceMethod yX6_worstNow, Cond.selects RX6 yX6_worstNow yX6_worstNow, Cond.code yX6_worstNow cX6_worstNow 1 (some .int), Cond.methodLink RX6 73 yX6_level, Cond.instanceMethod yX6_level, Cond.selects RX6 yX6_level yX6_level, Cond.code yX6_level cX6_level 2 (some .int), Cond.methodLink RL 73 yL_takeBack, Cond.static yL_takeBack, Cond.codeWith yL_takeBack cL_takeBack 3 (some .int) [(0, 8, 11, 29)], Cond.methodLink RL 31 yX5_takeBack, Cond.instanceMethod yX5_takeBack, Cond.selects RX5 yX5_takeBack yX5_takeBack]
def wsL_law0_r13 : List Cond := [Cond.code yX5_takeBack cX5_takeBack 4 (some .int), Cond.methodLink RX5 131 yX5_isUpAt, Cond.static yX5_isUpAt, Cond.code yX5_isUpAt cX5_isUpAt 2 (some .boolean), Cond.methodLink RL 76 yX6_takeBack, Cond.instanceMethod yX6_takeBack, Cond.selects RX6 yX6_takeBack yX6_takeBack, Cond.code yX6_takeBack cX6_takeBack 2 (some .int), Cond.methodLink RL 77 yX5_told, Cond.instanceMethod yX5_told, Cond.selects RX5 yX5_told yX5_told, Cond.code yX5_told cX5_told 1 (some .int), Cond.methodLink RL 80 yX6_told, Cond.instanceMethod yX6_told, Cond.selects RX6 yX6_told yX6_told, Cond.code yX6_told cX6_told 1 (some .int), Cond.methodLink RL 81 yL_price, Cond.static yL_price, Cond.codeWith yL_price cL_price 4 (some .int) [(0, 9, 12, 13)], Cond.methodLink RL 35 yX5_price, Cond.instanceMethod yX5_price, Cond.selects RX5 yX5_price yX5_price, Cond.code yX5_price cX5_price 2 (some .int), Cond.fieldLink RX5 135 "Barrierbook$Standing" "price0" "I"]
def wsL_law0_r14 : List Cond := [Cond.fieldLink RX5 138 "Barrierbook$Standing" "price1" "I", Cond.methodLink RL 84 yX6_price, Cond.instanceMethod yX6_price, Cond.selects RX6 yX6_price yX6_price, Cond.code yX6_price cX6_price 2 (some .int), Cond.methodLink RL 85 yX5_worst, Cond.instanceMethod yX5_worst, Cond.selects RX5 yX5_worst yX5_worst, Cond.code yX5_worst cX5_worst 1 (some .int), Cond.methodLink RX5 141 yX3_worstLevel, Cond.methodLink RL 88 yX6_worst, Cond.instanceMethod yX6_worst, Cond.selects RX6 yX6_worst yX6_worst, Cond.code yX6_worst cX6_worst 1 (some .int), Cond.methodLink RL 89 yX5_isKnocked, Cond.instanceMethod yX5_isKnocked, Cond.selects RX5 yX5_isKnocked yX5_isKnocked, Cond.code yX5_isKnocked cX5_isKnocked 1 (some .boolean), Cond.fieldLink RX5 145 "Barrierbook$Standing" "isKnocked" "Z", Cond.methodLink RL 93 yX6_isKnocked, Cond.instanceMethod yX6_isKnocked, Cond.selects RX6 yX6_isKnocked yX6_isKnocked, Cond.code yX6_isKnocked cX6_isKnocked 1 (some .boolean), Cond.methodLink RL 94 yX5_missed]
def wsL_law0_r15 : List Cond := [Cond.instanceMethod yX5_missed, Cond.selects RX5 yX5_missed yX5_missed, Cond.code yX5_missed cX5_missed 1 (some .int), Cond.fieldLink RX5 148 "Barrierbook$Standing" "missed" "I", Cond.methodLink RL 97 yX6_missed, Cond.instanceMethod yX6_missed, Cond.selects RX6 yX6_missed yX6_missed, Cond.code yX6_missed cX6_missed 1 (some .int), Cond.methodLink RL 98 yX5_paid, Cond.instanceMethod yX5_paid, Cond.selects RX5 yX5_paid yX5_paid, Cond.code yX5_paid cX5_paid 1 (some .int), Cond.fieldLink RX5 151 "Barrierbook$Standing" "paidInAll" "I", Cond.methodLink RL 101 yX6_paid, Cond.instanceMethod yX6_paid, Cond.selects RX6 yX6_paid yX6_paid, Cond.code yX6_paid cX6_paid 1 (some .int), Cond.methodLink RL 102 yX5_isOver, Cond.instanceMethod yX5_isOver, Cond.selects RX5 yX5_isOver yX5_isOver, Cond.code yX5_isOver cX5_isOver 1 (some .boolean), Cond.methodLink RL 105 yX6_isOver, Cond.instanceMethod yX6_isOver, Cond.selects RX6 yX6_isOver yX6_isOver]
def wsL_law0_r16 : List Cond := [Cond.code yX6_isOver cX6_isOver 1 (some .boolean), Cond.methodLink RX6 110 yX6_isOverNow, Cond.instanceMethod yX6_isOverNow, Cond.selects RX6 yX6_isOverNow yX6_isOverNow, Cond.code yX6_isOverNow cX6_isOverNow 1 (some .boolean), Cond.methodLink RL 106 yX5_worth, Cond.instanceMethod yX5_worth, Cond.selects RX5 yX5_worth yX5_worth, Cond.code yX5_worth cX5_worth 1 (some .long), Cond.fieldLink RX5 158 "Barrierbook$Tree" "paidSum" "J", Cond.methodLink RX5 154 yX4_grow, Cond.instanceMethod yX4_grow, Cond.selects RX4 yX4_grow yX4_grow, Cond.code yX4_grow cX4_grow 4 none, Cond.fieldLink RX4 52 "Barrierbook$Standing" "isOver" "Z", Cond.fieldLink RX4 56 "Barrierbook$Standing" "isKnocked" "Z", Cond.fieldLink RX4 59 "Barrierbook$Layer" "size" "I", Cond.fieldLink RX4 66 "Barrierbook$Standing" "told" "I", Cond.fieldLink RX4 69 "Barrierbook$Note" "periods" "I", Cond.methodLink RX4 49 yX4_clear, Cond.instanceMethod yX4_clear, Cond.selects RX4 yX4_clear yX4_clear, Cond.code yX4_clear cX4_clear 2 none, Cond.constant RX4 80 (2147483647)]
def wsL_law0_r17 : List Cond := [Cond.methodLink RX4 62 yX1_add, Cond.instanceMethod yX1_add, Cond.selects RX1 yX1_add yX1_add, Cond.code yX1_add cX1_add 7 none, Cond.methodLink RX1 43 Lib.Math.min.name, Cond.methodLink RX1 49 Lib.Math.max.name, Cond.fieldLink RX1 52 "Barrierbook$Standing" "price0" "I", Cond.fieldLink RX1 57 "Barrierbook$Standing" "price1" "I", Cond.fieldLink RX1 60 "Barrierbook$Standing" "missed" "I", Cond.fieldLink RX1 63 "Barrierbook$Standing" "isKnocked" "Z", Cond.methodLink RX1 39 yX1_find, Cond.instanceMethod yX1_find, Cond.selects RX1 yX1_find yX1_find, Cond.code yX1_find cX1_find 3 (some .int), Cond.methodLink RX4 74 yX4_growPeriod, Cond.instanceMethod yX4_growPeriod, Cond.selects RX4 yX4_growPeriod yX4_growPeriod, Cond.code yX4_growPeriod cX4_growPeriod 4 none, Cond.methodLink RX4 81 yX4_growBranch, Cond.instanceMethod yX4_growBranch, Cond.selects RX4 yX4_growBranch yX4_growBranch, Cond.code yX4_growBranch cX4_growBranch 11 none, Cond.fieldLink RX4 97 "Barrierbook$Layer" "weights" "[J", Cond.fieldLink RX4 108 "Barrierbook$Layer" "leasts" "[I"]
def wsL_law0_r18 : List Cond := [Cond.fieldLink RX4 112 "Barrierbook$Standing" "paidLast" "I", Cond.fieldLink RX4 115 "Barrierbook$Layer" "mosts" "[I", Cond.methodLink RX4 85 yX1_holds, Cond.instanceMethod yX1_holds, Cond.selects RX1 yX1_holds yX1_holds, Cond.code yX1_holds cX1_holds 2 (some .boolean), Cond.methodLink RX4 89 yX1_show, Cond.instanceMethod yX1_show, Cond.selects RX1 yX1_show yX1_show, Cond.code yX1_show cX1_show 4 none, Cond.fieldLink RX1 71 "Barrierbook$Standing" "told" "I", Cond.fieldLink RX1 74 "Barrierbook$Standing" "isOver" "Z", Cond.fieldLink RX1 77 "Barrierbook$Standing" "paidLast" "I", Cond.fieldLink RX1 80 "Barrierbook$Standing" "paidInAll" "I", Cond.methodLink RX1 67 yX1_holds, Cond.methodLink RX4 93 yX3_move, Cond.methodLink RX4 100 yX2_weightOf, Cond.instanceMethod yX2_weightOf, Cond.selects RX2 yX2_weightOf yX2_weightOf, Cond.code yX2_weightOf cX2_weightOf 2 (some .int), Cond.static yX5_wholeWeightOf, Cond.code yX5_wholeWeightOf cX5_wholeWeightOf 4 (some .long), Cond.constantLong RX5 191 (10), Cond.methodLink RX4 118 yX4_end]
def wsL_law0_r19 : List Cond := [Cond.instanceMethod yX4_end, Cond.selects RX4 yX4_end yX4_end, Cond.code yX4_end cX4_end 6 none, Cond.methodLink RX4 122 Lib.Math.min.name, Cond.methodLink RX4 128 Lib.Math.max.name, Cond.methodLink RL 110 yX6_worth, Cond.instanceMethod yX6_worth, Cond.selects RX6 yX6_worth yX6_worth, Cond.code yX6_worth cX6_worth 1 (some .long), Cond.methodLink RX6 121 yX6_sum, Cond.instanceMethod yX6_sum, Cond.selects RX6 yX6_sum yX6_sum, Cond.code yX6_sum cX6_sum 5 (some .long), Cond.methodLink RX6 114 yX6_rows, Cond.instanceMethod yX6_rows, Cond.selects RX6 yX6_rows yX6_rows, Cond.code yX6_rows cX6_rows 1 (some .int), Cond.methodLink RX6 117 yX6_weight, Cond.instanceMethod yX6_weight, Cond.selects RX6 yX6_weight yX6_weight, Cond.code yX6_weight cX6_weight 5 (some .long), Cond.methodLink RL 111 yX5_worthByPaths, Cond.instanceMethod yX5_worthByPaths, Cond.selects RX5 yX5_worthByPaths yX5_worthByPaths]
def wsL_law0_r20 : List Cond := [Cond.code yX5_worthByPaths cX5_worthByPaths 5 (some .long), Cond.methodLink RX5 162 yX5_worthOfRow, Cond.instanceMethod yX5_worthOfRow, Cond.selects RX5 yX5_worthOfRow yX5_worthOfRow, Cond.code yX5_worthOfRow cX5_worthOfRow 7 (some .long), Cond.methodLink RX5 187 yX3_copy, Cond.instanceMethod yX3_copy, Cond.selects RX3 yX3_copy yX3_copy, Cond.code yX3_copy cX3_copy 2 none, Cond.methodLink RX5 193 yX2_weightOf, Cond.methodLink RL 114 yX6_worthByPaths, Cond.instanceMethod yX6_worthByPaths, Cond.selects RX6 yX6_worthByPaths yX6_worthByPaths, Cond.code yX6_worthByPaths cX6_worthByPaths 1 (some .long), Cond.methodLink RL 115 yX5_divisor, Cond.instanceMethod yX5_divisor, Cond.selects RX5 yX5_divisor yX5_divisor, Cond.code yX5_divisor cX5_divisor 1 (some .long), Cond.methodLink RX5 166 yX5_wholeWeightOf, Cond.methodLink RL 118 yX6_divisor, Cond.instanceMethod yX6_divisor, Cond.selects RX6 yX6_divisor yX6_divisor, Cond.code yX6_divisor cX6_divisor 4 (some .long), Cond.constantLong RX6 125 (10)]
def wsL_law0_r21 : List Cond := [Cond.methodLink RL 119 yX5_states, Cond.instanceMethod yX5_states, Cond.selects RX5 yX5_states yX5_states, Cond.code yX5_states cX5_states 1 (some .int), Cond.fieldLink RX5 170 "Barrierbook$Tree" "lastStates" "I", Cond.methodLink RL 122 yX6_states, Cond.instanceMethod yX6_states, Cond.selects RX6 yX6_states yX6_states, Cond.code yX6_states cX6_states 7 (some .int), Cond.methodLink RL 123 yX5_least, Cond.instanceMethod yX5_least, Cond.selects RX5 yX5_least yX5_least, Cond.code yX5_least cX5_least 1 (some .int), Cond.fieldLink RX5 173 "Barrierbook$Tree" "leastPaid" "I", Cond.methodLink RL 126 yX6_least, Cond.instanceMethod yX6_least, Cond.selects RX6 yX6_least yX6_least, Cond.code yX6_least cX6_least 1 (some .int), Cond.methodLink RX6 127 yX6_extreme, Cond.instanceMethod yX6_extreme, Cond.selects RX6 yX6_extreme yX6_extreme, Cond.code yX6_extreme cX6_extreme 6 (some .int), Cond.methodLink RL 127 yX5_most, Cond.instanceMethod yX5_most]
def wsL_law0_r22 : List Cond := [Cond.selects RX5 yX5_most yX5_most, Cond.code yX5_most cX5_most 1 (some .int), Cond.fieldLink RX5 176 "Barrierbook$Tree" "mostPaid" "I", Cond.methodLink RL 130 yX6_most, Cond.instanceMethod yX6_most, Cond.selects RX6 yX6_most yX6_most, Cond.code yX6_most cX6_most 1 (some .int), Cond.methodLink RL 131 yL_endsIn, Cond.static yL_endsIn, Cond.codeWith yL_endsIn cL_endsIn 4 (some .int) [(0, 8, 11, 15)], Cond.methodLink RL 39 yX5_endsIn, Cond.instanceMethod yX5_endsIn, Cond.selects RX5 yX5_endsIn yX5_endsIn, Cond.code yX5_endsIn cX5_endsIn 2 (some .long), Cond.methodLink RX5 181 yX4_endSumOf, Cond.instanceMethod yX4_endSumOf, Cond.selects RX4 yX4_endSumOf yX4_endSumOf, Cond.code yX4_endSumOf cX4_endSumOf 2 (some .long), Cond.methodLink RL 133 yX6_endsIn, Cond.instanceMethod yX6_endsIn, Cond.selects RX6 yX6_endsIn yX6_endsIn, Cond.code yX6_endsIn cX6_endsIn 7 (some .long), Cond.methodLink RL 134 yX5_knocks, Cond.instanceMethod yX5_knocks]
def wsL_law0_r23 : List Cond := [Cond.selects RX5 yX5_knocks yX5_knocks, Cond.code yX5_knocks cX5_knocks 1 (some .long), Cond.fieldLink RX5 184 "Barrierbook$Tree" "knockedSum" "J", Cond.methodLink RL 137 yX6_knocks, Cond.instanceMethod yX6_knocks, Cond.selects RX6 yX6_knocks yX6_knocks, Cond.code yX6_knocks cX6_knocks 6 (some .long)]
def wsL_law0 : List Cond := (wsL_law0_r1 ++ (wsL_law0_r2 ++ (wsL_law0_r3 ++ (wsL_law0_r4 ++ (wsL_law0_r5 ++ (wsL_law0_r6 ++ (wsL_law0_r7 ++ (wsL_law0_r8 ++ (wsL_law0_r9 ++ (wsL_law0_r10 ++ (wsL_law0_r11 ++ (wsL_law0_r12 ++ (wsL_law0_r13 ++ (wsL_law0_r14 ++ (wsL_law0_r15 ++ (wsL_law0_r16 ++ (wsL_law0_r17 ++ (wsL_law0_r18 ++ (wsL_law0_r19 ++ (wsL_law0_r20 ++ (wsL_law0_r21 ++ (wsL_law0_r22 ++ wsL_law0_r23)))))))))))))))))))))) ++ wsX50 ++ wsX60 ++ wsX20 ++ wsX30 ++ wsX40 ++ wsX00 ++ wsX10 ++ ([] : List Cond)
def wsL_law : List Cond := wsL_law0 ++ (vx_atS RX5 45 "java/lang/IndexOutOfBoundsException" ["java/lang/RuntimeException", "java/lang/Exception"]).filter goodWord ++ (vx_atS RX5 56 "java/lang/IllegalArgumentException" ["java/lang/RuntimeException", "java/lang/Exception"]).filter goodWord ++ (vx_atS RX5 118 "java/lang/IllegalStateException" ["java/lang/RuntimeException", "java/lang/Exception"]).filter goodWord
set_option maxRecDepth 20000 in
theorem wsL_law0_r1_in : ∀ w ∈ wsL_law0_r1, w ∈ lw_tbl := fun w h => (goodIn_p wsL_law0_r1 [40, 43] (by decide +kernel) (by decide +kernel) w h).1
set_option maxRecDepth 20000 in
theorem wsL_law0_r2_in : ∀ w ∈ wsL_law0_r2, w ∈ lw_tbl := fun w h => (goodIn_p wsL_law0_r2 [48, 54] (by decide +kernel) (by decide +kernel) w h).1
set_option maxRecDepth 20000 in
theorem wsL_law0_r3_in : ∀ w ∈ wsL_law0_r3, w ∈ lw_tbl := fun w h => (goodIn_p wsL_law0_r3 [130, 181] (by decide +kernel) (by decide +kernel) w h).1
set_option maxRecDepth 20000 in
theorem wsL_law0_r4_in : ∀ w ∈ wsL_law0_r4, w ∈ lw_tbl := fun w h => (goodIn_p wsL_law0_r4 [189, 597] (by decide +kernel) (by decide +kernel) w h).1
set_option maxRecDepth 20000 in
theorem wsL_law0_r5_in : ∀ w ∈ wsL_law0_r5, w ∈ lw_tbl := fun w h => (goodIn_p wsL_law0_r5 [435] (by decide +kernel) (by decide +kernel) w h).1
set_option maxRecDepth 20000 in
theorem wsL_law0_r6_in : ∀ w ∈ wsL_law0_r6, w ∈ lw_tbl := fun w h => (goodIn_p wsL_law0_r6 [438, 509, 279, 673] (by decide +kernel) (by decide +kernel) w h).1
set_option maxRecDepth 20000 in
theorem wsL_law0_r7_in : ∀ w ∈ wsL_law0_r7, w ∈ lw_tbl := fun w h => (goodIn_p wsL_law0_r7 [676, 680, 669, 532, 684] (by decide +kernel) (by decide +kernel) w h).1
set_option maxRecDepth 20000 in
theorem wsL_law0_r8_in : ∀ w ∈ wsL_law0_r8, w ∈ lw_tbl := fun w h => (goodIn_p wsL_law0_r8 [540, 688, 275] (by decide +kernel) (by decide +kernel) w h).1
set_option maxRecDepth 20000 in
theorem wsL_law0_r9_in : ∀ w ∈ wsL_law0_r9, w ∈ lw_tbl := fun w h => (goodIn_p wsL_law0_r9 [692, 549, 360] (by decide +kernel) (by decide +kernel) w h).1
set_option maxRecDepth 20000 in
theorem wsL_law0_r10_in : ∀ w ∈ wsL_law0_r10, w ∈ lw_tbl := fun w h => (goodIn_p wsL_law0_r10 [364, 339, 291, 298, 295] (by decide +kernel) (by decide +kernel) w h).1
set_option maxRecDepth 20000 in
theorem wsL_law0_r11_in : ∀ w ∈ wsL_law0_r11, w ∈ lw_tbl := fun w h => (goodIn_p wsL_law0_r11 [370, 374, 696, 700, 704] (by decide +kernel) (by decide +kernel) w h).1
set_option maxRecDepth 20000 in
theorem wsL_law0_r12_in : ∀ w ∈ wsL_law0_r12, w ∈ lw_tbl := fun w h => (goodIn_p wsL_law0_r12 [708, 712, 716, 720] (by decide +kernel) (by decide +kernel) w h).1
set_option maxRecDepth 20000 in
theorem wsL_law0_r13_in : ∀ w ∈ wsL_law0_r13, w ∈ lw_tbl := fun w h => (goodIn_p wsL_law0_r13 [572, 403, 724, 283, 728, 580] (by decide +kernel) (by decide +kernel) w h).1
set_option maxRecDepth 20000 in
theorem wsL_law0_r14_in : ∀ w ∈ wsL_law0_r14, w ∈ lw_tbl := fun w h => (goodIn_p wsL_law0_r14 [732, 287, 736, 302, 740] (by decide +kernel) (by decide +kernel) w h).1
set_option maxRecDepth 20000 in
theorem wsL_law0_r15_in : ∀ w ∈ wsL_law0_r15, w ∈ lw_tbl := fun w h => (goodIn_p wsL_law0_r15 [306, 744, 310, 748, 314] (by decide +kernel) (by decide +kernel) w h).1
set_option maxRecDepth 20000 in
theorem wsL_law0_r16_in : ∀ w ∈ wsL_law0_r16, w ∈ lw_tbl := fun w h => (goodIn_p wsL_law0_r16 [752, 756, 318, 322, 326] (by decide +kernel) (by decide +kernel) w h).1
set_option maxRecDepth 20000 in
theorem wsL_law0_r17_in : ∀ w ∈ wsL_law0_r17, w ∈ lw_tbl := fun w h => (goodIn_p wsL_law0_r17 [331, 335, 343, 347] (by decide +kernel) (by decide +kernel) w h).1
set_option maxRecDepth 20000 in
theorem wsL_law0_r18_in : ∀ w ∈ wsL_law0_r18, w ∈ lw_tbl := fun w h => (goodIn_p wsL_law0_r18 [351, 355, 378, 381] (by decide +kernel) (by decide +kernel) w h).1
set_option maxRecDepth 20000 in
theorem wsL_law0_r19_in : ∀ w ∈ wsL_law0_r19, w ∈ lw_tbl := fun w h => (goodIn_p wsL_law0_r19 [386, 760, 764, 768, 772] (by decide +kernel) (by decide +kernel) w h).1
set_option maxRecDepth 20000 in
theorem wsL_law0_r20_in : ∀ w ∈ wsL_law0_r20, w ∈ lw_tbl := fun w h => (goodIn_p wsL_law0_r20 [392, 396, 400, 776, 409, 780] (by decide +kernel) (by decide +kernel) w h).1
set_option maxRecDepth 20000 in
theorem wsL_law0_r21_in : ∀ w ∈ wsL_law0_r21, w ∈ lw_tbl := fun w h => (goodIn_p wsL_law0_r21 [414, 785, 418, 789, 793] (by decide +kernel) (by decide +kernel) w h).1
set_option maxRecDepth 20000 in
theorem wsL_law0_r22_in : ∀ w ∈ wsL_law0_r22, w ∈ lw_tbl := fun w h => (goodIn_p wsL_law0_r22 [422, 797, 587, 592, 801] (by decide +kernel) (by decide +kernel) w h).1
set_option maxRecDepth 20000 in
theorem wsL_law0_r23_in : ∀ w ∈ wsL_law0_r23, w ∈ lw_tbl := fun w h => (goodIn_p wsL_law0_r23 [426, 805] (by decide +kernel) (by decide +kernel) w h).1
theorem wsL_law_f_wsX50 : ∀ w ∈ wsX50, w ∈ lw_tbl := by decide +kernel
theorem wsL_law_f_wsX60 : ∀ w ∈ wsX60, w ∈ lw_tbl := by decide +kernel
theorem wsL_law_f_wsX20 : ∀ w ∈ wsX20, w ∈ lw_tbl := by decide +kernel
theorem wsL_law_f_wsX30 : ∀ w ∈ wsX30, w ∈ lw_tbl := by decide +kernel
theorem wsL_law_f_wsX40 : ∀ w ∈ wsX40, w ∈ lw_tbl := by decide +kernel
theorem wsL_law_f_wsX00 : ∀ w ∈ wsX00, w ∈ lw_tbl := by decide +kernel
theorem wsL_law_f_wsX10 : ∀ w ∈ wsX10, w ∈ lw_tbl := by decide +kernel
theorem wsL_law_in0 : ∀ w ∈ wsL_law0, w ∈ lw_tbl := by
  unfold wsL_law0
  exact List.forall_mem_append.mpr ⟨List.forall_mem_append.mpr ⟨List.forall_mem_append.mpr ⟨List.forall_mem_append.mpr ⟨List.forall_mem_append.mpr ⟨List.forall_mem_append.mpr ⟨List.forall_mem_append.mpr ⟨List.forall_mem_append.mpr ⟨List.forall_mem_append.mpr ⟨wsL_law0_r1_in, List.forall_mem_append.mpr ⟨wsL_law0_r2_in, List.forall_mem_append.mpr ⟨wsL_law0_r3_in, List.forall_mem_append.mpr ⟨wsL_law0_r4_in, List.forall_mem_append.mpr ⟨wsL_law0_r5_in, List.forall_mem_append.mpr ⟨wsL_law0_r6_in, List.forall_mem_append.mpr ⟨wsL_law0_r7_in, List.forall_mem_append.mpr ⟨wsL_law0_r8_in, List.forall_mem_append.mpr ⟨wsL_law0_r9_in, List.forall_mem_append.mpr ⟨wsL_law0_r10_in, List.forall_mem_append.mpr ⟨wsL_law0_r11_in, List.forall_mem_append.mpr ⟨wsL_law0_r12_in, List.forall_mem_append.mpr ⟨wsL_law0_r13_in, List.forall_mem_append.mpr ⟨wsL_law0_r14_in, List.forall_mem_append.mpr ⟨wsL_law0_r15_in, List.forall_mem_append.mpr ⟨wsL_law0_r16_in, List.forall_mem_append.mpr ⟨wsL_law0_r17_in, List.forall_mem_append.mpr ⟨wsL_law0_r18_in, List.forall_mem_append.mpr ⟨wsL_law0_r19_in, List.forall_mem_append.mpr ⟨wsL_law0_r20_in, List.forall_mem_append.mpr ⟨wsL_law0_r21_in, List.forall_mem_append.mpr ⟨wsL_law0_r22_in, wsL_law0_r23_in⟩⟩⟩⟩⟩⟩⟩⟩⟩⟩⟩⟩⟩⟩⟩⟩⟩⟩⟩⟩⟩⟩, wsL_law_f_wsX50⟩, wsL_law_f_wsX60⟩, wsL_law_f_wsX20⟩, wsL_law_f_wsX30⟩, wsL_law_f_wsX40⟩, wsL_law_f_wsX00⟩, wsL_law_f_wsX10⟩, fun _ h => absurd h List.not_mem_nil⟩
theorem wsL_law_x0 : ∀ w ∈ (vx_atS RX5 45 "java/lang/IndexOutOfBoundsException" ["java/lang/RuntimeException", "java/lang/Exception"]).filter goodWord, w ∈ lw_tbl := by decide +kernel
theorem wsL_law_x1 : ∀ w ∈ (vx_atS RX5 56 "java/lang/IllegalArgumentException" ["java/lang/RuntimeException", "java/lang/Exception"]).filter goodWord, w ∈ lw_tbl := by decide +kernel
theorem wsL_law_x2 : ∀ w ∈ (vx_atS RX5 118 "java/lang/IllegalStateException" ["java/lang/RuntimeException", "java/lang/Exception"]).filter goodWord, w ∈ lw_tbl := by decide +kernel
theorem wsL_law_in : ∀ w ∈ wsL_law, w ∈ lw_tbl := fun w h => (List.mem_append.mp h).elim (fun h => (List.mem_append.mp h).elim (fun h => (List.mem_append.mp h).elim (fun h => wsL_law_in0 w h) (fun h => wsL_law_x0 w h)) (fun h => wsL_law_x1 w h)) (fun h => wsL_law_x2 w h)
theorem inlX0 : ∀ w ∈ wsX00, w ∈ wsL_law := fun _ h => List.mem_append_left _ (List.mem_append_left _ (List.mem_append_left _ (List.mem_append_left _ (List.mem_append_left _ (List.mem_append_right _ h)))))
theorem inX0 : ∀ w ∈ wsX00, w ∈ lw_tbl := fun w h => wsL_law_in w (inlX0 w h)
theorem inlX1 : ∀ w ∈ wsX10, w ∈ wsL_law := fun _ h => List.mem_append_left _ (List.mem_append_left _ (List.mem_append_left _ (List.mem_append_left _ (List.mem_append_right _ h))))
theorem inX1 : ∀ w ∈ wsX10, w ∈ lw_tbl := fun w h => wsL_law_in w (inlX1 w h)
theorem inlX2 : ∀ w ∈ wsX20, w ∈ wsL_law := fun _ h => List.mem_append_left _ (List.mem_append_left _ (List.mem_append_left _ (List.mem_append_left _ (List.mem_append_left _ (List.mem_append_left _ (List.mem_append_left _ (List.mem_append_left _ (List.mem_append_right _ h))))))))
theorem inX2 : ∀ w ∈ wsX20, w ∈ lw_tbl := fun w h => wsL_law_in w (inlX2 w h)
theorem inlX3 : ∀ w ∈ wsX30, w ∈ wsL_law := fun _ h => List.mem_append_left _ (List.mem_append_left _ (List.mem_append_left _ (List.mem_append_left _ (List.mem_append_left _ (List.mem_append_left _ (List.mem_append_left _ (List.mem_append_right _ h)))))))
theorem inX3 : ∀ w ∈ wsX30, w ∈ lw_tbl := fun w h => wsL_law_in w (inlX3 w h)
theorem inlX4 : ∀ w ∈ wsX40, w ∈ wsL_law := fun _ h => List.mem_append_left _ (List.mem_append_left _ (List.mem_append_left _ (List.mem_append_left _ (List.mem_append_left _ (List.mem_append_left _ (List.mem_append_right _ h))))))
theorem inX4 : ∀ w ∈ wsX40, w ∈ lw_tbl := fun w h => wsL_law_in w (inlX4 w h)
theorem inlX5 : ∀ w ∈ wsX50, w ∈ wsL_law := fun _ h => List.mem_append_left _ (List.mem_append_left _ (List.mem_append_left _ (List.mem_append_left _ (List.mem_append_left _ (List.mem_append_left _ (List.mem_append_left _ (List.mem_append_left _ (List.mem_append_left _ (List.mem_append_left _ (List.mem_append_right _ h))))))))))
theorem inX5 : ∀ w ∈ wsX50, w ∈ lw_tbl := fun w h => wsL_law_in w (inlX5 w h)
theorem inlX6 : ∀ w ∈ wsX60, w ∈ wsL_law := fun _ h => List.mem_append_left _ (List.mem_append_left _ (List.mem_append_left _ (List.mem_append_left _ (List.mem_append_left _ (List.mem_append_left _ (List.mem_append_left _ (List.mem_append_left _ (List.mem_append_left _ (List.mem_append_right _ h)))))))))
theorem inX6 : ∀ w ∈ wsX60, w ∈ lw_tbl := fun w h => wsL_law_in w (inlX6 w h)
theorem inJ9 : ∀ w ∈ wsJ90, w ∈ lw_tbl := by decide +kernel
theorem inJ0 : ∀ w ∈ wsJ00, w ∈ lw_tbl := by decide +kernel
theorem dX0_init_0 : decode cX0_init 0 = .ok (.aload_n 0, 1) := by decide +kernel
theorem dX0_init_1 : decode cX0_init 1 = .ok (.invokespecial 3, 3) := by decide +kernel
theorem dX0_init_4 : decode cX0_init 4 = .ok (.aload_n 0, 1) := by decide +kernel
theorem dX0_init_5 : decode cX0_init 5 = .ok (.sipush 500, 3) := by decide +kernel
theorem dX0_init_8 : decode cX0_init 8 = .ok (.putfield 9, 3) := by decide +kernel
theorem dX0_init_11 : decode cX0_init 11 = .ok (.aload_n 0, 1) := by decide +kernel
theorem dX0_init_12 : decode cX0_init 12 = .ok (.bipush 50, 2) := by decide +kernel
theorem dX0_init_14 : decode cX0_init 14 = .ok (.putfield 15, 3) := by decide +kernel
theorem dX0_init_17 : decode cX0_init 17 = .ok (.aload_n 0, 1) := by decide +kernel
theorem dX0_init_18 : decode cX0_init 18 = .ok (.bipush 40, 2) := by decide +kernel
theorem dX0_init_20 : decode cX0_init 20 = .ok (.putfield 18, 3) := by decide +kernel
theorem dX0_init_23 : decode cX0_init 23 = .ok (.return_, 1) := by decide +kernel
theorem dX0_priceBehind_0 : decode cX0_priceBehind 0 = .ok (.iload_n 2, 1) := by decide +kernel
theorem dX0_priceBehind_1 : decode cX0_priceBehind 1 = .ok (.ifCond .eq 12, 3) := by decide +kernel
theorem dX0_priceBehind_4 : decode cX0_priceBehind 4 = .ok (.iload_n 1, 1) := by decide +kernel
theorem dX0_priceBehind_5 : decode cX0_priceBehind 5 = .ok (.aload_n 0, 1) := by decide +kernel
theorem dX0_priceBehind_6 : decode cX0_priceBehind 6 = .ok (.getfield 15, 3) := by decide +kernel
theorem dX0_priceBehind_9 : decode cX0_priceBehind 9 = .ok (.iadd, 1) := by decide +kernel
theorem dX0_priceBehind_10 : decode cX0_priceBehind 10 = .ok (.goto 13, 3) := by decide +kernel
theorem dX0_priceBehind_13 : decode cX0_priceBehind 13 = .ok (.iconst 1, 1) := by decide +kernel
theorem dX0_priceBehind_14 : decode cX0_priceBehind 14 = .ok (.iload_n 1, 1) := by decide +kernel
theorem dX0_priceBehind_15 : decode cX0_priceBehind 15 = .ok (.aload_n 0, 1) := by decide +kernel
theorem dX0_priceBehind_16 : decode cX0_priceBehind 16 = .ok (.getfield 18, 3) := by decide +kernel
theorem dX0_priceBehind_19 : decode cX0_priceBehind 19 = .ok (.isub, 1) := by decide +kernel
theorem dX0_priceBehind_20 : decode cX0_priceBehind 20 = .ok (.invokestatic 21, 3) := by decide +kernel
theorem dX0_priceBehind_23 : decode cX0_priceBehind 23 = .ok (.ireturn, 1) := by decide +kernel
theorem dX0_levelAt_0 : decode cX0_levelAt 0 = .ok (.aload_n 0, 1) := by decide +kernel
theorem dX0_levelAt_1 : decode cX0_levelAt 1 = .ok (.getfield 9, 3) := by decide +kernel
theorem dX0_levelAt_4 : decode cX0_levelAt 4 = .ok (.bipush 100, 2) := by decide +kernel
theorem dX0_levelAt_6 : decode cX0_levelAt 6 = .ok (.if_icmp .ge 7, 3) := by decide +kernel
theorem dX0_levelAt_9 : decode cX0_levelAt 9 = .ok (.iconst 0, 1) := by decide +kernel
theorem dX0_levelAt_10 : decode cX0_levelAt 10 = .ok (.goto 12, 3) := by decide +kernel
theorem dX0_levelAt_13 : decode cX0_levelAt 13 = .ok (.iload_n 1, 1) := by decide +kernel
theorem dX0_levelAt_14 : decode cX0_levelAt 14 = .ok (.bipush 100, 2) := by decide +kernel
theorem dX0_levelAt_16 : decode cX0_levelAt 16 = .ok (.imul, 1) := by decide +kernel
theorem dX0_levelAt_17 : decode cX0_levelAt 17 = .ok (.aload_n 0, 1) := by decide +kernel
theorem dX0_levelAt_18 : decode cX0_levelAt 18 = .ok (.getfield 9, 3) := by decide +kernel
theorem dX0_levelAt_21 : decode cX0_levelAt 21 = .ok (.idiv, 1) := by decide +kernel
theorem dX0_levelAt_22 : decode cX0_levelAt 22 = .ok (.ireturn, 1) := by decide +kernel
theorem dX1_init_0 : decode cX1_init 0 = .ok (.aload_n 0, 1) := by decide +kernel
theorem dX1_init_1 : decode cX1_init 1 = .ok (.invokespecial 3, 3) := by decide +kernel
theorem dX1_init_4 : decode cX1_init 4 = .ok (.aload_n 0, 1) := by decide +kernel
theorem dX1_init_5 : decode cX1_init 5 = .ok (.sipush 256, 3) := by decide +kernel
theorem dX1_init_8 : decode cX1_init 8 = .ok (.newarray .int, 2) := by decide +kernel
theorem dX1_init_10 : decode cX1_init 10 = .ok (.putfield 9, 3) := by decide +kernel
theorem dX1_init_13 : decode cX1_init 13 = .ok (.aload_n 0, 1) := by decide +kernel
theorem dX1_init_14 : decode cX1_init 14 = .ok (.sipush 256, 3) := by decide +kernel
theorem dX1_init_17 : decode cX1_init 17 = .ok (.newarray .int, 2) := by decide +kernel
theorem dX1_init_19 : decode cX1_init 19 = .ok (.putfield 15, 3) := by decide +kernel
theorem dX1_init_22 : decode cX1_init 22 = .ok (.aload_n 0, 1) := by decide +kernel
theorem dX1_init_23 : decode cX1_init 23 = .ok (.sipush 256, 3) := by decide +kernel
theorem dX1_init_26 : decode cX1_init 26 = .ok (.newarray .int, 2) := by decide +kernel
theorem dX1_init_28 : decode cX1_init 28 = .ok (.putfield 18, 3) := by decide +kernel
theorem dX1_init_31 : decode cX1_init 31 = .ok (.aload_n 0, 1) := by decide +kernel
theorem dX1_init_32 : decode cX1_init 32 = .ok (.sipush 256, 3) := by decide +kernel
theorem dX1_init_35 : decode cX1_init 35 = .ok (.newarray .boolean, 2) := by decide +kernel
theorem dX1_init_37 : decode cX1_init 37 = .ok (.putfield 21, 3) := by decide +kernel
theorem dX1_init_40 : decode cX1_init 40 = .ok (.aload_n 0, 1) := by decide +kernel
theorem dX1_init_41 : decode cX1_init 41 = .ok (.sipush 256, 3) := by decide +kernel
theorem dX1_init_44 : decode cX1_init 44 = .ok (.newarray .long, 2) := by decide +kernel
theorem dX1_init_46 : decode cX1_init 46 = .ok (.putfield 25, 3) := by decide +kernel
theorem dX1_init_49 : decode cX1_init 49 = .ok (.aload_n 0, 1) := by decide +kernel
theorem dX1_init_50 : decode cX1_init 50 = .ok (.sipush 256, 3) := by decide +kernel
theorem dX1_init_53 : decode cX1_init 53 = .ok (.newarray .int, 2) := by decide +kernel
theorem dX1_init_55 : decode cX1_init 55 = .ok (.putfield 29, 3) := by decide +kernel
theorem dX1_init_58 : decode cX1_init 58 = .ok (.aload_n 0, 1) := by decide +kernel
theorem dX1_init_59 : decode cX1_init 59 = .ok (.sipush 256, 3) := by decide +kernel
theorem dX1_init_62 : decode cX1_init 62 = .ok (.newarray .int, 2) := by decide +kernel
theorem dX1_init_64 : decode cX1_init 64 = .ok (.putfield 32, 3) := by decide +kernel
theorem dX1_init_67 : decode cX1_init 67 = .ok (.aload_n 0, 1) := by decide +kernel
theorem dX1_init_68 : decode cX1_init 68 = .ok (.iconst 0, 1) := by decide +kernel
theorem dX1_init_69 : decode cX1_init 69 = .ok (.putfield 35, 3) := by decide +kernel
theorem dX1_init_72 : decode cX1_init 72 = .ok (.return_, 1) := by decide +kernel
theorem dX1_holds_0 : decode cX1_holds 0 = .ok (.iload_n 1, 1) := by decide +kernel
theorem dX1_holds_1 : decode cX1_holds 1 = .ok (.ifCond .lt 22, 3) := by decide +kernel
theorem dX1_holds_4 : decode cX1_holds 4 = .ok (.iload_n 1, 1) := by decide +kernel
theorem dX1_holds_5 : decode cX1_holds 5 = .ok (.aload_n 0, 1) := by decide +kernel
theorem dX1_holds_6 : decode cX1_holds 6 = .ok (.getfield 35, 3) := by decide +kernel
theorem dX1_holds_9 : decode cX1_holds 9 = .ok (.if_icmp .ge 14, 3) := by decide +kernel
theorem dX1_holds_12 : decode cX1_holds 12 = .ok (.iload_n 1, 1) := by decide +kernel
theorem dX1_holds_13 : decode cX1_holds 13 = .ok (.sipush 256, 3) := by decide +kernel
theorem dX1_holds_16 : decode cX1_holds 16 = .ok (.if_icmp .ge 7, 3) := by decide +kernel
theorem dX1_holds_19 : decode cX1_holds 19 = .ok (.iconst 1, 1) := by decide +kernel
theorem dX1_holds_20 : decode cX1_holds 20 = .ok (.goto 4, 3) := by decide +kernel
theorem dX1_holds_23 : decode cX1_holds 23 = .ok (.iconst 0, 1) := by decide +kernel
theorem dX1_holds_24 : decode cX1_holds 24 = .ok (.ireturn, 1) := by decide +kernel
set_option maxRecDepth 20000 in
theorem ggX1_add_X1_find : GoodIn wsX1_add wsX1_find := goodIn_r _ [24, 11, 12, 13, 14, 15, 16, 17, 18, 19, 25, 26, 27, 28, 29, 30, 31, 32, 33, 34, 35, 36, 37, 38, 39, 40] (by decide +kernel) (by decide +kernel)
set_option maxRecDepth 20000 in
theorem gX1_add_X1_find : GoodIn wsX1_add (wsV RX1 39 RX1 yX1_find wsX1_find) := goodIn_app (goodIn_of _ (by decide +kernel)) ggX1_add_X1_find
theorem dX1_add_0 : decode cX1_add 0 = .ok (.aload_n 0, 1) := by decide +kernel
theorem dX1_add_1 : decode cX1_add 1 = .ok (.aload_n 1, 1) := by decide +kernel
theorem dX1_add_2 : decode cX1_add 2 = .ok (.invokevirtual 39, 3) := by decide +kernel
theorem dX1_add_5 : decode cX1_add 5 = .ok (.istore 6, 2) := by decide +kernel
theorem dX1_add_7 : decode cX1_add 7 = .ok (.iload 6, 2) := by decide +kernel
theorem dX1_add_9 : decode cX1_add 9 = .ok (.iconst (-1), 1) := by decide +kernel
theorem dX1_add_10 : decode cX1_add 10 = .ok (.if_icmp .eq 55, 3) := by decide +kernel
theorem dX1_add_13 : decode cX1_add 13 = .ok (.aload_n 0, 1) := by decide +kernel
theorem dX1_add_14 : decode cX1_add 14 = .ok (.getfield 25, 3) := by decide +kernel
theorem dX1_add_17 : decode cX1_add 17 = .ok (.iload 6, 2) := by decide +kernel
theorem dX1_add_19 : decode cX1_add 19 = .ok (.dup2, 1) := by decide +kernel
theorem dX1_add_20 : decode cX1_add 20 = .ok (.laload, 1) := by decide +kernel
theorem dX1_add_21 : decode cX1_add 21 = .ok (.lload_n 2, 1) := by decide +kernel
theorem dX1_add_22 : decode cX1_add 22 = .ok (.ladd, 1) := by decide +kernel
theorem dX1_add_23 : decode cX1_add 23 = .ok (.lastore, 1) := by decide +kernel
theorem dX1_add_24 : decode cX1_add 24 = .ok (.aload_n 0, 1) := by decide +kernel
theorem dX1_add_25 : decode cX1_add 25 = .ok (.getfield 29, 3) := by decide +kernel
theorem dX1_add_28 : decode cX1_add 28 = .ok (.iload 6, 2) := by decide +kernel
theorem dX1_add_30 : decode cX1_add 30 = .ok (.aload_n 0, 1) := by decide +kernel
theorem dX1_add_31 : decode cX1_add 31 = .ok (.getfield 29, 3) := by decide +kernel
theorem dX1_add_34 : decode cX1_add 34 = .ok (.iload 6, 2) := by decide +kernel
theorem dX1_add_36 : decode cX1_add 36 = .ok (.iaload, 1) := by decide +kernel
theorem dX1_add_37 : decode cX1_add 37 = .ok (.iload 4, 2) := by decide +kernel
theorem dX1_add_39 : decode cX1_add 39 = .ok (.invokestatic 43, 3) := by decide +kernel
theorem dX1_add_42 : decode cX1_add 42 = .ok (.iastore, 1) := by decide +kernel
theorem dX1_add_43 : decode cX1_add 43 = .ok (.aload_n 0, 1) := by decide +kernel
theorem dX1_add_44 : decode cX1_add 44 = .ok (.getfield 32, 3) := by decide +kernel
theorem dX1_add_47 : decode cX1_add 47 = .ok (.iload 6, 2) := by decide +kernel
theorem dX1_add_49 : decode cX1_add 49 = .ok (.aload_n 0, 1) := by decide +kernel
theorem dX1_add_50 : decode cX1_add 50 = .ok (.getfield 32, 3) := by decide +kernel
theorem dX1_add_53 : decode cX1_add 53 = .ok (.iload 6, 2) := by decide +kernel
theorem dX1_add_55 : decode cX1_add 55 = .ok (.iaload, 1) := by decide +kernel
theorem dX1_add_56 : decode cX1_add 56 = .ok (.iload 5, 2) := by decide +kernel
theorem dX1_add_58 : decode cX1_add 58 = .ok (.invokestatic 49, 3) := by decide +kernel
theorem dX1_add_61 : decode cX1_add 61 = .ok (.iastore, 1) := by decide +kernel
theorem dX1_add_62 : decode cX1_add 62 = .ok (.goto 114, 3) := by decide +kernel
theorem dX1_add_65 : decode cX1_add 65 = .ok (.aload_n 0, 1) := by decide +kernel
theorem dX1_add_66 : decode cX1_add 66 = .ok (.getfield 35, 3) := by decide +kernel
theorem dX1_add_69 : decode cX1_add 69 = .ok (.ifCond .lt 107, 3) := by decide +kernel
theorem dX1_add_72 : decode cX1_add 72 = .ok (.aload_n 0, 1) := by decide +kernel
theorem dX1_add_73 : decode cX1_add 73 = .ok (.getfield 35, 3) := by decide +kernel
theorem dX1_add_76 : decode cX1_add 76 = .ok (.sipush 256, 3) := by decide +kernel
theorem dX1_add_79 : decode cX1_add 79 = .ok (.if_icmp .ge 97, 3) := by decide +kernel
theorem dX1_add_82 : decode cX1_add 82 = .ok (.aload_n 0, 1) := by decide +kernel
theorem dX1_add_83 : decode cX1_add 83 = .ok (.getfield 9, 3) := by decide +kernel
theorem dX1_add_86 : decode cX1_add 86 = .ok (.aload_n 0, 1) := by decide +kernel
theorem dX1_add_87 : decode cX1_add 87 = .ok (.getfield 35, 3) := by decide +kernel
theorem dX1_add_90 : decode cX1_add 90 = .ok (.aload_n 1, 1) := by decide +kernel
theorem dX1_add_91 : decode cX1_add 91 = .ok (.getfield 52, 3) := by decide +kernel
theorem dX1_add_94 : decode cX1_add 94 = .ok (.iastore, 1) := by decide +kernel
theorem dX1_add_95 : decode cX1_add 95 = .ok (.aload_n 0, 1) := by decide +kernel
theorem dX1_add_96 : decode cX1_add 96 = .ok (.getfield 15, 3) := by decide +kernel
theorem dX1_add_99 : decode cX1_add 99 = .ok (.aload_n 0, 1) := by decide +kernel
theorem dX1_add_100 : decode cX1_add 100 = .ok (.getfield 35, 3) := by decide +kernel
theorem dX1_add_103 : decode cX1_add 103 = .ok (.aload_n 1, 1) := by decide +kernel
theorem dX1_add_104 : decode cX1_add 104 = .ok (.getfield 57, 3) := by decide +kernel
theorem dX1_add_107 : decode cX1_add 107 = .ok (.iastore, 1) := by decide +kernel
theorem dX1_add_108 : decode cX1_add 108 = .ok (.aload_n 0, 1) := by decide +kernel
theorem dX1_add_109 : decode cX1_add 109 = .ok (.getfield 18, 3) := by decide +kernel
theorem dX1_add_112 : decode cX1_add 112 = .ok (.aload_n 0, 1) := by decide +kernel
theorem dX1_add_113 : decode cX1_add 113 = .ok (.getfield 35, 3) := by decide +kernel
theorem dX1_add_116 : decode cX1_add 116 = .ok (.aload_n 1, 1) := by decide +kernel
theorem dX1_add_117 : decode cX1_add 117 = .ok (.getfield 60, 3) := by decide +kernel
theorem dX1_add_120 : decode cX1_add 120 = .ok (.iastore, 1) := by decide +kernel
theorem dX1_add_121 : decode cX1_add 121 = .ok (.aload_n 0, 1) := by decide +kernel
theorem dX1_add_122 : decode cX1_add 122 = .ok (.getfield 21, 3) := by decide +kernel
theorem dX1_add_125 : decode cX1_add 125 = .ok (.aload_n 0, 1) := by decide +kernel
theorem dX1_add_126 : decode cX1_add 126 = .ok (.getfield 35, 3) := by decide +kernel
theorem dX1_add_129 : decode cX1_add 129 = .ok (.aload_n 1, 1) := by decide +kernel
theorem dX1_add_130 : decode cX1_add 130 = .ok (.getfield 63, 3) := by decide +kernel
theorem dX1_add_133 : decode cX1_add 133 = .ok (.bastore, 1) := by decide +kernel
theorem dX1_add_134 : decode cX1_add 134 = .ok (.aload_n 0, 1) := by decide +kernel
theorem dX1_add_135 : decode cX1_add 135 = .ok (.getfield 25, 3) := by decide +kernel
theorem dX1_add_138 : decode cX1_add 138 = .ok (.aload_n 0, 1) := by decide +kernel
theorem dX1_add_139 : decode cX1_add 139 = .ok (.getfield 35, 3) := by decide +kernel
theorem dX1_add_142 : decode cX1_add 142 = .ok (.lload_n 2, 1) := by decide +kernel
theorem dX1_add_143 : decode cX1_add 143 = .ok (.lastore, 1) := by decide +kernel
theorem dX1_add_144 : decode cX1_add 144 = .ok (.aload_n 0, 1) := by decide +kernel
theorem dX1_add_145 : decode cX1_add 145 = .ok (.getfield 29, 3) := by decide +kernel
theorem dX1_add_148 : decode cX1_add 148 = .ok (.aload_n 0, 1) := by decide +kernel
theorem dX1_add_149 : decode cX1_add 149 = .ok (.getfield 35, 3) := by decide +kernel
theorem dX1_add_152 : decode cX1_add 152 = .ok (.iload 4, 2) := by decide +kernel
theorem dX1_add_154 : decode cX1_add 154 = .ok (.iastore, 1) := by decide +kernel
theorem dX1_add_155 : decode cX1_add 155 = .ok (.aload_n 0, 1) := by decide +kernel
theorem dX1_add_156 : decode cX1_add 156 = .ok (.getfield 32, 3) := by decide +kernel
theorem dX1_add_159 : decode cX1_add 159 = .ok (.aload_n 0, 1) := by decide +kernel
theorem dX1_add_160 : decode cX1_add 160 = .ok (.getfield 35, 3) := by decide +kernel
theorem dX1_add_163 : decode cX1_add 163 = .ok (.iload 5, 2) := by decide +kernel
theorem dX1_add_165 : decode cX1_add 165 = .ok (.iastore, 1) := by decide +kernel
theorem dX1_add_166 : decode cX1_add 166 = .ok (.aload_n 0, 1) := by decide +kernel
theorem dX1_add_167 : decode cX1_add 167 = .ok (.dup, 1) := by decide +kernel
theorem dX1_add_168 : decode cX1_add 168 = .ok (.getfield 35, 3) := by decide +kernel
theorem dX1_add_171 : decode cX1_add 171 = .ok (.iconst 1, 1) := by decide +kernel
theorem dX1_add_172 : decode cX1_add 172 = .ok (.iadd, 1) := by decide +kernel
theorem dX1_add_173 : decode cX1_add 173 = .ok (.putfield 35, 3) := by decide +kernel
theorem dX1_add_176 : decode cX1_add 176 = .ok (.return_, 1) := by decide +kernel
theorem dX1_find_0 : decode cX1_find 0 = .ok (.iconst 0, 1) := by decide +kernel
theorem dX1_find_1 : decode cX1_find 1 = .ok (.istore_n 2, 1) := by decide +kernel
theorem dX1_find_2 : decode cX1_find 2 = .ok (.iload_n 2, 1) := by decide +kernel
theorem dX1_find_3 : decode cX1_find 3 = .ok (.aload_n 0, 1) := by decide +kernel
theorem dX1_find_4 : decode cX1_find 4 = .ok (.getfield 35, 3) := by decide +kernel
theorem dX1_find_7 : decode cX1_find 7 = .ok (.if_icmp .ge 70, 3) := by decide +kernel
theorem dX1_find_10 : decode cX1_find 10 = .ok (.iload_n 2, 1) := by decide +kernel
theorem dX1_find_11 : decode cX1_find 11 = .ok (.sipush 256, 3) := by decide +kernel
theorem dX1_find_14 : decode cX1_find 14 = .ok (.if_icmp .ge 63, 3) := by decide +kernel
theorem dX1_find_17 : decode cX1_find 17 = .ok (.aload_n 0, 1) := by decide +kernel
theorem dX1_find_18 : decode cX1_find 18 = .ok (.getfield 9, 3) := by decide +kernel
theorem dX1_find_21 : decode cX1_find 21 = .ok (.iload_n 2, 1) := by decide +kernel
theorem dX1_find_22 : decode cX1_find 22 = .ok (.iaload, 1) := by decide +kernel
theorem dX1_find_23 : decode cX1_find 23 = .ok (.aload_n 1, 1) := by decide +kernel
theorem dX1_find_24 : decode cX1_find 24 = .ok (.getfield 52, 3) := by decide +kernel
theorem dX1_find_27 : decode cX1_find 27 = .ok (.if_icmp .ne 44, 3) := by decide +kernel
theorem dX1_find_30 : decode cX1_find 30 = .ok (.aload_n 0, 1) := by decide +kernel
theorem dX1_find_31 : decode cX1_find 31 = .ok (.getfield 15, 3) := by decide +kernel
theorem dX1_find_34 : decode cX1_find 34 = .ok (.iload_n 2, 1) := by decide +kernel
theorem dX1_find_35 : decode cX1_find 35 = .ok (.iaload, 1) := by decide +kernel
theorem dX1_find_36 : decode cX1_find 36 = .ok (.aload_n 1, 1) := by decide +kernel
theorem dX1_find_37 : decode cX1_find 37 = .ok (.getfield 57, 3) := by decide +kernel
theorem dX1_find_40 : decode cX1_find 40 = .ok (.if_icmp .ne 31, 3) := by decide +kernel
theorem dX1_find_43 : decode cX1_find 43 = .ok (.aload_n 0, 1) := by decide +kernel
theorem dX1_find_44 : decode cX1_find 44 = .ok (.getfield 18, 3) := by decide +kernel
theorem dX1_find_47 : decode cX1_find 47 = .ok (.iload_n 2, 1) := by decide +kernel
theorem dX1_find_48 : decode cX1_find 48 = .ok (.iaload, 1) := by decide +kernel
theorem dX1_find_49 : decode cX1_find 49 = .ok (.aload_n 1, 1) := by decide +kernel
theorem dX1_find_50 : decode cX1_find 50 = .ok (.getfield 60, 3) := by decide +kernel
theorem dX1_find_53 : decode cX1_find 53 = .ok (.if_icmp .ne 18, 3) := by decide +kernel
theorem dX1_find_56 : decode cX1_find 56 = .ok (.aload_n 0, 1) := by decide +kernel
theorem dX1_find_57 : decode cX1_find 57 = .ok (.getfield 21, 3) := by decide +kernel
theorem dX1_find_60 : decode cX1_find 60 = .ok (.iload_n 2, 1) := by decide +kernel
theorem dX1_find_61 : decode cX1_find 61 = .ok (.baload, 1) := by decide +kernel
theorem dX1_find_62 : decode cX1_find 62 = .ok (.aload_n 1, 1) := by decide +kernel
theorem dX1_find_63 : decode cX1_find 63 = .ok (.getfield 63, 3) := by decide +kernel
theorem dX1_find_66 : decode cX1_find 66 = .ok (.if_icmp .ne 5, 3) := by decide +kernel
theorem dX1_find_69 : decode cX1_find 69 = .ok (.iload_n 2, 1) := by decide +kernel
theorem dX1_find_70 : decode cX1_find 70 = .ok (.ireturn, 1) := by decide +kernel
theorem dX1_find_71 : decode cX1_find 71 = .ok (.iinc 2 1, 3) := by decide +kernel
theorem dX1_find_74 : decode cX1_find 74 = .ok (.goto (-72), 3) := by decide +kernel
theorem dX1_find_77 : decode cX1_find 77 = .ok (.iconst (-1), 1) := by decide +kernel
theorem dX1_find_78 : decode cX1_find 78 = .ok (.ireturn, 1) := by decide +kernel
set_option maxRecDepth 20000 in
theorem ggX1_show_X1_holds : GoodIn wsX1_show wsX1_holds := goodIn_r _ [17, 18, 27, 28, 29, 30, 31, 32, 33, 34] (by decide +kernel) (by decide +kernel)
set_option maxRecDepth 20000 in
theorem gX1_show_X1_holds : GoodIn wsX1_show (wsV RX1 67 RX1 yX1_holds wsX1_holds) := goodIn_app (goodIn_of _ (by decide +kernel)) ggX1_show_X1_holds
theorem dX1_show_0 : decode cX1_show 0 = .ok (.aload_n 0, 1) := by decide +kernel
theorem dX1_show_1 : decode cX1_show 1 = .ok (.iload_n 1, 1) := by decide +kernel
theorem dX1_show_2 : decode cX1_show 2 = .ok (.invokevirtual 67, 3) := by decide +kernel
theorem dX1_show_5 : decode cX1_show 5 = .ok (.ifCond .ne 4, 3) := by decide +kernel
theorem dX1_show_8 : decode cX1_show 8 = .ok (.return_, 1) := by decide +kernel
theorem dX1_show_9 : decode cX1_show 9 = .ok (.aload_n 3, 1) := by decide +kernel
theorem dX1_show_10 : decode cX1_show 10 = .ok (.iload_n 2, 1) := by decide +kernel
theorem dX1_show_11 : decode cX1_show 11 = .ok (.putfield 71, 3) := by decide +kernel
theorem dX1_show_14 : decode cX1_show 14 = .ok (.aload_n 3, 1) := by decide +kernel
theorem dX1_show_15 : decode cX1_show 15 = .ok (.aload_n 0, 1) := by decide +kernel
theorem dX1_show_16 : decode cX1_show 16 = .ok (.getfield 9, 3) := by decide +kernel
theorem dX1_show_19 : decode cX1_show 19 = .ok (.iload_n 1, 1) := by decide +kernel
theorem dX1_show_20 : decode cX1_show 20 = .ok (.iaload, 1) := by decide +kernel
theorem dX1_show_21 : decode cX1_show 21 = .ok (.putfield 52, 3) := by decide +kernel
theorem dX1_show_24 : decode cX1_show 24 = .ok (.aload_n 3, 1) := by decide +kernel
theorem dX1_show_25 : decode cX1_show 25 = .ok (.aload_n 0, 1) := by decide +kernel
theorem dX1_show_26 : decode cX1_show 26 = .ok (.getfield 15, 3) := by decide +kernel
theorem dX1_show_29 : decode cX1_show 29 = .ok (.iload_n 1, 1) := by decide +kernel
theorem dX1_show_30 : decode cX1_show 30 = .ok (.iaload, 1) := by decide +kernel
theorem dX1_show_31 : decode cX1_show 31 = .ok (.putfield 57, 3) := by decide +kernel
theorem dX1_show_34 : decode cX1_show 34 = .ok (.aload_n 3, 1) := by decide +kernel
theorem dX1_show_35 : decode cX1_show 35 = .ok (.aload_n 0, 1) := by decide +kernel
theorem dX1_show_36 : decode cX1_show 36 = .ok (.getfield 18, 3) := by decide +kernel
theorem dX1_show_39 : decode cX1_show 39 = .ok (.iload_n 1, 1) := by decide +kernel
theorem dX1_show_40 : decode cX1_show 40 = .ok (.iaload, 1) := by decide +kernel
theorem dX1_show_41 : decode cX1_show 41 = .ok (.putfield 60, 3) := by decide +kernel
theorem dX1_show_44 : decode cX1_show 44 = .ok (.aload_n 3, 1) := by decide +kernel
theorem dX1_show_45 : decode cX1_show 45 = .ok (.aload_n 0, 1) := by decide +kernel
theorem dX1_show_46 : decode cX1_show 46 = .ok (.getfield 21, 3) := by decide +kernel
theorem dX1_show_49 : decode cX1_show 49 = .ok (.iload_n 1, 1) := by decide +kernel
theorem dX1_show_50 : decode cX1_show 50 = .ok (.baload, 1) := by decide +kernel
theorem dX1_show_51 : decode cX1_show 51 = .ok (.putfield 63, 3) := by decide +kernel
theorem dX1_show_54 : decode cX1_show 54 = .ok (.aload_n 3, 1) := by decide +kernel
theorem dX1_show_55 : decode cX1_show 55 = .ok (.iconst 0, 1) := by decide +kernel
theorem dX1_show_56 : decode cX1_show 56 = .ok (.putfield 74, 3) := by decide +kernel
theorem dX1_show_59 : decode cX1_show 59 = .ok (.aload_n 3, 1) := by decide +kernel
theorem dX1_show_60 : decode cX1_show 60 = .ok (.iconst 0, 1) := by decide +kernel
theorem dX1_show_61 : decode cX1_show 61 = .ok (.putfield 77, 3) := by decide +kernel
theorem dX1_show_64 : decode cX1_show 64 = .ok (.aload_n 3, 1) := by decide +kernel
theorem dX1_show_65 : decode cX1_show 65 = .ok (.iconst 0, 1) := by decide +kernel
theorem dX1_show_66 : decode cX1_show 66 = .ok (.putfield 80, 3) := by decide +kernel
theorem dX1_show_69 : decode cX1_show 69 = .ok (.return_, 1) := by decide +kernel
set_option maxRecDepth 20000 in
theorem ggX2_init_X0_init : GoodIn wsX2_init wsX0_init := goodIn_r _ [19, 20, 2, 3, 21, 22, 23, 24, 25, 26] (by decide +kernel) (by decide +kernel)
set_option maxRecDepth 20000 in
theorem gX2_init_X0_init_n11 : GoodIn wsX2_init (wsX0_init) := ggX2_init_X0_init
theorem dX2_init_0 : decode cX2_init 0 = .ok (.aload_n 0, 1) := by decide +kernel
theorem dX2_init_1 : decode cX2_init 1 = .ok (.invokespecial 3, 3) := by decide +kernel
theorem dX2_init_4 : decode cX2_init 4 = .ok (.aload_n 0, 1) := by decide +kernel
theorem dX2_init_5 : decode cX2_init 5 = .ok (.new 9, 3) := by decide +kernel
theorem dX2_init_8 : decode cX2_init 8 = .ok (.dup, 1) := by decide +kernel
theorem dX2_init_9 : decode cX2_init 9 = .ok (.invokespecial 11, 3) := by decide +kernel
theorem dX2_init_12 : decode cX2_init 12 = .ok (.putfield 12, 3) := by decide +kernel
theorem dX2_init_15 : decode cX2_init 15 = .ok (.aload_n 0, 1) := by decide +kernel
theorem dX2_init_16 : decode cX2_init 16 = .ok (.new 9, 3) := by decide +kernel
theorem dX2_init_19 : decode cX2_init 19 = .ok (.dup, 1) := by decide +kernel
theorem dX2_init_20 : decode cX2_init 20 = .ok (.invokespecial 11, 3) := by decide +kernel
theorem dX2_init_23 : decode cX2_init 23 = .ok (.putfield 18, 3) := by decide +kernel
theorem dX2_init_26 : decode cX2_init 26 = .ok (.aload_n 0, 1) := by decide +kernel
theorem dX2_init_27 : decode cX2_init 27 = .ok (.iconst 0, 1) := by decide +kernel
theorem dX2_init_28 : decode cX2_init 28 = .ok (.putfield 21, 3) := by decide +kernel
theorem dX2_init_31 : decode cX2_init 31 = .ok (.aload_n 0, 1) := by decide +kernel
theorem dX2_init_32 : decode cX2_init 32 = .ok (.iconst 5, 1) := by decide +kernel
theorem dX2_init_33 : decode cX2_init 33 = .ok (.putfield 25, 3) := by decide +kernel
theorem dX2_init_36 : decode cX2_init 36 = .ok (.aload_n 0, 1) := by decide +kernel
theorem dX2_init_37 : decode cX2_init 37 = .ok (.iconst 4, 1) := by decide +kernel
theorem dX2_init_38 : decode cX2_init 38 = .ok (.putfield 29, 3) := by decide +kernel
theorem dX2_init_41 : decode cX2_init 41 = .ok (.aload_n 0, 1) := by decide +kernel
theorem dX2_init_42 : decode cX2_init 42 = .ok (.bipush 60, 2) := by decide +kernel
theorem dX2_init_44 : decode cX2_init 44 = .ok (.putfield 32, 3) := by decide +kernel
theorem dX2_init_47 : decode cX2_init 47 = .ok (.aload_n 0, 1) := by decide +kernel
theorem dX2_init_48 : decode cX2_init 48 = .ok (.bipush 80, 2) := by decide +kernel
theorem dX2_init_50 : decode cX2_init 50 = .ok (.putfield 35, 3) := by decide +kernel
theorem dX2_init_53 : decode cX2_init 53 = .ok (.aload_n 0, 1) := by decide +kernel
theorem dX2_init_54 : decode cX2_init 54 = .ok (.bipush 100, 2) := by decide +kernel
theorem dX2_init_56 : decode cX2_init 56 = .ok (.putfield 38, 3) := by decide +kernel
theorem dX2_init_59 : decode cX2_init 59 = .ok (.aload_n 0, 1) := by decide +kernel
theorem dX2_init_60 : decode cX2_init 60 = .ok (.bipush 50, 2) := by decide +kernel
theorem dX2_init_62 : decode cX2_init 62 = .ok (.putfield 41, 3) := by decide +kernel
theorem dX2_init_65 : decode cX2_init 65 = .ok (.aload_n 0, 1) := by decide +kernel
theorem dX2_init_66 : decode cX2_init 66 = .ok (.iconst 0, 1) := by decide +kernel
theorem dX2_init_67 : decode cX2_init 67 = .ok (.putfield 44, 3) := by decide +kernel
theorem dX2_init_70 : decode cX2_init 70 = .ok (.aload_n 0, 1) := by decide +kernel
theorem dX2_init_71 : decode cX2_init 71 = .ok (.iconst 0, 1) := by decide +kernel
theorem dX2_init_72 : decode cX2_init 72 = .ok (.putfield 47, 3) := by decide +kernel
theorem dX2_init_75 : decode cX2_init 75 = .ok (.return_, 1) := by decide +kernel
theorem dX2_weightOf_0 : decode cX2_weightOf 0 = .ok (.iload_n 1, 1) := by decide +kernel
theorem dX2_weightOf_1 : decode cX2_weightOf 1 = .ok (.ifCond .eq 10, 3) := by decide +kernel
theorem dX2_weightOf_4 : decode cX2_weightOf 4 = .ok (.aload_n 0, 1) := by decide +kernel
theorem dX2_weightOf_5 : decode cX2_weightOf 5 = .ok (.getfield 25, 3) := by decide +kernel
theorem dX2_weightOf_8 : decode cX2_weightOf 8 = .ok (.goto 10, 3) := by decide +kernel
theorem dX2_weightOf_11 : decode cX2_weightOf 11 = .ok (.bipush 10, 2) := by decide +kernel
theorem dX2_weightOf_13 : decode cX2_weightOf 13 = .ok (.aload_n 0, 1) := by decide +kernel
theorem dX2_weightOf_14 : decode cX2_weightOf 14 = .ok (.getfield 25, 3) := by decide +kernel
theorem dX2_weightOf_17 : decode cX2_weightOf 17 = .ok (.isub, 1) := by decide +kernel
theorem dX2_weightOf_18 : decode cX2_weightOf 18 = .ok (.ireturn, 1) := by decide +kernel
theorem dX3_init_0 : decode cX3_init 0 = .ok (.aload_n 0, 1) := by decide +kernel
theorem dX3_init_1 : decode cX3_init 1 = .ok (.invokespecial 3, 3) := by decide +kernel
theorem dX3_init_4 : decode cX3_init 4 = .ok (.aload_n 0, 1) := by decide +kernel
theorem dX3_init_5 : decode cX3_init 5 = .ok (.iconst 0, 1) := by decide +kernel
theorem dX3_init_6 : decode cX3_init 6 = .ok (.putfield 9, 3) := by decide +kernel
theorem dX3_init_9 : decode cX3_init 9 = .ok (.aload_n 0, 1) := by decide +kernel
theorem dX3_init_10 : decode cX3_init 10 = .ok (.sipush 500, 3) := by decide +kernel
theorem dX3_init_13 : decode cX3_init 13 = .ok (.putfield 15, 3) := by decide +kernel
theorem dX3_init_16 : decode cX3_init 16 = .ok (.aload_n 0, 1) := by decide +kernel
theorem dX3_init_17 : decode cX3_init 17 = .ok (.sipush 500, 3) := by decide +kernel
theorem dX3_init_20 : decode cX3_init 20 = .ok (.putfield 18, 3) := by decide +kernel
theorem dX3_init_23 : decode cX3_init 23 = .ok (.aload_n 0, 1) := by decide +kernel
theorem dX3_init_24 : decode cX3_init 24 = .ok (.iconst 0, 1) := by decide +kernel
theorem dX3_init_25 : decode cX3_init 25 = .ok (.putfield 21, 3) := by decide +kernel
theorem dX3_init_28 : decode cX3_init 28 = .ok (.aload_n 0, 1) := by decide +kernel
theorem dX3_init_29 : decode cX3_init 29 = .ok (.iconst 0, 1) := by decide +kernel
theorem dX3_init_30 : decode cX3_init 30 = .ok (.putfield 24, 3) := by decide +kernel
theorem dX3_init_33 : decode cX3_init 33 = .ok (.aload_n 0, 1) := by decide +kernel
theorem dX3_init_34 : decode cX3_init 34 = .ok (.iconst 0, 1) := by decide +kernel
theorem dX3_init_35 : decode cX3_init 35 = .ok (.putfield 28, 3) := by decide +kernel
theorem dX3_init_38 : decode cX3_init 38 = .ok (.aload_n 0, 1) := by decide +kernel
theorem dX3_init_39 : decode cX3_init 39 = .ok (.iconst 0, 1) := by decide +kernel
theorem dX3_init_40 : decode cX3_init 40 = .ok (.putfield 31, 3) := by decide +kernel
theorem dX3_init_43 : decode cX3_init 43 = .ok (.aload_n 0, 1) := by decide +kernel
theorem dX3_init_44 : decode cX3_init 44 = .ok (.iconst 0, 1) := by decide +kernel
theorem dX3_init_45 : decode cX3_init 45 = .ok (.putfield 34, 3) := by decide +kernel
theorem dX3_init_48 : decode cX3_init 48 = .ok (.return_, 1) := by decide +kernel
theorem dX3_begin_0 : decode cX3_begin 0 = .ok (.aload_n 0, 1) := by decide +kernel
theorem dX3_begin_1 : decode cX3_begin 1 = .ok (.iconst 0, 1) := by decide +kernel
theorem dX3_begin_2 : decode cX3_begin 2 = .ok (.putfield 9, 3) := by decide +kernel
theorem dX3_begin_5 : decode cX3_begin 5 = .ok (.aload_n 0, 1) := by decide +kernel
theorem dX3_begin_6 : decode cX3_begin 6 = .ok (.aload_n 1, 1) := by decide +kernel
theorem dX3_begin_7 : decode cX3_begin 7 = .ok (.getfield 37, 3) := by decide +kernel
theorem dX3_begin_10 : decode cX3_begin 10 = .ok (.getfield 43, 3) := by decide +kernel
theorem dX3_begin_13 : decode cX3_begin 13 = .ok (.putfield 15, 3) := by decide +kernel
theorem dX3_begin_16 : decode cX3_begin 16 = .ok (.aload_n 0, 1) := by decide +kernel
theorem dX3_begin_17 : decode cX3_begin 17 = .ok (.aload_n 1, 1) := by decide +kernel
theorem dX3_begin_18 : decode cX3_begin 18 = .ok (.getfield 48, 3) := by decide +kernel
theorem dX3_begin_21 : decode cX3_begin 21 = .ok (.getfield 43, 3) := by decide +kernel
theorem dX3_begin_24 : decode cX3_begin 24 = .ok (.putfield 18, 3) := by decide +kernel
theorem dX3_begin_27 : decode cX3_begin 27 = .ok (.aload_n 0, 1) := by decide +kernel
theorem dX3_begin_28 : decode cX3_begin 28 = .ok (.iconst 0, 1) := by decide +kernel
theorem dX3_begin_29 : decode cX3_begin 29 = .ok (.putfield 21, 3) := by decide +kernel
theorem dX3_begin_32 : decode cX3_begin 32 = .ok (.aload_n 0, 1) := by decide +kernel
theorem dX3_begin_33 : decode cX3_begin 33 = .ok (.iconst 0, 1) := by decide +kernel
theorem dX3_begin_34 : decode cX3_begin 34 = .ok (.putfield 24, 3) := by decide +kernel
theorem dX3_begin_37 : decode cX3_begin 37 = .ok (.aload_n 0, 1) := by decide +kernel
theorem dX3_begin_38 : decode cX3_begin 38 = .ok (.iconst 0, 1) := by decide +kernel
theorem dX3_begin_39 : decode cX3_begin 39 = .ok (.putfield 28, 3) := by decide +kernel
theorem dX3_begin_42 : decode cX3_begin 42 = .ok (.aload_n 0, 1) := by decide +kernel
theorem dX3_begin_43 : decode cX3_begin 43 = .ok (.iconst 0, 1) := by decide +kernel
theorem dX3_begin_44 : decode cX3_begin 44 = .ok (.putfield 31, 3) := by decide +kernel
theorem dX3_begin_47 : decode cX3_begin 47 = .ok (.aload_n 0, 1) := by decide +kernel
theorem dX3_begin_48 : decode cX3_begin 48 = .ok (.iconst 0, 1) := by decide +kernel
theorem dX3_begin_49 : decode cX3_begin 49 = .ok (.putfield 34, 3) := by decide +kernel
theorem dX3_begin_52 : decode cX3_begin 52 = .ok (.return_, 1) := by decide +kernel
theorem dX3_copy_0 : decode cX3_copy 0 = .ok (.aload_n 0, 1) := by decide +kernel
theorem dX3_copy_1 : decode cX3_copy 1 = .ok (.aload_n 1, 1) := by decide +kernel
theorem dX3_copy_2 : decode cX3_copy 2 = .ok (.getfield 9, 3) := by decide +kernel
theorem dX3_copy_5 : decode cX3_copy 5 = .ok (.putfield 9, 3) := by decide +kernel
theorem dX3_copy_8 : decode cX3_copy 8 = .ok (.aload_n 0, 1) := by decide +kernel
theorem dX3_copy_9 : decode cX3_copy 9 = .ok (.aload_n 1, 1) := by decide +kernel
theorem dX3_copy_10 : decode cX3_copy 10 = .ok (.getfield 15, 3) := by decide +kernel
theorem dX3_copy_13 : decode cX3_copy 13 = .ok (.putfield 15, 3) := by decide +kernel
theorem dX3_copy_16 : decode cX3_copy 16 = .ok (.aload_n 0, 1) := by decide +kernel
theorem dX3_copy_17 : decode cX3_copy 17 = .ok (.aload_n 1, 1) := by decide +kernel
theorem dX3_copy_18 : decode cX3_copy 18 = .ok (.getfield 18, 3) := by decide +kernel
theorem dX3_copy_21 : decode cX3_copy 21 = .ok (.putfield 18, 3) := by decide +kernel
theorem dX3_copy_24 : decode cX3_copy 24 = .ok (.aload_n 0, 1) := by decide +kernel
theorem dX3_copy_25 : decode cX3_copy 25 = .ok (.aload_n 1, 1) := by decide +kernel
theorem dX3_copy_26 : decode cX3_copy 26 = .ok (.getfield 21, 3) := by decide +kernel
theorem dX3_copy_29 : decode cX3_copy 29 = .ok (.putfield 21, 3) := by decide +kernel
theorem dX3_copy_32 : decode cX3_copy 32 = .ok (.aload_n 0, 1) := by decide +kernel
theorem dX3_copy_33 : decode cX3_copy 33 = .ok (.aload_n 1, 1) := by decide +kernel
theorem dX3_copy_34 : decode cX3_copy 34 = .ok (.getfield 24, 3) := by decide +kernel
theorem dX3_copy_37 : decode cX3_copy 37 = .ok (.putfield 24, 3) := by decide +kernel
theorem dX3_copy_40 : decode cX3_copy 40 = .ok (.aload_n 0, 1) := by decide +kernel
theorem dX3_copy_41 : decode cX3_copy 41 = .ok (.aload_n 1, 1) := by decide +kernel
theorem dX3_copy_42 : decode cX3_copy 42 = .ok (.getfield 28, 3) := by decide +kernel
theorem dX3_copy_45 : decode cX3_copy 45 = .ok (.putfield 28, 3) := by decide +kernel
theorem dX3_copy_48 : decode cX3_copy 48 = .ok (.aload_n 0, 1) := by decide +kernel
theorem dX3_copy_49 : decode cX3_copy 49 = .ok (.aload_n 1, 1) := by decide +kernel
theorem dX3_copy_50 : decode cX3_copy 50 = .ok (.getfield 31, 3) := by decide +kernel
theorem dX3_copy_53 : decode cX3_copy 53 = .ok (.putfield 31, 3) := by decide +kernel
theorem dX3_copy_56 : decode cX3_copy 56 = .ok (.aload_n 0, 1) := by decide +kernel
theorem dX3_copy_57 : decode cX3_copy 57 = .ok (.aload_n 1, 1) := by decide +kernel
theorem dX3_copy_58 : decode cX3_copy 58 = .ok (.getfield 34, 3) := by decide +kernel
theorem dX3_copy_61 : decode cX3_copy 61 = .ok (.putfield 34, 3) := by decide +kernel
theorem dX3_copy_64 : decode cX3_copy 64 = .ok (.return_, 1) := by decide +kernel
set_option maxRecDepth 20000 in
theorem ggX3_worstLevel_X0_levelAt : GoodIn wsX3_worstLevel wsX0_levelAt := goodIn_r _ [13, 14, 34, 35, 36] (by decide +kernel) (by decide +kernel)
set_option maxRecDepth 20000 in
theorem gX3_worstLevel_X0_levelAt : GoodIn wsX3_worstLevel (wsV RX3 51 RX0 yX0_levelAt wsX0_levelAt) := goodIn_app (goodIn_of _ (by decide +kernel)) ggX3_worstLevel_X0_levelAt
theorem dX3_worstLevel_0 : decode cX3_worstLevel 0 = .ok (.aload_n 1, 1) := by decide +kernel
theorem dX3_worstLevel_1 : decode cX3_worstLevel 1 = .ok (.getfield 37, 3) := by decide +kernel
theorem dX3_worstLevel_4 : decode cX3_worstLevel 4 = .ok (.aload_n 0, 1) := by decide +kernel
theorem dX3_worstLevel_5 : decode cX3_worstLevel 5 = .ok (.getfield 15, 3) := by decide +kernel
theorem dX3_worstLevel_8 : decode cX3_worstLevel 8 = .ok (.invokevirtual 51, 3) := by decide +kernel
theorem dX3_worstLevel_11 : decode cX3_worstLevel 11 = .ok (.aload_n 1, 1) := by decide +kernel
theorem dX3_worstLevel_12 : decode cX3_worstLevel 12 = .ok (.getfield 48, 3) := by decide +kernel
theorem dX3_worstLevel_15 : decode cX3_worstLevel 15 = .ok (.aload_n 0, 1) := by decide +kernel
theorem dX3_worstLevel_16 : decode cX3_worstLevel 16 = .ok (.getfield 18, 3) := by decide +kernel
theorem dX3_worstLevel_19 : decode cX3_worstLevel 19 = .ok (.invokevirtual 51, 3) := by decide +kernel
theorem dX3_worstLevel_22 : decode cX3_worstLevel 22 = .ok (.invokestatic 55, 3) := by decide +kernel
theorem dX3_worstLevel_25 : decode cX3_worstLevel 25 = .ok (.ireturn, 1) := by decide +kernel
set_option maxRecDepth 20000 in
theorem ggX3_move_X0_priceBehind : GoodIn wsX3_move wsX0_priceBehind := goodIn_r _ [19, 20, 21, 22, 23, 24, 25, 70, 71, 72] (by decide +kernel) (by decide +kernel)
set_option maxRecDepth 20000 in
theorem gX3_move_X0_priceBehind : GoodIn wsX3_move (wsV RX3 61 RX0 yX0_priceBehind wsX0_priceBehind) := goodIn_app (goodIn_of _ (by decide +kernel)) ggX3_move_X0_priceBehind
set_option maxRecDepth 20000 in
theorem ggX3_move_X3_worstLevel : GoodIn wsX3_move wsX3_worstLevel := goodIn_r _ [30, 2, 3, 4, 5, 31, 32, 24, 33, 34, 35, 36, 18, 37, 38, 59, 60, 61, 62, 63, 64, 65, 66, 67, 68, 69, 51, 52, 53, 54, 55, 56, 57, 58, 70, 71, 72] (by decide +kernel) (by decide +kernel)
set_option maxRecDepth 20000 in
theorem gX3_move_X3_worstLevel : GoodIn wsX3_move (wsV RX3 71 RX3 yX3_worstLevel wsX3_worstLevel) := goodIn_app (goodIn_of _ (by decide +kernel)) ggX3_move_X3_worstLevel
set_option maxRecDepth 20000 in
theorem ggX3_move_X3_takeCoupons : GoodIn wsX3_move wsX3_takeCoupons := goodIn_r _ [42, 43, 44, 45, 46, 59, 60, 61, 62, 63, 64, 65, 66, 67, 68, 69, 51, 52, 53, 54, 55, 56, 57, 58] (by decide +kernel) (by decide +kernel)
set_option maxRecDepth 20000 in
theorem gX3_move_X3_takeCoupons : GoodIn wsX3_move (wsV RX3 81 RX3 yX3_takeCoupons wsX3_takeCoupons) := goodIn_app (goodIn_of _ (by decide +kernel)) ggX3_move_X3_takeCoupons
set_option maxRecDepth 20000 in
theorem ggX3_move_X3_endPay : GoodIn wsX3_move wsX3_endPay := goodIn_r _ [50, 10, 51, 52, 53, 54, 55, 56, 57, 58] (by decide +kernel) (by decide +kernel)
set_option maxRecDepth 20000 in
theorem gX3_move_X3_endPay : GoodIn wsX3_move (wsV RX3 88 RX3 yX3_endPay wsX3_endPay) := goodIn_app (goodIn_of _ (by decide +kernel)) ggX3_move_X3_endPay
theorem dX3_move_0 : decode cX3_move 0 = .ok (.aload_n 0, 1) := by decide +kernel
theorem dX3_move_1 : decode cX3_move 1 = .ok (.dup, 1) := by decide +kernel
theorem dX3_move_2 : decode cX3_move 2 = .ok (.getfield 9, 3) := by decide +kernel
theorem dX3_move_5 : decode cX3_move 5 = .ok (.iconst 1, 1) := by decide +kernel
theorem dX3_move_6 : decode cX3_move 6 = .ok (.iadd, 1) := by decide +kernel
theorem dX3_move_7 : decode cX3_move 7 = .ok (.putfield 9, 3) := by decide +kernel
theorem dX3_move_10 : decode cX3_move 10 = .ok (.aload_n 0, 1) := by decide +kernel
theorem dX3_move_11 : decode cX3_move 11 = .ok (.aload_n 1, 1) := by decide +kernel
theorem dX3_move_12 : decode cX3_move 12 = .ok (.getfield 37, 3) := by decide +kernel
theorem dX3_move_15 : decode cX3_move 15 = .ok (.aload_n 0, 1) := by decide +kernel
theorem dX3_move_16 : decode cX3_move 16 = .ok (.getfield 15, 3) := by decide +kernel
theorem dX3_move_19 : decode cX3_move 19 = .ok (.iload_n 2, 1) := by decide +kernel
theorem dX3_move_20 : decode cX3_move 20 = .ok (.invokevirtual 61, 3) := by decide +kernel
theorem dX3_move_23 : decode cX3_move 23 = .ok (.putfield 15, 3) := by decide +kernel
theorem dX3_move_26 : decode cX3_move 26 = .ok (.aload_n 0, 1) := by decide +kernel
theorem dX3_move_27 : decode cX3_move 27 = .ok (.aload_n 1, 1) := by decide +kernel
theorem dX3_move_28 : decode cX3_move 28 = .ok (.getfield 48, 3) := by decide +kernel
theorem dX3_move_31 : decode cX3_move 31 = .ok (.aload_n 0, 1) := by decide +kernel
theorem dX3_move_32 : decode cX3_move 32 = .ok (.getfield 18, 3) := by decide +kernel
theorem dX3_move_35 : decode cX3_move 35 = .ok (.iload_n 2, 1) := by decide +kernel
theorem dX3_move_36 : decode cX3_move 36 = .ok (.aload_n 1, 1) := by decide +kernel
theorem dX3_move_37 : decode cX3_move 37 = .ok (.getfield 65, 3) := by decide +kernel
theorem dX3_move_40 : decode cX3_move 40 = .ok (.if_icmp .eq 7, 3) := by decide +kernel
theorem dX3_move_43 : decode cX3_move 43 = .ok (.iconst 1, 1) := by decide +kernel
theorem dX3_move_44 : decode cX3_move 44 = .ok (.goto 4, 3) := by decide +kernel
theorem dX3_move_47 : decode cX3_move 47 = .ok (.iconst 0, 1) := by decide +kernel
theorem dX3_move_48 : decode cX3_move 48 = .ok (.invokevirtual 61, 3) := by decide +kernel
theorem dX3_move_51 : decode cX3_move 51 = .ok (.putfield 18, 3) := by decide +kernel
theorem dX3_move_54 : decode cX3_move 54 = .ok (.aload_n 0, 1) := by decide +kernel
theorem dX3_move_55 : decode cX3_move 55 = .ok (.getfield 9, 3) := by decide +kernel
theorem dX3_move_58 : decode cX3_move 58 = .ok (.aload_n 1, 1) := by decide +kernel
theorem dX3_move_59 : decode cX3_move 59 = .ok (.getfield 68, 3) := by decide +kernel
theorem dX3_move_62 : decode cX3_move 62 = .ok (.if_icmp .lt 7, 3) := by decide +kernel
theorem dX3_move_65 : decode cX3_move 65 = .ok (.iconst 1, 1) := by decide +kernel
theorem dX3_move_66 : decode cX3_move 66 = .ok (.goto 4, 3) := by decide +kernel
theorem dX3_move_69 : decode cX3_move 69 = .ok (.iconst 0, 1) := by decide +kernel
theorem dX3_move_70 : decode cX3_move 70 = .ok (.istore_n 3, 1) := by decide +kernel
theorem dX3_move_71 : decode cX3_move 71 = .ok (.aload_n 0, 1) := by decide +kernel
theorem dX3_move_72 : decode cX3_move 72 = .ok (.aload_n 1, 1) := by decide +kernel
theorem dX3_move_73 : decode cX3_move 73 = .ok (.invokevirtual 71, 3) := by decide +kernel
theorem dX3_move_76 : decode cX3_move 76 = .ok (.istore 4, 2) := by decide +kernel
theorem dX3_move_78 : decode cX3_move 78 = .ok (.iload 4, 2) := by decide +kernel
theorem dX3_move_80 : decode cX3_move 80 = .ok (.aload_n 1, 1) := by decide +kernel
theorem dX3_move_81 : decode cX3_move 81 = .ok (.getfield 75, 3) := by decide +kernel
theorem dX3_move_84 : decode cX3_move 84 = .ok (.if_icmp .ge 19, 3) := by decide +kernel
theorem dX3_move_87 : decode cX3_move 87 = .ok (.iload_n 3, 1) := by decide +kernel
theorem dX3_move_88 : decode cX3_move 88 = .ok (.ifCond .ne 10, 3) := by decide +kernel
theorem dX3_move_91 : decode cX3_move 91 = .ok (.aload_n 1, 1) := by decide +kernel
theorem dX3_move_92 : decode cX3_move 92 = .ok (.getfield 78, 3) := by decide +kernel
theorem dX3_move_95 : decode cX3_move 95 = .ok (.ifCond .ne 8, 3) := by decide +kernel
theorem dX3_move_98 : decode cX3_move 98 = .ok (.aload_n 0, 1) := by decide +kernel
theorem dX3_move_99 : decode cX3_move 99 = .ok (.iconst 1, 1) := by decide +kernel
theorem dX3_move_100 : decode cX3_move 100 = .ok (.putfield 24, 3) := by decide +kernel
theorem dX3_move_103 : decode cX3_move 103 = .ok (.aload_n 0, 1) := by decide +kernel
theorem dX3_move_104 : decode cX3_move 104 = .ok (.aload_n 0, 1) := by decide +kernel
theorem dX3_move_105 : decode cX3_move 105 = .ok (.aload_n 1, 1) := by decide +kernel
theorem dX3_move_106 : decode cX3_move 106 = .ok (.iload 4, 2) := by decide +kernel
theorem dX3_move_108 : decode cX3_move 108 = .ok (.invokevirtual 81, 3) := by decide +kernel
theorem dX3_move_111 : decode cX3_move 111 = .ok (.putfield 31, 3) := by decide +kernel
theorem dX3_move_114 : decode cX3_move 114 = .ok (.iload_n 3, 1) := by decide +kernel
theorem dX3_move_115 : decode cX3_move 115 = .ok (.ifCond .ne 12, 3) := by decide +kernel
theorem dX3_move_118 : decode cX3_move 118 = .ok (.iload 4, 2) := by decide +kernel
theorem dX3_move_120 : decode cX3_move 120 = .ok (.aload_n 1, 1) := by decide +kernel
theorem dX3_move_121 : decode cX3_move 121 = .ok (.getfield 85, 3) := by decide +kernel
theorem dX3_move_124 : decode cX3_move 124 = .ok (.if_icmp .lt 24, 3) := by decide +kernel
theorem dX3_move_127 : decode cX3_move 127 = .ok (.aload_n 0, 1) := by decide +kernel
theorem dX3_move_128 : decode cX3_move 128 = .ok (.iconst 1, 1) := by decide +kernel
theorem dX3_move_129 : decode cX3_move 129 = .ok (.putfield 28, 3) := by decide +kernel
theorem dX3_move_132 : decode cX3_move 132 = .ok (.aload_n 0, 1) := by decide +kernel
theorem dX3_move_133 : decode cX3_move 133 = .ok (.dup, 1) := by decide +kernel
theorem dX3_move_134 : decode cX3_move 134 = .ok (.getfield 31, 3) := by decide +kernel
theorem dX3_move_137 : decode cX3_move 137 = .ok (.aload_n 0, 1) := by decide +kernel
theorem dX3_move_138 : decode cX3_move 138 = .ok (.iload 4, 2) := by decide +kernel
theorem dX3_move_140 : decode cX3_move 140 = .ok (.iload_n 3, 1) := by decide +kernel
theorem dX3_move_141 : decode cX3_move 141 = .ok (.invokevirtual 88, 3) := by decide +kernel
theorem dX3_move_144 : decode cX3_move 144 = .ok (.iadd, 1) := by decide +kernel
theorem dX3_move_145 : decode cX3_move 145 = .ok (.putfield 31, 3) := by decide +kernel
theorem dX3_move_148 : decode cX3_move 148 = .ok (.aload_n 0, 1) := by decide +kernel
theorem dX3_move_149 : decode cX3_move 149 = .ok (.dup, 1) := by decide +kernel
theorem dX3_move_150 : decode cX3_move 150 = .ok (.getfield 34, 3) := by decide +kernel
theorem dX3_move_153 : decode cX3_move 153 = .ok (.aload_n 0, 1) := by decide +kernel
theorem dX3_move_154 : decode cX3_move 154 = .ok (.getfield 31, 3) := by decide +kernel
theorem dX3_move_157 : decode cX3_move 157 = .ok (.iadd, 1) := by decide +kernel
theorem dX3_move_158 : decode cX3_move 158 = .ok (.putfield 34, 3) := by decide +kernel
theorem dX3_move_161 : decode cX3_move 161 = .ok (.return_, 1) := by decide +kernel
theorem dX3_takeCoupons_0 : decode cX3_takeCoupons 0 = .ok (.iload_n 2, 1) := by decide +kernel
theorem dX3_takeCoupons_1 : decode cX3_takeCoupons 1 = .ok (.aload_n 1, 1) := by decide +kernel
theorem dX3_takeCoupons_2 : decode cX3_takeCoupons 2 = .ok (.getfield 91, 3) := by decide +kernel
theorem dX3_takeCoupons_5 : decode cX3_takeCoupons 5 = .ok (.if_icmp .ge 15, 3) := by decide +kernel
theorem dX3_takeCoupons_8 : decode cX3_takeCoupons 8 = .ok (.aload_n 0, 1) := by decide +kernel
theorem dX3_takeCoupons_9 : decode cX3_takeCoupons 9 = .ok (.dup, 1) := by decide +kernel
theorem dX3_takeCoupons_10 : decode cX3_takeCoupons 10 = .ok (.getfield 21, 3) := by decide +kernel
theorem dX3_takeCoupons_13 : decode cX3_takeCoupons 13 = .ok (.iconst 1, 1) := by decide +kernel
theorem dX3_takeCoupons_14 : decode cX3_takeCoupons 14 = .ok (.iadd, 1) := by decide +kernel
theorem dX3_takeCoupons_15 : decode cX3_takeCoupons 15 = .ok (.putfield 21, 3) := by decide +kernel
theorem dX3_takeCoupons_18 : decode cX3_takeCoupons 18 = .ok (.iconst 0, 1) := by decide +kernel
theorem dX3_takeCoupons_19 : decode cX3_takeCoupons 19 = .ok (.ireturn, 1) := by decide +kernel
theorem dX3_takeCoupons_20 : decode cX3_takeCoupons 20 = .ok (.aload_n 1, 1) := by decide +kernel
theorem dX3_takeCoupons_21 : decode cX3_takeCoupons 21 = .ok (.getfield 94, 3) := by decide +kernel
theorem dX3_takeCoupons_24 : decode cX3_takeCoupons 24 = .ok (.ifCond .eq 12, 3) := by decide +kernel
theorem dX3_takeCoupons_27 : decode cX3_takeCoupons 27 = .ok (.iconst 1, 1) := by decide +kernel
theorem dX3_takeCoupons_28 : decode cX3_takeCoupons 28 = .ok (.aload_n 0, 1) := by decide +kernel
theorem dX3_takeCoupons_29 : decode cX3_takeCoupons 29 = .ok (.getfield 21, 3) := by decide +kernel
theorem dX3_takeCoupons_32 : decode cX3_takeCoupons 32 = .ok (.iadd, 1) := by decide +kernel
theorem dX3_takeCoupons_33 : decode cX3_takeCoupons 33 = .ok (.goto 4, 3) := by decide +kernel
theorem dX3_takeCoupons_36 : decode cX3_takeCoupons 36 = .ok (.iconst 1, 1) := by decide +kernel
theorem dX3_takeCoupons_37 : decode cX3_takeCoupons 37 = .ok (.istore_n 3, 1) := by decide +kernel
theorem dX3_takeCoupons_38 : decode cX3_takeCoupons 38 = .ok (.aload_n 0, 1) := by decide +kernel
theorem dX3_takeCoupons_39 : decode cX3_takeCoupons 39 = .ok (.iconst 0, 1) := by decide +kernel
theorem dX3_takeCoupons_40 : decode cX3_takeCoupons 40 = .ok (.putfield 21, 3) := by decide +kernel
theorem dX3_takeCoupons_43 : decode cX3_takeCoupons 43 = .ok (.iload_n 3, 1) := by decide +kernel
theorem dX3_takeCoupons_44 : decode cX3_takeCoupons 44 = .ok (.aload_n 1, 1) := by decide +kernel
theorem dX3_takeCoupons_45 : decode cX3_takeCoupons 45 = .ok (.getfield 97, 3) := by decide +kernel
theorem dX3_takeCoupons_48 : decode cX3_takeCoupons 48 = .ok (.imul, 1) := by decide +kernel
theorem dX3_takeCoupons_49 : decode cX3_takeCoupons 49 = .ok (.ireturn, 1) := by decide +kernel
theorem dX3_endPay_0 : decode cX3_endPay 0 = .ok (.iload_n 2, 1) := by decide +kernel
theorem dX3_endPay_1 : decode cX3_endPay 1 = .ok (.ifCond .eq 20, 3) := by decide +kernel
theorem dX3_endPay_4 : decode cX3_endPay 4 = .ok (.aload_n 0, 1) := by decide +kernel
theorem dX3_endPay_5 : decode cX3_endPay 5 = .ok (.getfield 24, 3) := by decide +kernel
theorem dX3_endPay_8 : decode cX3_endPay 8 = .ok (.ifCond .eq 13, 3) := by decide +kernel
theorem dX3_endPay_11 : decode cX3_endPay 11 = .ok (.iload_n 1, 1) := by decide +kernel
theorem dX3_endPay_12 : decode cX3_endPay 12 = .ok (.bipush 100, 2) := by decide +kernel
theorem dX3_endPay_14 : decode cX3_endPay 14 = .ok (.if_icmp .ge 7, 3) := by decide +kernel
theorem dX3_endPay_17 : decode cX3_endPay 17 = .ok (.iconst 1, 1) := by decide +kernel
theorem dX3_endPay_18 : decode cX3_endPay 18 = .ok (.goto 4, 3) := by decide +kernel
theorem dX3_endPay_21 : decode cX3_endPay 21 = .ok (.iconst 0, 1) := by decide +kernel
theorem dX3_endPay_22 : decode cX3_endPay 22 = .ok (.istore_n 3, 1) := by decide +kernel
theorem dX3_endPay_23 : decode cX3_endPay 23 = .ok (.iload_n 3, 1) := by decide +kernel
theorem dX3_endPay_24 : decode cX3_endPay 24 = .ok (.ifCond .eq 10, 3) := by decide +kernel
theorem dX3_endPay_27 : decode cX3_endPay 27 = .ok (.bipush 10, 2) := by decide +kernel
theorem dX3_endPay_29 : decode cX3_endPay 29 = .ok (.iload_n 1, 1) := by decide +kernel
theorem dX3_endPay_30 : decode cX3_endPay 30 = .ok (.imul, 1) := by decide +kernel
theorem dX3_endPay_31 : decode cX3_endPay 31 = .ok (.goto 6, 3) := by decide +kernel
theorem dX3_endPay_34 : decode cX3_endPay 34 = .ok (.sipush 1000, 3) := by decide +kernel
theorem dX3_endPay_37 : decode cX3_endPay 37 = .ok (.ireturn, 1) := by decide +kernel
set_option maxRecDepth 20000 in
theorem ggX4_init_X3_init : GoodIn wsX4_init wsX3_init := goodIn_r _ [21, 22, 2, 3, 23, 24, 25, 26, 27, 28, 29, 30, 44, 45, 46, 47, 48, 49, 50, 51] (by decide +kernel) (by decide +kernel)
set_option maxRecDepth 20000 in
theorem gX4_init_X3_init_n11 : GoodIn wsX4_init (wsX3_init) := ggX4_init_X3_init
set_option maxRecDepth 20000 in
theorem ggX4_init_X1_init : GoodIn wsX4_init wsX1_init := goodIn_r _ [32, 33, 2, 3, 34, 35, 36, 37, 38, 39, 8, 40, 41, 42, 43, 61, 62, 63, 64, 65, 66, 67, 68] (by decide +kernel) (by decide +kernel)
set_option maxRecDepth 20000 in
theorem gX4_init_X1_init_n24 : GoodIn wsX4_init (wsX1_init) := ggX4_init_X1_init
theorem dX4_init_0 : decode cX4_init 0 = .ok (.aload_n 0, 1) := by decide +kernel
theorem dX4_init_1 : decode cX4_init 1 = .ok (.invokespecial 3, 3) := by decide +kernel
theorem dX4_init_4 : decode cX4_init 4 = .ok (.aload_n 0, 1) := by decide +kernel
theorem dX4_init_5 : decode cX4_init 5 = .ok (.new 9, 3) := by decide +kernel
theorem dX4_init_8 : decode cX4_init 8 = .ok (.dup, 1) := by decide +kernel
theorem dX4_init_9 : decode cX4_init 9 = .ok (.invokespecial 11, 3) := by decide +kernel
theorem dX4_init_12 : decode cX4_init 12 = .ok (.putfield 12, 3) := by decide +kernel
theorem dX4_init_15 : decode cX4_init 15 = .ok (.aload_n 0, 1) := by decide +kernel
theorem dX4_init_16 : decode cX4_init 16 = .ok (.bipush 9, 2) := by decide +kernel
theorem dX4_init_18 : decode cX4_init 18 = .ok (.newarray .long, 2) := by decide +kernel
theorem dX4_init_20 : decode cX4_init 20 = .ok (.putfield 18, 3) := by decide +kernel
theorem dX4_init_23 : decode cX4_init 23 = .ok (.aload_n 0, 1) := by decide +kernel
theorem dX4_init_24 : decode cX4_init 24 = .ok (.new 22, 3) := by decide +kernel
theorem dX4_init_27 : decode cX4_init 27 = .ok (.dup, 1) := by decide +kernel
theorem dX4_init_28 : decode cX4_init 28 = .ok (.invokespecial 24, 3) := by decide +kernel
theorem dX4_init_31 : decode cX4_init 31 = .ok (.putfield 25, 3) := by decide +kernel
theorem dX4_init_34 : decode cX4_init 34 = .ok (.aload_n 0, 1) := by decide +kernel
theorem dX4_init_35 : decode cX4_init 35 = .ok (.new 22, 3) := by decide +kernel
theorem dX4_init_38 : decode cX4_init 38 = .ok (.dup, 1) := by decide +kernel
theorem dX4_init_39 : decode cX4_init 39 = .ok (.invokespecial 24, 3) := by decide +kernel
theorem dX4_init_42 : decode cX4_init 42 = .ok (.putfield 29, 3) := by decide +kernel
theorem dX4_init_45 : decode cX4_init 45 = .ok (.aload_n 0, 1) := by decide +kernel
theorem dX4_init_46 : decode cX4_init 46 = .ok (.lconst 0, 1) := by decide +kernel
theorem dX4_init_47 : decode cX4_init 47 = .ok (.putfield 32, 3) := by decide +kernel
theorem dX4_init_50 : decode cX4_init 50 = .ok (.aload_n 0, 1) := by decide +kernel
theorem dX4_init_51 : decode cX4_init 51 = .ok (.lconst 0, 1) := by decide +kernel
theorem dX4_init_52 : decode cX4_init 52 = .ok (.putfield 36, 3) := by decide +kernel
theorem dX4_init_55 : decode cX4_init 55 = .ok (.aload_n 0, 1) := by decide +kernel
theorem dX4_init_56 : decode cX4_init 56 = .ok (.iconst 0, 1) := by decide +kernel
theorem dX4_init_57 : decode cX4_init 57 = .ok (.putfield 39, 3) := by decide +kernel
theorem dX4_init_60 : decode cX4_init 60 = .ok (.aload_n 0, 1) := by decide +kernel
theorem dX4_init_61 : decode cX4_init 61 = .ok (.iconst 0, 1) := by decide +kernel
theorem dX4_init_62 : decode cX4_init 62 = .ok (.putfield 43, 3) := by decide +kernel
theorem dX4_init_65 : decode cX4_init 65 = .ok (.aload_n 0, 1) := by decide +kernel
theorem dX4_init_66 : decode cX4_init 66 = .ok (.iconst 0, 1) := by decide +kernel
theorem dX4_init_67 : decode cX4_init 67 = .ok (.putfield 46, 3) := by decide +kernel
theorem dX4_init_70 : decode cX4_init 70 = .ok (.return_, 1) := by decide +kernel
set_option maxRecDepth 20000 in
theorem ggX4_grow_X4_clear : GoodIn wsX4_grow wsX4_clear := goodIn_r _ [14, 15, 16, 3, 17, 5, 18, 147, 148, 149, 150, 151, 152, 153, 154, 155] (by decide +kernel) (by decide +kernel)
set_option maxRecDepth 20000 in
theorem gX4_grow_X4_clear : GoodIn wsX4_grow (wsV RX4 49 RX4 yX4_clear wsX4_clear) := goodIn_app (goodIn_of _ (by decide +kernel)) ggX4_grow_X4_clear
set_option maxRecDepth 20000 in
theorem ggX4_grow_X1_add : GoodIn wsX4_grow wsX1_add := goodIn_r _ [23, 24, 25, 26, 27, 28, 29, 30, 31, 32, 33, 34, 35, 36, 37, 38, 39, 40, 41, 42, 43, 44, 45, 22, 46, 156, 157, 158, 159, 160, 161, 162, 163, 139, 140, 141, 142, 143, 144, 145, 146] (by decide +kernel) (by decide +kernel)
set_option maxRecDepth 20000 in
theorem gX4_grow_X1_add : GoodIn wsX4_grow (wsV RX4 62 RX1 yX1_add wsX1_add) := goodIn_app (goodIn_of _ (by decide +kernel)) ggX4_grow_X1_add
set_option maxRecDepth 20000 in
theorem ggX4_grow_X4_growPeriod : GoodIn wsX4_grow wsX4_growPeriod := goodIn_r _ [50, 51, 7, 6, 52, 53, 54, 13, 55, 56, 57, 9, 58, 59, 60, 16, 1, 61, 62, 63, 22, 64, 34, 65, 66, 67, 68, 69, 35, 36, 37, 38, 39, 40, 41, 42, 70, 71, 72, 73, 74, 75, 76, 77, 78, 79, 80, 81, 82, 83, 84, 85, 86, 87, 88, 89, 90, 91, 92, 93, 94, 95, 96, 97, 98, 99, 100, 32, 28, 33, 101, 102, 103, 104, 105, 27, 29, 106, 107, 108, 109, 110, 111, 112, 113, 114, 115, 116, 117, 118, 119, 120, 121, 122, 123, 124, 125, 126, 127, 128, 129, 130, 131, 132, 133, 134, 135, 136, 15, 2, 3, 5, 137, 18, 138, 19, 20, 21, 23, 24, 25, 26, 30, 31, 43, 44, 45, 46, 147, 148, 149, 150, 151, 152, 153, 154, 155, 156, 157, 158, 159, 160, 161, 162, 163, 164, 165, 166, 167, 168, 169, 170, 171, 172, 173, 174, 139, 140, 141, 142, 143, 144, 145, 146, 175, 176, 177] (by decide +kernel) (by decide +kernel)
set_option maxRecDepth 20000 in
theorem gX4_grow_X4_growPeriod : GoodIn wsX4_grow (wsV RX4 74 RX4 yX4_growPeriod wsX4_growPeriod) := goodIn_app (goodIn_of _ (by decide +kernel)) ggX4_grow_X4_growPeriod
theorem dX4_grow_0 : decode cX4_grow 0 = .ok (.aload_n 0, 1) := by decide +kernel
theorem dX4_grow_1 : decode cX4_grow 1 = .ok (.invokevirtual 49, 3) := by decide +kernel
theorem dX4_grow_4 : decode cX4_grow 4 = .ok (.aload_n 2, 1) := by decide +kernel
theorem dX4_grow_5 : decode cX4_grow 5 = .ok (.getfield 52, 3) := by decide +kernel
theorem dX4_grow_8 : decode cX4_grow 8 = .ok (.ifCond .eq 30, 3) := by decide +kernel
theorem dX4_grow_11 : decode cX4_grow 11 = .ok (.aload_n 0, 1) := by decide +kernel
theorem dX4_grow_12 : decode cX4_grow 12 = .ok (.aload_n 2, 1) := by decide +kernel
theorem dX4_grow_13 : decode cX4_grow 13 = .ok (.getfield 56, 3) := by decide +kernel
theorem dX4_grow_16 : decode cX4_grow 16 = .ok (.ifCond .eq 7, 3) := by decide +kernel
theorem dX4_grow_19 : decode cX4_grow 19 = .ok (.lconst 1, 1) := by decide +kernel
theorem dX4_grow_20 : decode cX4_grow 20 = .ok (.goto 4, 3) := by decide +kernel
theorem dX4_grow_23 : decode cX4_grow 23 = .ok (.lconst 0, 1) := by decide +kernel
theorem dX4_grow_24 : decode cX4_grow 24 = .ok (.putfield 36, 3) := by decide +kernel
theorem dX4_grow_27 : decode cX4_grow 27 = .ok (.aload_n 0, 1) := by decide +kernel
theorem dX4_grow_28 : decode cX4_grow 28 = .ok (.iconst 1, 1) := by decide +kernel
theorem dX4_grow_29 : decode cX4_grow 29 = .ok (.putfield 39, 3) := by decide +kernel
theorem dX4_grow_32 : decode cX4_grow 32 = .ok (.aload_n 0, 1) := by decide +kernel
theorem dX4_grow_33 : decode cX4_grow 33 = .ok (.iconst 0, 1) := by decide +kernel
theorem dX4_grow_34 : decode cX4_grow 34 = .ok (.putfield 43, 3) := by decide +kernel
theorem dX4_grow_37 : decode cX4_grow 37 = .ok (.return_, 1) := by decide +kernel
theorem dX4_grow_38 : decode cX4_grow 38 = .ok (.aload_n 0, 1) := by decide +kernel
theorem dX4_grow_39 : decode cX4_grow 39 = .ok (.getfield 25, 3) := by decide +kernel
theorem dX4_grow_42 : decode cX4_grow 42 = .ok (.iconst 0, 1) := by decide +kernel
theorem dX4_grow_43 : decode cX4_grow 43 = .ok (.putfield 59, 3) := by decide +kernel
theorem dX4_grow_46 : decode cX4_grow 46 = .ok (.aload_n 0, 1) := by decide +kernel
theorem dX4_grow_47 : decode cX4_grow 47 = .ok (.getfield 25, 3) := by decide +kernel
theorem dX4_grow_50 : decode cX4_grow 50 = .ok (.aload_n 2, 1) := by decide +kernel
theorem dX4_grow_51 : decode cX4_grow 51 = .ok (.lconst 1, 1) := by decide +kernel
theorem dX4_grow_52 : decode cX4_grow 52 = .ok (.iconst 0, 1) := by decide +kernel
theorem dX4_grow_53 : decode cX4_grow 53 = .ok (.iconst 0, 1) := by decide +kernel
theorem dX4_grow_54 : decode cX4_grow 54 = .ok (.invokevirtual 62, 3) := by decide +kernel
theorem dX4_grow_57 : decode cX4_grow 57 = .ok (.aload_n 2, 1) := by decide +kernel
theorem dX4_grow_58 : decode cX4_grow 58 = .ok (.getfield 66, 3) := by decide +kernel
theorem dX4_grow_61 : decode cX4_grow 61 = .ok (.iconst 1, 1) := by decide +kernel
theorem dX4_grow_62 : decode cX4_grow 62 = .ok (.iadd, 1) := by decide +kernel
theorem dX4_grow_63 : decode cX4_grow 63 = .ok (.istore_n 3, 1) := by decide +kernel
theorem dX4_grow_64 : decode cX4_grow 64 = .ok (.iload_n 3, 1) := by decide +kernel
theorem dX4_grow_65 : decode cX4_grow 65 = .ok (.aload_n 1, 1) := by decide +kernel
theorem dX4_grow_66 : decode cX4_grow 66 = .ok (.getfield 69, 3) := by decide +kernel
theorem dX4_grow_69 : decode cX4_grow 69 = .ok (.if_icmp .gt 15, 3) := by decide +kernel
theorem dX4_grow_72 : decode cX4_grow 72 = .ok (.aload_n 0, 1) := by decide +kernel
theorem dX4_grow_73 : decode cX4_grow 73 = .ok (.aload_n 1, 1) := by decide +kernel
theorem dX4_grow_74 : decode cX4_grow 74 = .ok (.iload_n 3, 1) := by decide +kernel
theorem dX4_grow_75 : decode cX4_grow 75 = .ok (.invokevirtual 74, 3) := by decide +kernel
theorem dX4_grow_78 : decode cX4_grow 78 = .ok (.iinc 3 1, 3) := by decide +kernel
theorem dX4_grow_81 : decode cX4_grow 81 = .ok (.goto (-17), 3) := by decide +kernel
theorem dX4_grow_84 : decode cX4_grow 84 = .ok (.aload_n 0, 1) := by decide +kernel
theorem dX4_grow_85 : decode cX4_grow 85 = .ok (.aload_n 0, 1) := by decide +kernel
theorem dX4_grow_86 : decode cX4_grow 86 = .ok (.getfield 25, 3) := by decide +kernel
theorem dX4_grow_89 : decode cX4_grow 89 = .ok (.getfield 59, 3) := by decide +kernel
theorem dX4_grow_92 : decode cX4_grow 92 = .ok (.putfield 39, 3) := by decide +kernel
theorem dX4_grow_95 : decode cX4_grow 95 = .ok (.return_, 1) := by decide +kernel
theorem dX4_endSumOf_0 : decode cX4_endSumOf 0 = .ok (.iload_n 1, 1) := by decide +kernel
theorem dX4_endSumOf_1 : decode cX4_endSumOf 1 = .ok (.ifCond .lt 21, 3) := by decide +kernel
theorem dX4_endSumOf_4 : decode cX4_endSumOf 4 = .ok (.iload_n 1, 1) := by decide +kernel
theorem dX4_endSumOf_5 : decode cX4_endSumOf 5 = .ok (.aload_n 0, 1) := by decide +kernel
theorem dX4_endSumOf_6 : decode cX4_endSumOf 6 = .ok (.getfield 18, 3) := by decide +kernel
theorem dX4_endSumOf_9 : decode cX4_endSumOf 9 = .ok (.arraylength, 1) := by decide +kernel
theorem dX4_endSumOf_10 : decode cX4_endSumOf 10 = .ok (.if_icmp .ge 12, 3) := by decide +kernel
theorem dX4_endSumOf_13 : decode cX4_endSumOf 13 = .ok (.aload_n 0, 1) := by decide +kernel
theorem dX4_endSumOf_14 : decode cX4_endSumOf 14 = .ok (.getfield 18, 3) := by decide +kernel
theorem dX4_endSumOf_17 : decode cX4_endSumOf 17 = .ok (.iload_n 1, 1) := by decide +kernel
theorem dX4_endSumOf_18 : decode cX4_endSumOf 18 = .ok (.laload, 1) := by decide +kernel
theorem dX4_endSumOf_19 : decode cX4_endSumOf 19 = .ok (.goto 4, 3) := by decide +kernel
theorem dX4_endSumOf_22 : decode cX4_endSumOf 22 = .ok (.lconst 0, 1) := by decide +kernel
theorem dX4_endSumOf_23 : decode cX4_endSumOf 23 = .ok (.lreturn, 1) := by decide +kernel
theorem dX4_clear_0 : decode cX4_clear 0 = .ok (.iconst 0, 1) := by decide +kernel
theorem dX4_clear_1 : decode cX4_clear 1 = .ok (.istore_n 1, 1) := by decide +kernel
theorem dX4_clear_2 : decode cX4_clear 2 = .ok (.iload_n 1, 1) := by decide +kernel
theorem dX4_clear_3 : decode cX4_clear 3 = .ok (.aload_n 0, 1) := by decide +kernel
theorem dX4_clear_4 : decode cX4_clear 4 = .ok (.getfield 18, 3) := by decide +kernel
theorem dX4_clear_7 : decode cX4_clear 7 = .ok (.arraylength, 1) := by decide +kernel
theorem dX4_clear_8 : decode cX4_clear 8 = .ok (.if_icmp .ge 16, 3) := by decide +kernel
theorem dX4_clear_11 : decode cX4_clear 11 = .ok (.aload_n 0, 1) := by decide +kernel
theorem dX4_clear_12 : decode cX4_clear 12 = .ok (.getfield 18, 3) := by decide +kernel
theorem dX4_clear_15 : decode cX4_clear 15 = .ok (.iload_n 1, 1) := by decide +kernel
theorem dX4_clear_16 : decode cX4_clear 16 = .ok (.lconst 0, 1) := by decide +kernel
theorem dX4_clear_17 : decode cX4_clear 17 = .ok (.lastore, 1) := by decide +kernel
theorem dX4_clear_18 : decode cX4_clear 18 = .ok (.iinc 1 1, 3) := by decide +kernel
theorem dX4_clear_21 : decode cX4_clear 21 = .ok (.goto (-19), 3) := by decide +kernel
theorem dX4_clear_24 : decode cX4_clear 24 = .ok (.aload_n 0, 1) := by decide +kernel
theorem dX4_clear_25 : decode cX4_clear 25 = .ok (.lconst 0, 1) := by decide +kernel
theorem dX4_clear_26 : decode cX4_clear 26 = .ok (.putfield 32, 3) := by decide +kernel
theorem dX4_clear_29 : decode cX4_clear 29 = .ok (.aload_n 0, 1) := by decide +kernel
theorem dX4_clear_30 : decode cX4_clear 30 = .ok (.lconst 0, 1) := by decide +kernel
theorem dX4_clear_31 : decode cX4_clear 31 = .ok (.putfield 36, 3) := by decide +kernel
theorem dX4_clear_34 : decode cX4_clear 34 = .ok (.aload_n 0, 1) := by decide +kernel
theorem dX4_clear_35 : decode cX4_clear 35 = .ok (.ldc 80, 2) := by decide +kernel
theorem dX4_clear_37 : decode cX4_clear 37 = .ok (.putfield 43, 3) := by decide +kernel
theorem dX4_clear_40 : decode cX4_clear 40 = .ok (.aload_n 0, 1) := by decide +kernel
theorem dX4_clear_41 : decode cX4_clear 41 = .ok (.iconst 0, 1) := by decide +kernel
theorem dX4_clear_42 : decode cX4_clear 42 = .ok (.putfield 46, 3) := by decide +kernel
theorem dX4_clear_45 : decode cX4_clear 45 = .ok (.return_, 1) := by decide +kernel
set_option maxRecDepth 20000 in
theorem ggX4_growPeriod_X4_growBranch : GoodIn wsX4_growPeriod wsX4_growBranch := goodIn_r _ [8, 3, 9, 10, 11, 12, 13, 14, 15, 16, 1, 17, 18, 19, 20, 21, 22, 23, 24, 25, 26, 27, 28, 29, 30, 31, 32, 33, 34, 35, 36, 37, 38, 39, 40, 41, 42, 43, 44, 45, 46, 47, 48, 49, 50, 51, 52, 53, 54, 55, 56, 57, 58, 59, 60, 61, 62, 63, 64, 65, 66, 67, 68, 69, 70, 71, 72, 73, 74, 75, 76, 77, 78, 79, 80, 81, 82, 83, 84, 85, 86, 87, 88, 89, 90, 91, 92, 93, 94, 95, 96, 97, 98, 99, 100, 101, 102, 103, 104, 105, 106, 7, 107, 108, 109, 110, 111, 112, 113, 114, 115, 116, 117, 118, 119, 120, 121, 122, 123, 124, 125, 126, 127, 128, 129, 130, 131, 132, 133, 134, 135, 136, 137, 138, 139, 140, 141, 142, 143, 144, 145, 146, 147, 148, 149, 150, 151, 152, 153, 154, 155, 156, 157, 158, 159, 160, 161, 162, 163, 164, 165, 166] (by decide +kernel) (by decide +kernel)
set_option maxRecDepth 20000 in
theorem gX4_growPeriod_X4_growBranch : GoodIn wsX4_growPeriod (wsV RX4 81 RX4 yX4_growBranch wsX4_growBranch) := goodIn_app (goodIn_of _ (by decide +kernel)) ggX4_growPeriod_X4_growBranch
theorem dX4_growPeriod_0 : decode cX4_growPeriod 0 = .ok (.aload_n 0, 1) := by decide +kernel
theorem dX4_growPeriod_1 : decode cX4_growPeriod 1 = .ok (.getfield 29, 3) := by decide +kernel
theorem dX4_growPeriod_4 : decode cX4_growPeriod 4 = .ok (.iconst 0, 1) := by decide +kernel
theorem dX4_growPeriod_5 : decode cX4_growPeriod 5 = .ok (.putfield 59, 3) := by decide +kernel
theorem dX4_growPeriod_8 : decode cX4_growPeriod 8 = .ok (.iconst 0, 1) := by decide +kernel
theorem dX4_growPeriod_9 : decode cX4_growPeriod 9 = .ok (.istore_n 3, 1) := by decide +kernel
theorem dX4_growPeriod_10 : decode cX4_growPeriod 10 = .ok (.iload_n 3, 1) := by decide +kernel
theorem dX4_growPeriod_11 : decode cX4_growPeriod 11 = .ok (.aload_n 0, 1) := by decide +kernel
theorem dX4_growPeriod_12 : decode cX4_growPeriod 12 = .ok (.getfield 25, 3) := by decide +kernel
theorem dX4_growPeriod_15 : decode cX4_growPeriod 15 = .ok (.getfield 59, 3) := by decide +kernel
theorem dX4_growPeriod_18 : decode cX4_growPeriod 18 = .ok (.if_icmp .ge 25, 3) := by decide +kernel
theorem dX4_growPeriod_21 : decode cX4_growPeriod 21 = .ok (.aload_n 0, 1) := by decide +kernel
theorem dX4_growPeriod_22 : decode cX4_growPeriod 22 = .ok (.aload_n 1, 1) := by decide +kernel
theorem dX4_growPeriod_23 : decode cX4_growPeriod 23 = .ok (.iload_n 2, 1) := by decide +kernel
theorem dX4_growPeriod_24 : decode cX4_growPeriod 24 = .ok (.iload_n 3, 1) := by decide +kernel
theorem dX4_growPeriod_25 : decode cX4_growPeriod 25 = .ok (.iconst 1, 1) := by decide +kernel
theorem dX4_growPeriod_26 : decode cX4_growPeriod 26 = .ok (.invokevirtual 81, 3) := by decide +kernel
theorem dX4_growPeriod_29 : decode cX4_growPeriod 29 = .ok (.aload_n 0, 1) := by decide +kernel
theorem dX4_growPeriod_30 : decode cX4_growPeriod 30 = .ok (.aload_n 1, 1) := by decide +kernel
theorem dX4_growPeriod_31 : decode cX4_growPeriod 31 = .ok (.iload_n 2, 1) := by decide +kernel
theorem dX4_growPeriod_32 : decode cX4_growPeriod 32 = .ok (.iload_n 3, 1) := by decide +kernel
theorem dX4_growPeriod_33 : decode cX4_growPeriod 33 = .ok (.iconst 0, 1) := by decide +kernel
theorem dX4_growPeriod_34 : decode cX4_growPeriod 34 = .ok (.invokevirtual 81, 3) := by decide +kernel
theorem dX4_growPeriod_37 : decode cX4_growPeriod 37 = .ok (.iinc 3 1, 3) := by decide +kernel
theorem dX4_growPeriod_40 : decode cX4_growPeriod 40 = .ok (.goto (-30), 3) := by decide +kernel
theorem dX4_growPeriod_43 : decode cX4_growPeriod 43 = .ok (.aload_n 0, 1) := by decide +kernel
theorem dX4_growPeriod_44 : decode cX4_growPeriod 44 = .ok (.getfield 29, 3) := by decide +kernel
theorem dX4_growPeriod_47 : decode cX4_growPeriod 47 = .ok (.astore_n 3, 1) := by decide +kernel
theorem dX4_growPeriod_48 : decode cX4_growPeriod 48 = .ok (.aload_n 0, 1) := by decide +kernel
theorem dX4_growPeriod_49 : decode cX4_growPeriod 49 = .ok (.aload_n 0, 1) := by decide +kernel
theorem dX4_growPeriod_50 : decode cX4_growPeriod 50 = .ok (.getfield 25, 3) := by decide +kernel
theorem dX4_growPeriod_53 : decode cX4_growPeriod 53 = .ok (.putfield 29, 3) := by decide +kernel
theorem dX4_growPeriod_56 : decode cX4_growPeriod 56 = .ok (.aload_n 0, 1) := by decide +kernel
theorem dX4_growPeriod_57 : decode cX4_growPeriod 57 = .ok (.aload_n 3, 1) := by decide +kernel
theorem dX4_growPeriod_58 : decode cX4_growPeriod 58 = .ok (.putfield 25, 3) := by decide +kernel
theorem dX4_growPeriod_61 : decode cX4_growPeriod 61 = .ok (.return_, 1) := by decide +kernel
set_option maxRecDepth 20000 in
theorem ggX4_growBranch_X1_holds : GoodIn wsX4_growBranch wsX1_holds := goodIn_r _ [15, 16, 132, 133, 134, 135, 136, 137, 138, 139] (by decide +kernel) (by decide +kernel)
set_option maxRecDepth 20000 in
theorem gX4_growBranch_X1_holds : GoodIn wsX4_growBranch (wsV RX4 85 RX1 yX1_holds wsX1_holds) := goodIn_app (goodIn_of _ (by decide +kernel)) ggX4_growBranch_X1_holds
set_option maxRecDepth 20000 in
theorem ggX4_growBranch_X1_show : GoodIn wsX4_growBranch wsX1_show := goodIn_r _ [20, 21, 22, 23, 24, 25, 26, 27, 28, 29, 30, 31, 32, 33, 12, 13, 14, 15, 16, 151, 152, 153, 154, 155, 156, 157, 158, 132, 133, 134, 135, 136, 137, 138, 139] (by decide +kernel) (by decide +kernel)
set_option maxRecDepth 20000 in
theorem gX4_growBranch_X1_show : GoodIn wsX4_growBranch (wsV RX4 89 RX1 yX1_show wsX1_show) := goodIn_app (goodIn_of _ (by decide +kernel)) ggX4_growBranch_X1_show
set_option maxRecDepth 20000 in
theorem ggX4_growBranch_X3_move : GoodIn wsX4_growBranch wsX3_move := goodIn_r _ [38, 39, 40, 41, 42, 43, 44, 45, 46, 47, 48, 49, 50, 51, 52, 53, 54, 55, 56, 57, 58, 59, 60, 61, 62, 63, 64, 65, 66, 37, 67, 68, 69, 70, 71, 72, 73, 74, 75, 76, 77, 78, 79, 80, 81, 82, 83, 84, 85, 86, 87, 151, 152, 153, 154, 155, 156, 157, 158, 140, 141, 142, 143, 144, 145, 146, 147, 148, 149, 150, 159, 160, 161] (by decide +kernel) (by decide +kernel)
set_option maxRecDepth 20000 in
theorem gX4_growBranch_X3_move : GoodIn wsX4_growBranch (wsV RX4 93 RX3 yX3_move wsX3_move) := goodIn_app (goodIn_of _ (by decide +kernel)) ggX4_growBranch_X3_move
set_option maxRecDepth 20000 in
theorem ggX4_growBranch_X2_weightOf : GoodIn wsX4_growBranch wsX2_weightOf := goodIn_r _ [92, 93, 140, 141, 142, 143, 144, 145, 146, 147, 148, 149, 150] (by decide +kernel) (by decide +kernel)
set_option maxRecDepth 20000 in
theorem gX4_growBranch_X2_weightOf : GoodIn wsX4_growBranch (wsV RX4 100 RX2 yX2_weightOf wsX2_weightOf) := goodIn_app (goodIn_of _ (by decide +kernel)) ggX4_growBranch_X2_weightOf
set_option maxRecDepth 20000 in
theorem ggX4_growBranch_X5_wholeWeightOf : GoodIn wsX4_growBranch wsX5_wholeWeightOf := goodIn_r _ [96, 97] (by decide +kernel) (by decide +kernel)
set_option maxRecDepth 20000 in
theorem gX4_growBranch_X5_wholeWeightOf_n104 : GoodIn wsX4_growBranch (wsX5_wholeWeightOf) := ggX4_growBranch_X5_wholeWeightOf
set_option maxRecDepth 20000 in
theorem ggX4_growBranch_X4_end : GoodIn wsX4_growBranch wsX4_end := goodIn_r _ [102, 103, 2, 104, 105, 106, 107, 69, 62, 70, 108, 109, 61, 63, 123, 124, 125, 126, 127, 128, 129, 130, 131, 151, 152, 153, 154, 155, 156, 157, 158] (by decide +kernel) (by decide +kernel)
set_option maxRecDepth 20000 in
theorem gX4_growBranch_X4_end : GoodIn wsX4_growBranch (wsV RX4 118 RX4 yX4_end wsX4_end) := goodIn_app (goodIn_of _ (by decide +kernel)) ggX4_growBranch_X4_end
set_option maxRecDepth 20000 in
theorem ggX4_growBranch_X1_add : GoodIn wsX4_growBranch wsX1_add := goodIn_r _ [113, 114, 115, 116, 69, 62, 70, 117, 118, 61, 63, 16, 22, 23, 24, 25, 26, 27, 28, 29, 119, 120, 121, 14, 122, 132, 133, 134, 135, 136, 137, 138, 139, 151, 152, 153, 154, 155, 156, 157, 158] (by decide +kernel) (by decide +kernel)
set_option maxRecDepth 20000 in
theorem gX4_growBranch_X1_add : GoodIn wsX4_growBranch (wsV RX4 62 RX1 yX1_add wsX1_add) := goodIn_app (goodIn_of _ (by decide +kernel)) ggX4_growBranch_X1_add
theorem dX4_growBranch_0 : decode cX4_growBranch 0 = .ok (.aload_n 0, 1) := by decide +kernel
theorem dX4_growBranch_1 : decode cX4_growBranch 1 = .ok (.getfield 25, 3) := by decide +kernel
theorem dX4_growBranch_4 : decode cX4_growBranch 4 = .ok (.iload_n 3, 1) := by decide +kernel
theorem dX4_growBranch_5 : decode cX4_growBranch 5 = .ok (.invokevirtual 85, 3) := by decide +kernel
theorem dX4_growBranch_8 : decode cX4_growBranch 8 = .ok (.ifCond .ne 4, 3) := by decide +kernel
theorem dX4_growBranch_11 : decode cX4_growBranch 11 = .ok (.return_, 1) := by decide +kernel
theorem dX4_growBranch_12 : decode cX4_growBranch 12 = .ok (.aload_n 0, 1) := by decide +kernel
theorem dX4_growBranch_13 : decode cX4_growBranch 13 = .ok (.getfield 25, 3) := by decide +kernel
theorem dX4_growBranch_16 : decode cX4_growBranch 16 = .ok (.iload_n 3, 1) := by decide +kernel
theorem dX4_growBranch_17 : decode cX4_growBranch 17 = .ok (.iload_n 2, 1) := by decide +kernel
theorem dX4_growBranch_18 : decode cX4_growBranch 18 = .ok (.iconst 1, 1) := by decide +kernel
theorem dX4_growBranch_19 : decode cX4_growBranch 19 = .ok (.isub, 1) := by decide +kernel
theorem dX4_growBranch_20 : decode cX4_growBranch 20 = .ok (.aload_n 0, 1) := by decide +kernel
theorem dX4_growBranch_21 : decode cX4_growBranch 21 = .ok (.getfield 12, 3) := by decide +kernel
theorem dX4_growBranch_24 : decode cX4_growBranch 24 = .ok (.invokevirtual 89, 3) := by decide +kernel
theorem dX4_growBranch_27 : decode cX4_growBranch 27 = .ok (.aload_n 0, 1) := by decide +kernel
theorem dX4_growBranch_28 : decode cX4_growBranch 28 = .ok (.getfield 12, 3) := by decide +kernel
theorem dX4_growBranch_31 : decode cX4_growBranch 31 = .ok (.aload_n 1, 1) := by decide +kernel
theorem dX4_growBranch_32 : decode cX4_growBranch 32 = .ok (.iload 4, 2) := by decide +kernel
theorem dX4_growBranch_34 : decode cX4_growBranch 34 = .ok (.invokevirtual 93, 3) := by decide +kernel
theorem dX4_growBranch_37 : decode cX4_growBranch 37 = .ok (.aload_n 0, 1) := by decide +kernel
theorem dX4_growBranch_38 : decode cX4_growBranch 38 = .ok (.getfield 25, 3) := by decide +kernel
theorem dX4_growBranch_41 : decode cX4_growBranch 41 = .ok (.getfield 97, 3) := by decide +kernel
theorem dX4_growBranch_44 : decode cX4_growBranch 44 = .ok (.iload_n 3, 1) := by decide +kernel
theorem dX4_growBranch_45 : decode cX4_growBranch 45 = .ok (.laload, 1) := by decide +kernel
theorem dX4_growBranch_46 : decode cX4_growBranch 46 = .ok (.aload_n 1, 1) := by decide +kernel
theorem dX4_growBranch_47 : decode cX4_growBranch 47 = .ok (.iload 4, 2) := by decide +kernel
theorem dX4_growBranch_49 : decode cX4_growBranch 49 = .ok (.invokevirtual 100, 3) := by decide +kernel
theorem dX4_growBranch_52 : decode cX4_growBranch 52 = .ok (.i2l, 1) := by decide +kernel
theorem dX4_growBranch_53 : decode cX4_growBranch 53 = .ok (.lmul, 1) := by decide +kernel
theorem dX4_growBranch_54 : decode cX4_growBranch 54 = .ok (.lstore 5, 2) := by decide +kernel
theorem dX4_growBranch_56 : decode cX4_growBranch 56 = .ok (.lload 5, 2) := by decide +kernel
theorem dX4_growBranch_58 : decode cX4_growBranch 58 = .ok (.aload_n 1, 1) := by decide +kernel
theorem dX4_growBranch_59 : decode cX4_growBranch 59 = .ok (.getfield 69, 3) := by decide +kernel
theorem dX4_growBranch_62 : decode cX4_growBranch 62 = .ok (.iload_n 2, 1) := by decide +kernel
theorem dX4_growBranch_63 : decode cX4_growBranch 63 = .ok (.isub, 1) := by decide +kernel
theorem dX4_growBranch_64 : decode cX4_growBranch 64 = .ok (.invokestatic 104, 3) := by decide +kernel
theorem dX4_growBranch_67 : decode cX4_growBranch 67 = .ok (.lmul, 1) := by decide +kernel
theorem dX4_growBranch_68 : decode cX4_growBranch 68 = .ok (.lstore 7, 2) := by decide +kernel
theorem dX4_growBranch_70 : decode cX4_growBranch 70 = .ok (.aload_n 0, 1) := by decide +kernel
theorem dX4_growBranch_71 : decode cX4_growBranch 71 = .ok (.getfield 25, 3) := by decide +kernel
theorem dX4_growBranch_74 : decode cX4_growBranch 74 = .ok (.getfield 108, 3) := by decide +kernel
theorem dX4_growBranch_77 : decode cX4_growBranch 77 = .ok (.iload_n 3, 1) := by decide +kernel
theorem dX4_growBranch_78 : decode cX4_growBranch 78 = .ok (.iaload, 1) := by decide +kernel
theorem dX4_growBranch_79 : decode cX4_growBranch 79 = .ok (.aload_n 0, 1) := by decide +kernel
theorem dX4_growBranch_80 : decode cX4_growBranch 80 = .ok (.getfield 12, 3) := by decide +kernel
theorem dX4_growBranch_83 : decode cX4_growBranch 83 = .ok (.getfield 112, 3) := by decide +kernel
theorem dX4_growBranch_86 : decode cX4_growBranch 86 = .ok (.iadd, 1) := by decide +kernel
theorem dX4_growBranch_87 : decode cX4_growBranch 87 = .ok (.istore 9, 2) := by decide +kernel
theorem dX4_growBranch_89 : decode cX4_growBranch 89 = .ok (.aload_n 0, 1) := by decide +kernel
theorem dX4_growBranch_90 : decode cX4_growBranch 90 = .ok (.getfield 25, 3) := by decide +kernel
theorem dX4_growBranch_93 : decode cX4_growBranch 93 = .ok (.getfield 115, 3) := by decide +kernel
theorem dX4_growBranch_96 : decode cX4_growBranch 96 = .ok (.iload_n 3, 1) := by decide +kernel
theorem dX4_growBranch_97 : decode cX4_growBranch 97 = .ok (.iaload, 1) := by decide +kernel
theorem dX4_growBranch_98 : decode cX4_growBranch 98 = .ok (.aload_n 0, 1) := by decide +kernel
theorem dX4_growBranch_99 : decode cX4_growBranch 99 = .ok (.getfield 12, 3) := by decide +kernel
theorem dX4_growBranch_102 : decode cX4_growBranch 102 = .ok (.getfield 112, 3) := by decide +kernel
theorem dX4_growBranch_105 : decode cX4_growBranch 105 = .ok (.iadd, 1) := by decide +kernel
theorem dX4_growBranch_106 : decode cX4_growBranch 106 = .ok (.istore 10, 2) := by decide +kernel
theorem dX4_growBranch_108 : decode cX4_growBranch 108 = .ok (.aload_n 0, 1) := by decide +kernel
theorem dX4_growBranch_109 : decode cX4_growBranch 109 = .ok (.dup, 1) := by decide +kernel
theorem dX4_growBranch_110 : decode cX4_growBranch 110 = .ok (.getfield 32, 3) := by decide +kernel
theorem dX4_growBranch_113 : decode cX4_growBranch 113 = .ok (.lload 7, 2) := by decide +kernel
theorem dX4_growBranch_115 : decode cX4_growBranch 115 = .ok (.aload_n 0, 1) := by decide +kernel
theorem dX4_growBranch_116 : decode cX4_growBranch 116 = .ok (.getfield 12, 3) := by decide +kernel
theorem dX4_growBranch_119 : decode cX4_growBranch 119 = .ok (.getfield 112, 3) := by decide +kernel
theorem dX4_growBranch_122 : decode cX4_growBranch 122 = .ok (.i2l, 1) := by decide +kernel
theorem dX4_growBranch_123 : decode cX4_growBranch 123 = .ok (.lmul, 1) := by decide +kernel
theorem dX4_growBranch_124 : decode cX4_growBranch 124 = .ok (.ladd, 1) := by decide +kernel
theorem dX4_growBranch_125 : decode cX4_growBranch 125 = .ok (.putfield 32, 3) := by decide +kernel
theorem dX4_growBranch_128 : decode cX4_growBranch 128 = .ok (.aload_n 0, 1) := by decide +kernel
theorem dX4_growBranch_129 : decode cX4_growBranch 129 = .ok (.getfield 12, 3) := by decide +kernel
theorem dX4_growBranch_132 : decode cX4_growBranch 132 = .ok (.getfield 52, 3) := by decide +kernel
theorem dX4_growBranch_135 : decode cX4_growBranch 135 = .ok (.ifCond .eq 14, 3) := by decide +kernel
theorem dX4_growBranch_138 : decode cX4_growBranch 138 = .ok (.aload_n 0, 1) := by decide +kernel
theorem dX4_growBranch_139 : decode cX4_growBranch 139 = .ok (.iload_n 2, 1) := by decide +kernel
theorem dX4_growBranch_140 : decode cX4_growBranch 140 = .ok (.lload 7, 2) := by decide +kernel
theorem dX4_growBranch_142 : decode cX4_growBranch 142 = .ok (.iload 9, 2) := by decide +kernel
theorem dX4_growBranch_144 : decode cX4_growBranch 144 = .ok (.iload 10, 2) := by decide +kernel
theorem dX4_growBranch_146 : decode cX4_growBranch 146 = .ok (.invokevirtual 118, 3) := by decide +kernel
theorem dX4_growBranch_149 : decode cX4_growBranch 149 = .ok (.aload_n 0, 1) := by decide +kernel
theorem dX4_growBranch_150 : decode cX4_growBranch 150 = .ok (.getfield 12, 3) := by decide +kernel
theorem dX4_growBranch_153 : decode cX4_growBranch 153 = .ok (.getfield 52, 3) := by decide +kernel
theorem dX4_growBranch_156 : decode cX4_growBranch 156 = .ok (.ifCond .eq 11, 3) := by decide +kernel
theorem dX4_growBranch_159 : decode cX4_growBranch 159 = .ok (.iload_n 2, 1) := by decide +kernel
theorem dX4_growBranch_160 : decode cX4_growBranch 160 = .ok (.aload_n 1, 1) := by decide +kernel
theorem dX4_growBranch_161 : decode cX4_growBranch 161 = .ok (.getfield 69, 3) := by decide +kernel
theorem dX4_growBranch_164 : decode cX4_growBranch 164 = .ok (.if_icmp .ne 20, 3) := by decide +kernel
theorem dX4_growBranch_167 : decode cX4_growBranch 167 = .ok (.aload_n 0, 1) := by decide +kernel
theorem dX4_growBranch_168 : decode cX4_growBranch 168 = .ok (.getfield 29, 3) := by decide +kernel
theorem dX4_growBranch_171 : decode cX4_growBranch 171 = .ok (.aload_n 0, 1) := by decide +kernel
theorem dX4_growBranch_172 : decode cX4_growBranch 172 = .ok (.getfield 12, 3) := by decide +kernel
theorem dX4_growBranch_175 : decode cX4_growBranch 175 = .ok (.lload 5, 2) := by decide +kernel
theorem dX4_growBranch_177 : decode cX4_growBranch 177 = .ok (.iload 9, 2) := by decide +kernel
theorem dX4_growBranch_179 : decode cX4_growBranch 179 = .ok (.iload 10, 2) := by decide +kernel
theorem dX4_growBranch_181 : decode cX4_growBranch 181 = .ok (.invokevirtual 62, 3) := by decide +kernel
theorem dX4_growBranch_184 : decode cX4_growBranch 184 = .ok (.return_, 1) := by decide +kernel
theorem dX4_end_0 : decode cX4_end 0 = .ok (.iload_n 1, 1) := by decide +kernel
theorem dX4_end_1 : decode cX4_end 1 = .ok (.ifCond .lt 22, 3) := by decide +kernel
theorem dX4_end_4 : decode cX4_end 4 = .ok (.iload_n 1, 1) := by decide +kernel
theorem dX4_end_5 : decode cX4_end 5 = .ok (.aload_n 0, 1) := by decide +kernel
theorem dX4_end_6 : decode cX4_end 6 = .ok (.getfield 18, 3) := by decide +kernel
theorem dX4_end_9 : decode cX4_end 9 = .ok (.arraylength, 1) := by decide +kernel
theorem dX4_end_10 : decode cX4_end 10 = .ok (.if_icmp .ge 13, 3) := by decide +kernel
theorem dX4_end_13 : decode cX4_end 13 = .ok (.aload_n 0, 1) := by decide +kernel
theorem dX4_end_14 : decode cX4_end 14 = .ok (.getfield 18, 3) := by decide +kernel
theorem dX4_end_17 : decode cX4_end 17 = .ok (.iload_n 1, 1) := by decide +kernel
theorem dX4_end_18 : decode cX4_end 18 = .ok (.dup2, 1) := by decide +kernel
theorem dX4_end_19 : decode cX4_end 19 = .ok (.laload, 1) := by decide +kernel
theorem dX4_end_20 : decode cX4_end 20 = .ok (.lload_n 2, 1) := by decide +kernel
theorem dX4_end_21 : decode cX4_end 21 = .ok (.ladd, 1) := by decide +kernel
theorem dX4_end_22 : decode cX4_end 22 = .ok (.lastore, 1) := by decide +kernel
theorem dX4_end_23 : decode cX4_end 23 = .ok (.aload_n 0, 1) := by decide +kernel
theorem dX4_end_24 : decode cX4_end 24 = .ok (.getfield 12, 3) := by decide +kernel
theorem dX4_end_27 : decode cX4_end 27 = .ok (.getfield 56, 3) := by decide +kernel
theorem dX4_end_30 : decode cX4_end 30 = .ok (.ifCond .eq 13, 3) := by decide +kernel
theorem dX4_end_33 : decode cX4_end 33 = .ok (.aload_n 0, 1) := by decide +kernel
theorem dX4_end_34 : decode cX4_end 34 = .ok (.dup, 1) := by decide +kernel
theorem dX4_end_35 : decode cX4_end 35 = .ok (.getfield 36, 3) := by decide +kernel
theorem dX4_end_38 : decode cX4_end 38 = .ok (.lload_n 2, 1) := by decide +kernel
theorem dX4_end_39 : decode cX4_end 39 = .ok (.ladd, 1) := by decide +kernel
theorem dX4_end_40 : decode cX4_end 40 = .ok (.putfield 36, 3) := by decide +kernel
theorem dX4_end_43 : decode cX4_end 43 = .ok (.aload_n 0, 1) := by decide +kernel
theorem dX4_end_44 : decode cX4_end 44 = .ok (.aload_n 0, 1) := by decide +kernel
theorem dX4_end_45 : decode cX4_end 45 = .ok (.getfield 43, 3) := by decide +kernel
theorem dX4_end_48 : decode cX4_end 48 = .ok (.iload 4, 2) := by decide +kernel
theorem dX4_end_50 : decode cX4_end 50 = .ok (.invokestatic 122, 3) := by decide +kernel
theorem dX4_end_53 : decode cX4_end 53 = .ok (.putfield 43, 3) := by decide +kernel
theorem dX4_end_56 : decode cX4_end 56 = .ok (.aload_n 0, 1) := by decide +kernel
theorem dX4_end_57 : decode cX4_end 57 = .ok (.aload_n 0, 1) := by decide +kernel
theorem dX4_end_58 : decode cX4_end 58 = .ok (.getfield 46, 3) := by decide +kernel
theorem dX4_end_61 : decode cX4_end 61 = .ok (.iload 5, 2) := by decide +kernel
theorem dX4_end_63 : decode cX4_end 63 = .ok (.invokestatic 128, 3) := by decide +kernel
theorem dX4_end_66 : decode cX4_end 66 = .ok (.putfield 46, 3) := by decide +kernel
theorem dX4_end_69 : decode cX4_end 69 = .ok (.return_, 1) := by decide +kernel
set_option maxRecDepth 20000 in
theorem ggX5_init_X2_init : GoodIn wsX5_init wsX2_init := goodIn_r _ [19, 20, 2, 3, 21, 22, 23, 24, 25, 26, 27, 28, 29, 30, 31, 32, 33, 34, 35, 36, 37, 38, 39, 40, 115, 116, 117, 82, 83, 84, 85, 86, 87, 88, 89, 90, 91, 92] (by decide +kernel) (by decide +kernel)
set_option maxRecDepth 20000 in
theorem gX5_init_X2_init_n11 : GoodIn wsX5_init (wsX2_init) := ggX5_init_X2_init
set_option maxRecDepth 20000 in
theorem ggX5_init_X3_init : GoodIn wsX5_init wsX3_init := goodIn_r _ [42, 43, 2, 3, 44, 45, 46, 47, 48, 49, 50, 51, 98, 99, 100, 101, 102, 103, 104, 105] (by decide +kernel) (by decide +kernel)
set_option maxRecDepth 20000 in
theorem gX5_init_X3_init_n18 : GoodIn wsX5_init (wsX3_init) := ggX5_init_X3_init
set_option maxRecDepth 20000 in
theorem ggX5_init_X4_init : GoodIn wsX5_init wsX4_init := goodIn_r _ [53, 54, 2, 3, 55, 9, 10, 56, 57, 58, 59, 60, 61, 62, 63, 64, 65, 66, 67, 68, 41, 42, 43, 44, 45, 46, 47, 48, 49, 50, 51, 69, 70, 71, 72, 73, 74, 75, 76, 77, 78, 79, 80, 81, 98, 99, 100, 101, 102, 103, 104, 105, 106, 107, 108, 109, 110, 111, 112, 113, 114, 118, 119, 120, 121, 122, 123, 124, 125] (by decide +kernel) (by decide +kernel)
set_option maxRecDepth 20000 in
theorem gX5_init_X4_init_n28 : GoodIn wsX5_init (wsX4_init) := ggX5_init_X4_init
theorem dX5_init_0 : decode cX5_init 0 = .ok (.aload_n 0, 1) := by decide +kernel
theorem dX5_init_1 : decode cX5_init 1 = .ok (.invokespecial 3, 3) := by decide +kernel
theorem dX5_init_4 : decode cX5_init 4 = .ok (.aload_n 0, 1) := by decide +kernel
theorem dX5_init_5 : decode cX5_init 5 = .ok (.new 9, 3) := by decide +kernel
theorem dX5_init_8 : decode cX5_init 8 = .ok (.dup, 1) := by decide +kernel
theorem dX5_init_9 : decode cX5_init 9 = .ok (.invokespecial 11, 3) := by decide +kernel
theorem dX5_init_12 : decode cX5_init 12 = .ok (.putfield 12, 3) := by decide +kernel
theorem dX5_init_15 : decode cX5_init 15 = .ok (.aload_n 0, 1) := by decide +kernel
theorem dX5_init_16 : decode cX5_init 16 = .ok (.new 16, 3) := by decide +kernel
theorem dX5_init_19 : decode cX5_init 19 = .ok (.dup, 1) := by decide +kernel
theorem dX5_init_20 : decode cX5_init 20 = .ok (.invokespecial 18, 3) := by decide +kernel
theorem dX5_init_23 : decode cX5_init 23 = .ok (.putfield 19, 3) := by decide +kernel
theorem dX5_init_26 : decode cX5_init 26 = .ok (.aload_n 0, 1) := by decide +kernel
theorem dX5_init_27 : decode cX5_init 27 = .ok (.new 16, 3) := by decide +kernel
theorem dX5_init_30 : decode cX5_init 30 = .ok (.dup, 1) := by decide +kernel
theorem dX5_init_31 : decode cX5_init 31 = .ok (.invokespecial 18, 3) := by decide +kernel
theorem dX5_init_34 : decode cX5_init 34 = .ok (.putfield 23, 3) := by decide +kernel
theorem dX5_init_37 : decode cX5_init 37 = .ok (.aload_n 0, 1) := by decide +kernel
theorem dX5_init_38 : decode cX5_init 38 = .ok (.new 26, 3) := by decide +kernel
theorem dX5_init_41 : decode cX5_init 41 = .ok (.dup, 1) := by decide +kernel
theorem dX5_init_42 : decode cX5_init 42 = .ok (.invokespecial 28, 3) := by decide +kernel
theorem dX5_init_45 : decode cX5_init 45 = .ok (.putfield 29, 3) := by decide +kernel
theorem dX5_init_48 : decode cX5_init 48 = .ok (.aload_n 0, 1) := by decide +kernel
theorem dX5_init_49 : decode cX5_init 49 = .ok (.iconst 0, 1) := by decide +kernel
theorem dX5_init_50 : decode cX5_init 50 = .ok (.putfield 33, 3) := by decide +kernel
theorem dX5_init_53 : decode cX5_init 53 = .ok (.return_, 1) := by decide +kernel
set_option maxRecDepth 20000 in
theorem ggX5_setAsset_X5_isAsset : GoodIn wsX5_setAsset wsX5_isAsset := goodIn_r _ [15] (by decide +kernel) (by decide +kernel)
set_option maxRecDepth 20000 in
theorem gX5_setAsset_X5_isAsset : GoodIn wsX5_setAsset (va_wsS RX5 37 yX5_isAsset wsX5_isAsset) := goodIn_app (goodIn_of _ (by decide +kernel)) ggX5_setAsset_X5_isAsset
set_option maxRecDepth 20000 in
theorem ggX5_setAsset_X5_isWithin : GoodIn wsX5_setAsset wsX5_isWithin := goodIn_r _ [18] (by decide +kernel) (by decide +kernel)
set_option maxRecDepth 20000 in
theorem gX5_setAsset_X5_isWithin : GoodIn wsX5_setAsset (va_wsS RX5 48 yX5_isWithin wsX5_isWithin) := goodIn_app (goodIn_of _ (by decide +kernel)) ggX5_setAsset_X5_isWithin
set_option maxRecDepth 20000 in
theorem ggX5_setAsset_X3_begin : GoodIn wsX5_setAsset wsX3_begin := goodIn_r _ [23, 24, 25, 26, 27, 28, 29, 30, 31, 32, 33, 34, 54, 55, 56, 57, 58, 59, 60, 61, 40, 41, 42, 43, 44, 45, 46, 47, 48, 49, 50, 51, 52, 53] (by decide +kernel) (by decide +kernel)
set_option maxRecDepth 20000 in
theorem gX5_setAsset_X3_begin : GoodIn wsX5_setAsset (wsV RX5 75 RX3 yX3_begin wsX3_begin) := goodIn_app (goodIn_of _ (by decide +kernel)) ggX5_setAsset_X3_begin
theorem dX5_setAsset_0 : decode cX5_setAsset 0 = .ok (.iload_n 1, 1) := by decide +kernel
theorem dX5_setAsset_1 : decode cX5_setAsset 1 = .ok (.invokestatic 37, 3) := by decide +kernel
theorem dX5_setAsset_4 : decode cX5_setAsset 4 = .ok (.ifCond .ne 13, 3) := by decide +kernel
theorem dX5_setAsset_7 : decode cX5_setAsset 7 = .ok (.new 41, 3) := by decide +kernel
theorem dX5_setAsset_10 : decode cX5_setAsset 10 = .ok (.dup, 1) := by decide +kernel
theorem dX5_setAsset_11 : decode cX5_setAsset 11 = .ok (.ldc 43, 2) := by decide +kernel
theorem dX5_setAsset_13 : decode cX5_setAsset 13 = .ok (.invokespecial 45, 3) := by decide +kernel
theorem dX5_setAsset_16 : decode cX5_setAsset 16 = .ok (.athrow, 1) := by decide +kernel
theorem dX5_setAsset_17 : decode cX5_setAsset 17 = .ok (.iload_n 2, 1) := by decide +kernel
theorem dX5_setAsset_18 : decode cX5_setAsset 18 = .ok (.bipush 100, 2) := by decide +kernel
theorem dX5_setAsset_20 : decode cX5_setAsset 20 = .ok (.sipush 1000, 3) := by decide +kernel
theorem dX5_setAsset_23 : decode cX5_setAsset 23 = .ok (.invokestatic 48, 3) := by decide +kernel
theorem dX5_setAsset_26 : decode cX5_setAsset 26 = .ok (.ifCond .eq 26, 3) := by decide +kernel
theorem dX5_setAsset_29 : decode cX5_setAsset 29 = .ok (.iload_n 3, 1) := by decide +kernel
theorem dX5_setAsset_30 : decode cX5_setAsset 30 = .ok (.iconst 0, 1) := by decide +kernel
theorem dX5_setAsset_31 : decode cX5_setAsset 31 = .ok (.sipush 200, 3) := by decide +kernel
theorem dX5_setAsset_34 : decode cX5_setAsset 34 = .ok (.invokestatic 48, 3) := by decide +kernel
theorem dX5_setAsset_37 : decode cX5_setAsset 37 = .ok (.ifCond .eq 15, 3) := by decide +kernel
theorem dX5_setAsset_40 : decode cX5_setAsset 40 = .ok (.iload 4, 2) := by decide +kernel
theorem dX5_setAsset_42 : decode cX5_setAsset 42 = .ok (.iconst 0, 1) := by decide +kernel
theorem dX5_setAsset_43 : decode cX5_setAsset 43 = .ok (.sipush 200, 3) := by decide +kernel
theorem dX5_setAsset_46 : decode cX5_setAsset 46 = .ok (.invokestatic 48, 3) := by decide +kernel
theorem dX5_setAsset_49 : decode cX5_setAsset 49 = .ok (.ifCond .ne 13, 3) := by decide +kernel
theorem dX5_setAsset_52 : decode cX5_setAsset 52 = .ok (.new 52, 3) := by decide +kernel
theorem dX5_setAsset_55 : decode cX5_setAsset 55 = .ok (.dup, 1) := by decide +kernel
theorem dX5_setAsset_56 : decode cX5_setAsset 56 = .ok (.ldc 54, 2) := by decide +kernel
theorem dX5_setAsset_58 : decode cX5_setAsset 58 = .ok (.invokespecial 56, 3) := by decide +kernel
theorem dX5_setAsset_61 : decode cX5_setAsset 61 = .ok (.athrow, 1) := by decide +kernel
theorem dX5_setAsset_62 : decode cX5_setAsset 62 = .ok (.iload_n 1, 1) := by decide +kernel
theorem dX5_setAsset_63 : decode cX5_setAsset 63 = .ok (.ifCond .ne 13, 3) := by decide +kernel
theorem dX5_setAsset_66 : decode cX5_setAsset 66 = .ok (.aload_n 0, 1) := by decide +kernel
theorem dX5_setAsset_67 : decode cX5_setAsset 67 = .ok (.getfield 12, 3) := by decide +kernel
theorem dX5_setAsset_70 : decode cX5_setAsset 70 = .ok (.getfield 57, 3) := by decide +kernel
theorem dX5_setAsset_73 : decode cX5_setAsset 73 = .ok (.goto 10, 3) := by decide +kernel
theorem dX5_setAsset_76 : decode cX5_setAsset 76 = .ok (.aload_n 0, 1) := by decide +kernel
theorem dX5_setAsset_77 : decode cX5_setAsset 77 = .ok (.getfield 12, 3) := by decide +kernel
theorem dX5_setAsset_80 : decode cX5_setAsset 80 = .ok (.getfield 61, 3) := by decide +kernel
theorem dX5_setAsset_83 : decode cX5_setAsset 83 = .ok (.astore 5, 2) := by decide +kernel
theorem dX5_setAsset_85 : decode cX5_setAsset 85 = .ok (.aload 5, 2) := by decide +kernel
theorem dX5_setAsset_87 : decode cX5_setAsset 87 = .ok (.iload_n 2, 1) := by decide +kernel
theorem dX5_setAsset_88 : decode cX5_setAsset 88 = .ok (.putfield 64, 3) := by decide +kernel
theorem dX5_setAsset_91 : decode cX5_setAsset 91 = .ok (.aload 5, 2) := by decide +kernel
theorem dX5_setAsset_93 : decode cX5_setAsset 93 = .ok (.iload_n 3, 1) := by decide +kernel
theorem dX5_setAsset_94 : decode cX5_setAsset 94 = .ok (.putfield 69, 3) := by decide +kernel
theorem dX5_setAsset_97 : decode cX5_setAsset 97 = .ok (.aload 5, 2) := by decide +kernel
theorem dX5_setAsset_99 : decode cX5_setAsset 99 = .ok (.iload 4, 2) := by decide +kernel
theorem dX5_setAsset_101 : decode cX5_setAsset 101 = .ok (.putfield 72, 3) := by decide +kernel
theorem dX5_setAsset_104 : decode cX5_setAsset 104 = .ok (.aload_n 0, 1) := by decide +kernel
theorem dX5_setAsset_105 : decode cX5_setAsset 105 = .ok (.getfield 19, 3) := by decide +kernel
theorem dX5_setAsset_108 : decode cX5_setAsset 108 = .ok (.aload_n 0, 1) := by decide +kernel
theorem dX5_setAsset_109 : decode cX5_setAsset 109 = .ok (.getfield 12, 3) := by decide +kernel
theorem dX5_setAsset_112 : decode cX5_setAsset 112 = .ok (.invokevirtual 75, 3) := by decide +kernel
theorem dX5_setAsset_115 : decode cX5_setAsset 115 = .ok (.return_, 1) := by decide +kernel
set_option maxRecDepth 20000 in
theorem ggX5_setMoves_X5_isWithin : GoodIn wsX5_setMoves wsX5_isWithin := goodIn_r _ [10] (by decide +kernel) (by decide +kernel)
set_option maxRecDepth 20000 in
theorem gX5_setMoves_X5_isWithin : GoodIn wsX5_setMoves (va_wsS RX5 48 yX5_isWithin wsX5_isWithin) := goodIn_app (goodIn_of _ (by decide +kernel)) ggX5_setMoves_X5_isWithin
set_option maxRecDepth 20000 in
theorem ggX5_setMoves_X3_begin : GoodIn wsX5_setMoves wsX3_begin := goodIn_r _ [15, 16, 17, 18, 19, 20, 21, 22, 23, 24, 25, 26, 43, 44, 45, 46, 47, 48, 49, 50, 32, 33, 34, 35, 36, 37, 38, 39, 40, 41, 42, 51, 52, 53] (by decide +kernel) (by decide +kernel)
set_option maxRecDepth 20000 in
theorem gX5_setMoves_X3_begin : GoodIn wsX5_setMoves (wsV RX5 75 RX3 yX3_begin wsX3_begin) := goodIn_app (goodIn_of _ (by decide +kernel)) ggX5_setMoves_X3_begin
theorem dX5_setMoves_0 : decode cX5_setMoves 0 = .ok (.iload_n 2, 1) := by decide +kernel
theorem dX5_setMoves_1 : decode cX5_setMoves 1 = .ok (.iconst 1, 1) := by decide +kernel
theorem dX5_setMoves_2 : decode cX5_setMoves 2 = .ok (.bipush 9, 2) := by decide +kernel
theorem dX5_setMoves_4 : decode cX5_setMoves 4 = .ok (.invokestatic 48, 3) := by decide +kernel
theorem dX5_setMoves_7 : decode cX5_setMoves 7 = .ok (.ifCond .ne 13, 3) := by decide +kernel
theorem dX5_setMoves_10 : decode cX5_setMoves 10 = .ok (.new 52, 3) := by decide +kernel
theorem dX5_setMoves_13 : decode cX5_setMoves 13 = .ok (.dup, 1) := by decide +kernel
theorem dX5_setMoves_14 : decode cX5_setMoves 14 = .ok (.ldc 79, 2) := by decide +kernel
theorem dX5_setMoves_16 : decode cX5_setMoves 16 = .ok (.invokespecial 56, 3) := by decide +kernel
theorem dX5_setMoves_19 : decode cX5_setMoves 19 = .ok (.athrow, 1) := by decide +kernel
theorem dX5_setMoves_20 : decode cX5_setMoves 20 = .ok (.aload_n 0, 1) := by decide +kernel
theorem dX5_setMoves_21 : decode cX5_setMoves 21 = .ok (.getfield 12, 3) := by decide +kernel
theorem dX5_setMoves_24 : decode cX5_setMoves 24 = .ok (.iload_n 1, 1) := by decide +kernel
theorem dX5_setMoves_25 : decode cX5_setMoves 25 = .ok (.putfield 81, 3) := by decide +kernel
theorem dX5_setMoves_28 : decode cX5_setMoves 28 = .ok (.aload_n 0, 1) := by decide +kernel
theorem dX5_setMoves_29 : decode cX5_setMoves 29 = .ok (.getfield 12, 3) := by decide +kernel
theorem dX5_setMoves_32 : decode cX5_setMoves 32 = .ok (.iload_n 2, 1) := by decide +kernel
theorem dX5_setMoves_33 : decode cX5_setMoves 33 = .ok (.putfield 85, 3) := by decide +kernel
theorem dX5_setMoves_36 : decode cX5_setMoves 36 = .ok (.aload_n 0, 1) := by decide +kernel
theorem dX5_setMoves_37 : decode cX5_setMoves 37 = .ok (.getfield 19, 3) := by decide +kernel
theorem dX5_setMoves_40 : decode cX5_setMoves 40 = .ok (.aload_n 0, 1) := by decide +kernel
theorem dX5_setMoves_41 : decode cX5_setMoves 41 = .ok (.getfield 12, 3) := by decide +kernel
theorem dX5_setMoves_44 : decode cX5_setMoves 44 = .ok (.invokevirtual 75, 3) := by decide +kernel
theorem dX5_setMoves_47 : decode cX5_setMoves 47 = .ok (.return_, 1) := by decide +kernel
end
section
set_option maxRecDepth 20000 in
theorem ggX5_setNote_X5_isWithin : GoodIn wsX5_setNote wsX5_isWithin := goodIn_r _ [13] (by decide +kernel) (by decide +kernel)
set_option maxRecDepth 20000 in
theorem gX5_setNote_X5_isWithin : GoodIn wsX5_setNote (va_wsS RX5 48 yX5_isWithin wsX5_isWithin) := goodIn_app (goodIn_of _ (by decide +kernel)) ggX5_setNote_X5_isWithin
set_option maxRecDepth 20000 in
theorem ggX5_setNote_X3_begin : GoodIn wsX5_setNote wsX3_begin := goodIn_r _ [18, 19, 20, 21, 22, 23, 24, 25, 26, 27, 28, 29, 46, 47, 48, 49, 50, 51, 52, 53, 35, 36, 37, 38, 39, 40, 41, 42, 43, 44, 45, 54, 55, 56] (by decide +kernel) (by decide +kernel)
set_option maxRecDepth 20000 in
theorem gX5_setNote_X3_begin : GoodIn wsX5_setNote (wsV RX5 75 RX3 yX3_begin wsX3_begin) := goodIn_app (goodIn_of _ (by decide +kernel)) ggX5_setNote_X3_begin
theorem dX5_setNote_0 : decode cX5_setNote 0 = .ok (.iload_n 1, 1) := by decide +kernel
theorem dX5_setNote_1 : decode cX5_setNote 1 = .ok (.iconst 1, 1) := by decide +kernel
theorem dX5_setNote_2 : decode cX5_setNote 2 = .ok (.bipush 8, 2) := by decide +kernel
theorem dX5_setNote_4 : decode cX5_setNote 4 = .ok (.invokestatic 48, 3) := by decide +kernel
theorem dX5_setNote_7 : decode cX5_setNote 7 = .ok (.ifCond .eq 48, 3) := by decide +kernel
theorem dX5_setNote_10 : decode cX5_setNote 10 = .ok (.iload_n 2, 1) := by decide +kernel
theorem dX5_setNote_11 : decode cX5_setNote 11 = .ok (.iconst 0, 1) := by decide +kernel
theorem dX5_setNote_12 : decode cX5_setNote 12 = .ok (.bipush 100, 2) := by decide +kernel
theorem dX5_setNote_14 : decode cX5_setNote 14 = .ok (.invokestatic 48, 3) := by decide +kernel
theorem dX5_setNote_17 : decode cX5_setNote 17 = .ok (.ifCond .eq 38, 3) := by decide +kernel
theorem dX5_setNote_20 : decode cX5_setNote 20 = .ok (.iload_n 3, 1) := by decide +kernel
theorem dX5_setNote_21 : decode cX5_setNote 21 = .ok (.iconst 0, 1) := by decide +kernel
theorem dX5_setNote_22 : decode cX5_setNote 22 = .ok (.sipush 150, 3) := by decide +kernel
theorem dX5_setNote_25 : decode cX5_setNote 25 = .ok (.invokestatic 48, 3) := by decide +kernel
theorem dX5_setNote_28 : decode cX5_setNote 28 = .ok (.ifCond .eq 27, 3) := by decide +kernel
theorem dX5_setNote_31 : decode cX5_setNote 31 = .ok (.iload 4, 2) := by decide +kernel
theorem dX5_setNote_33 : decode cX5_setNote 33 = .ok (.iconst 0, 1) := by decide +kernel
theorem dX5_setNote_34 : decode cX5_setNote 34 = .ok (.sipush 200, 3) := by decide +kernel
theorem dX5_setNote_37 : decode cX5_setNote 37 = .ok (.invokestatic 48, 3) := by decide +kernel
theorem dX5_setNote_40 : decode cX5_setNote 40 = .ok (.ifCond .eq 15, 3) := by decide +kernel
theorem dX5_setNote_43 : decode cX5_setNote 43 = .ok (.iload 5, 2) := by decide +kernel
theorem dX5_setNote_45 : decode cX5_setNote 45 = .ok (.iconst 0, 1) := by decide +kernel
theorem dX5_setNote_46 : decode cX5_setNote 46 = .ok (.sipush 500, 3) := by decide +kernel
theorem dX5_setNote_49 : decode cX5_setNote 49 = .ok (.invokestatic 48, 3) := by decide +kernel
theorem dX5_setNote_52 : decode cX5_setNote 52 = .ok (.ifCond .ne 13, 3) := by decide +kernel
theorem dX5_setNote_55 : decode cX5_setNote 55 = .ok (.new 52, 3) := by decide +kernel
theorem dX5_setNote_58 : decode cX5_setNote 58 = .ok (.dup, 1) := by decide +kernel
theorem dX5_setNote_59 : decode cX5_setNote 59 = .ok (.ldc 88, 2) := by decide +kernel
theorem dX5_setNote_61 : decode cX5_setNote 61 = .ok (.invokespecial 56, 3) := by decide +kernel
theorem dX5_setNote_64 : decode cX5_setNote 64 = .ok (.athrow, 1) := by decide +kernel
theorem dX5_setNote_65 : decode cX5_setNote 65 = .ok (.aload_n 0, 1) := by decide +kernel
theorem dX5_setNote_66 : decode cX5_setNote 66 = .ok (.getfield 12, 3) := by decide +kernel
theorem dX5_setNote_69 : decode cX5_setNote 69 = .ok (.iload_n 1, 1) := by decide +kernel
theorem dX5_setNote_70 : decode cX5_setNote 70 = .ok (.putfield 90, 3) := by decide +kernel
theorem dX5_setNote_73 : decode cX5_setNote 73 = .ok (.aload_n 0, 1) := by decide +kernel
theorem dX5_setNote_74 : decode cX5_setNote 74 = .ok (.getfield 12, 3) := by decide +kernel
theorem dX5_setNote_77 : decode cX5_setNote 77 = .ok (.iload_n 2, 1) := by decide +kernel
theorem dX5_setNote_78 : decode cX5_setNote 78 = .ok (.putfield 93, 3) := by decide +kernel
theorem dX5_setNote_81 : decode cX5_setNote 81 = .ok (.aload_n 0, 1) := by decide +kernel
theorem dX5_setNote_82 : decode cX5_setNote 82 = .ok (.getfield 12, 3) := by decide +kernel
theorem dX5_setNote_85 : decode cX5_setNote 85 = .ok (.iload_n 3, 1) := by decide +kernel
theorem dX5_setNote_86 : decode cX5_setNote 86 = .ok (.putfield 96, 3) := by decide +kernel
theorem dX5_setNote_89 : decode cX5_setNote 89 = .ok (.aload_n 0, 1) := by decide +kernel
theorem dX5_setNote_90 : decode cX5_setNote 90 = .ok (.getfield 12, 3) := by decide +kernel
theorem dX5_setNote_93 : decode cX5_setNote 93 = .ok (.iload 4, 2) := by decide +kernel
theorem dX5_setNote_95 : decode cX5_setNote 95 = .ok (.putfield 99, 3) := by decide +kernel
theorem dX5_setNote_98 : decode cX5_setNote 98 = .ok (.aload_n 0, 1) := by decide +kernel
theorem dX5_setNote_99 : decode cX5_setNote 99 = .ok (.getfield 12, 3) := by decide +kernel
theorem dX5_setNote_102 : decode cX5_setNote 102 = .ok (.iload 5, 2) := by decide +kernel
theorem dX5_setNote_104 : decode cX5_setNote 104 = .ok (.putfield 102, 3) := by decide +kernel
theorem dX5_setNote_107 : decode cX5_setNote 107 = .ok (.aload_n 0, 1) := by decide +kernel
theorem dX5_setNote_108 : decode cX5_setNote 108 = .ok (.getfield 19, 3) := by decide +kernel
theorem dX5_setNote_111 : decode cX5_setNote 111 = .ok (.aload_n 0, 1) := by decide +kernel
theorem dX5_setNote_112 : decode cX5_setNote 112 = .ok (.getfield 12, 3) := by decide +kernel
theorem dX5_setNote_115 : decode cX5_setNote 115 = .ok (.invokevirtual 75, 3) := by decide +kernel
theorem dX5_setNote_118 : decode cX5_setNote 118 = .ok (.return_, 1) := by decide +kernel
set_option maxRecDepth 20000 in
theorem ggX5_setKind_X3_begin : GoodIn wsX5_setKind wsX3_begin := goodIn_r _ [9, 10, 11, 12, 13, 14, 15, 16, 17, 18, 19, 20, 37, 38, 39, 40, 41, 42, 43, 44, 26, 27, 28, 29, 30, 31, 32, 33, 34, 35, 36, 45, 46, 47] (by decide +kernel) (by decide +kernel)
set_option maxRecDepth 20000 in
theorem gX5_setKind_X3_begin : GoodIn wsX5_setKind (wsV RX5 75 RX3 yX3_begin wsX3_begin) := goodIn_app (goodIn_of _ (by decide +kernel)) ggX5_setKind_X3_begin
theorem dX5_setKind_0 : decode cX5_setKind 0 = .ok (.aload_n 0, 1) := by decide +kernel
theorem dX5_setKind_1 : decode cX5_setKind 1 = .ok (.getfield 12, 3) := by decide +kernel
theorem dX5_setKind_4 : decode cX5_setKind 4 = .ok (.iload_n 1, 1) := by decide +kernel
theorem dX5_setKind_5 : decode cX5_setKind 5 = .ok (.putfield 105, 3) := by decide +kernel
theorem dX5_setKind_8 : decode cX5_setKind 8 = .ok (.aload_n 0, 1) := by decide +kernel
theorem dX5_setKind_9 : decode cX5_setKind 9 = .ok (.getfield 12, 3) := by decide +kernel
theorem dX5_setKind_12 : decode cX5_setKind 12 = .ok (.iload_n 2, 1) := by decide +kernel
theorem dX5_setKind_13 : decode cX5_setKind 13 = .ok (.putfield 108, 3) := by decide +kernel
theorem dX5_setKind_16 : decode cX5_setKind 16 = .ok (.aload_n 0, 1) := by decide +kernel
theorem dX5_setKind_17 : decode cX5_setKind 17 = .ok (.getfield 19, 3) := by decide +kernel
theorem dX5_setKind_20 : decode cX5_setKind 20 = .ok (.aload_n 0, 1) := by decide +kernel
theorem dX5_setKind_21 : decode cX5_setKind 21 = .ok (.getfield 12, 3) := by decide +kernel
theorem dX5_setKind_24 : decode cX5_setKind 24 = .ok (.invokevirtual 75, 3) := by decide +kernel
theorem dX5_setKind_27 : decode cX5_setKind 27 = .ok (.return_, 1) := by decide +kernel
set_option maxRecDepth 20000 in
theorem ggX5_tell_X3_move : GoodIn wsX5_tell wsX3_move := goodIn_r _ [13, 14, 15, 16, 17, 18, 19, 20, 21, 22, 23, 24, 25, 26, 27, 28, 29, 30, 31, 32, 33, 34, 35, 36, 37, 38, 39, 40, 41, 12, 42, 43, 44, 45, 46, 47, 48, 49, 50, 51, 52, 53, 54, 55, 56, 57, 58, 59, 60, 61, 62, 68, 69, 70, 71, 72, 73, 74, 75, 76, 77, 78, 79, 80, 81, 82, 83, 84, 85, 86, 87, 88, 89] (by decide +kernel) (by decide +kernel)
set_option maxRecDepth 20000 in
theorem gX5_tell_X3_move : GoodIn wsX5_tell (wsV RX5 122 RX3 yX3_move wsX3_move) := goodIn_app (goodIn_of _ (by decide +kernel)) ggX5_tell_X3_move
theorem dX5_tell_0 : decode cX5_tell 0 = .ok (.aload_n 0, 1) := by decide +kernel
theorem dX5_tell_1 : decode cX5_tell 1 = .ok (.getfield 19, 3) := by decide +kernel
theorem dX5_tell_4 : decode cX5_tell 4 = .ok (.getfield 111, 3) := by decide +kernel
theorem dX5_tell_7 : decode cX5_tell 7 = .ok (.ifCond .eq 13, 3) := by decide +kernel
theorem dX5_tell_10 : decode cX5_tell 10 = .ok (.new 114, 3) := by decide +kernel
theorem dX5_tell_13 : decode cX5_tell 13 = .ok (.dup, 1) := by decide +kernel
theorem dX5_tell_14 : decode cX5_tell 14 = .ok (.ldc 116, 2) := by decide +kernel
theorem dX5_tell_16 : decode cX5_tell 16 = .ok (.invokespecial 118, 3) := by decide +kernel
theorem dX5_tell_19 : decode cX5_tell 19 = .ok (.athrow, 1) := by decide +kernel
theorem dX5_tell_20 : decode cX5_tell 20 = .ok (.iconst 1, 1) := by decide +kernel
theorem dX5_tell_21 : decode cX5_tell 21 = .ok (.aload_n 0, 1) := by decide +kernel
theorem dX5_tell_22 : decode cX5_tell 22 = .ok (.getfield 19, 3) := by decide +kernel
theorem dX5_tell_25 : decode cX5_tell 25 = .ok (.getfield 119, 3) := by decide +kernel
theorem dX5_tell_28 : decode cX5_tell 28 = .ok (.ishl, 1) := by decide +kernel
theorem dX5_tell_29 : decode cX5_tell 29 = .ok (.istore_n 2, 1) := by decide +kernel
theorem dX5_tell_30 : decode cX5_tell 30 = .ok (.aload_n 0, 1) := by decide +kernel
theorem dX5_tell_31 : decode cX5_tell 31 = .ok (.iload_n 1, 1) := by decide +kernel
theorem dX5_tell_32 : decode cX5_tell 32 = .ok (.ifCond .eq 12, 3) := by decide +kernel
theorem dX5_tell_35 : decode cX5_tell 35 = .ok (.aload_n 0, 1) := by decide +kernel
theorem dX5_tell_36 : decode cX5_tell 36 = .ok (.getfield 33, 3) := by decide +kernel
theorem dX5_tell_39 : decode cX5_tell 39 = .ok (.iload_n 2, 1) := by decide +kernel
theorem dX5_tell_40 : decode cX5_tell 40 = .ok (.ior, 1) := by decide +kernel
theorem dX5_tell_41 : decode cX5_tell 41 = .ok (.goto 11, 3) := by decide +kernel
theorem dX5_tell_44 : decode cX5_tell 44 = .ok (.aload_n 0, 1) := by decide +kernel
theorem dX5_tell_45 : decode cX5_tell 45 = .ok (.getfield 33, 3) := by decide +kernel
theorem dX5_tell_48 : decode cX5_tell 48 = .ok (.iload_n 2, 1) := by decide +kernel
theorem dX5_tell_49 : decode cX5_tell 49 = .ok (.iconst (-1), 1) := by decide +kernel
theorem dX5_tell_50 : decode cX5_tell 50 = .ok (.ixor, 1) := by decide +kernel
theorem dX5_tell_51 : decode cX5_tell 51 = .ok (.iand, 1) := by decide +kernel
theorem dX5_tell_52 : decode cX5_tell 52 = .ok (.putfield 33, 3) := by decide +kernel
theorem dX5_tell_55 : decode cX5_tell 55 = .ok (.aload_n 0, 1) := by decide +kernel
theorem dX5_tell_56 : decode cX5_tell 56 = .ok (.getfield 19, 3) := by decide +kernel
theorem dX5_tell_59 : decode cX5_tell 59 = .ok (.aload_n 0, 1) := by decide +kernel
theorem dX5_tell_60 : decode cX5_tell 60 = .ok (.getfield 12, 3) := by decide +kernel
theorem dX5_tell_63 : decode cX5_tell 63 = .ok (.iload_n 1, 1) := by decide +kernel
theorem dX5_tell_64 : decode cX5_tell 64 = .ok (.invokevirtual 122, 3) := by decide +kernel
theorem dX5_tell_67 : decode cX5_tell 67 = .ok (.aload_n 0, 1) := by decide +kernel
theorem dX5_tell_68 : decode cX5_tell 68 = .ok (.getfield 19, 3) := by decide +kernel
theorem dX5_tell_71 : decode cX5_tell 71 = .ok (.getfield 126, 3) := by decide +kernel
theorem dX5_tell_74 : decode cX5_tell 74 = .ok (.ireturn, 1) := by decide +kernel
set_option maxRecDepth 20000 in
theorem ggX5_takeBack_X3_begin : GoodIn wsX5_takeBack wsX3_begin := goodIn_r _ [12, 13, 14, 15, 16, 17, 18, 19, 20, 21, 22, 23, 76, 77, 78, 79, 80, 81, 82, 83, 84, 85, 86, 87, 88, 89, 90, 91, 92, 93, 94, 95, 96, 97] (by decide +kernel) (by decide +kernel)
set_option maxRecDepth 20000 in
theorem gX5_takeBack_X3_begin : GoodIn wsX5_takeBack (wsV RX5 75 RX3 yX3_begin wsX3_begin) := goodIn_app (goodIn_of _ (by decide +kernel)) ggX5_takeBack_X3_begin
set_option maxRecDepth 20000 in
theorem ggX5_takeBack_X5_isUpAt : GoodIn wsX5_takeBack wsX5_isUpAt := goodIn_r _ [27] (by decide +kernel) (by decide +kernel)
set_option maxRecDepth 20000 in
theorem gX5_takeBack_X5_isUpAt : GoodIn wsX5_takeBack (va_wsS RX5 131 yX5_isUpAt wsX5_isUpAt) := goodIn_app (goodIn_of _ (by decide +kernel)) ggX5_takeBack_X5_isUpAt
set_option maxRecDepth 20000 in
theorem ggX5_takeBack_X3_move : GoodIn wsX5_takeBack wsX3_move := goodIn_r _ [31, 13, 14, 16, 17, 18, 32, 33, 34, 35, 20, 22, 36, 21, 23, 37, 38, 39, 40, 41, 42, 43, 44, 45, 46, 47, 48, 49, 50, 11, 51, 52, 53, 54, 55, 56, 57, 58, 59, 60, 61, 62, 63, 64, 19, 65, 66, 67, 68, 69, 70, 76, 77, 78, 79, 80, 81, 82, 83, 84, 85, 86, 87, 88, 89, 90, 91, 92, 93, 94, 95, 96, 97] (by decide +kernel) (by decide +kernel)
set_option maxRecDepth 20000 in
theorem gX5_takeBack_X3_move : GoodIn wsX5_takeBack (wsV RX5 122 RX3 yX3_move wsX3_move) := goodIn_app (goodIn_of _ (by decide +kernel)) ggX5_takeBack_X3_move
theorem dX5_takeBack_0 : decode cX5_takeBack 0 = .ok (.aload_n 0, 1) := by decide +kernel
theorem dX5_takeBack_1 : decode cX5_takeBack 1 = .ok (.getfield 19, 3) := by decide +kernel
theorem dX5_takeBack_4 : decode cX5_takeBack 4 = .ok (.getfield 119, 3) := by decide +kernel
theorem dX5_takeBack_7 : decode cX5_takeBack 7 = .ok (.iconst 1, 1) := by decide +kernel
theorem dX5_takeBack_8 : decode cX5_takeBack 8 = .ok (.if_icmp .ge 13, 3) := by decide +kernel
theorem dX5_takeBack_11 : decode cX5_takeBack 11 = .ok (.new 114, 3) := by decide +kernel
theorem dX5_takeBack_14 : decode cX5_takeBack 14 = .ok (.dup, 1) := by decide +kernel
theorem dX5_takeBack_15 : decode cX5_takeBack 15 = .ok (.ldc 129, 2) := by decide +kernel
theorem dX5_takeBack_17 : decode cX5_takeBack 17 = .ok (.invokespecial 118, 3) := by decide +kernel
theorem dX5_takeBack_20 : decode cX5_takeBack 20 = .ok (.athrow, 1) := by decide +kernel
theorem dX5_takeBack_21 : decode cX5_takeBack 21 = .ok (.aload_n 0, 1) := by decide +kernel
theorem dX5_takeBack_22 : decode cX5_takeBack 22 = .ok (.getfield 19, 3) := by decide +kernel
theorem dX5_takeBack_25 : decode cX5_takeBack 25 = .ok (.getfield 126, 3) := by decide +kernel
theorem dX5_takeBack_28 : decode cX5_takeBack 28 = .ok (.istore_n 1, 1) := by decide +kernel
theorem dX5_takeBack_29 : decode cX5_takeBack 29 = .ok (.aload_n 0, 1) := by decide +kernel
theorem dX5_takeBack_30 : decode cX5_takeBack 30 = .ok (.getfield 19, 3) := by decide +kernel
theorem dX5_takeBack_33 : decode cX5_takeBack 33 = .ok (.getfield 119, 3) := by decide +kernel
theorem dX5_takeBack_36 : decode cX5_takeBack 36 = .ok (.iconst 1, 1) := by decide +kernel
theorem dX5_takeBack_37 : decode cX5_takeBack 37 = .ok (.isub, 1) := by decide +kernel
theorem dX5_takeBack_38 : decode cX5_takeBack 38 = .ok (.istore_n 2, 1) := by decide +kernel
theorem dX5_takeBack_39 : decode cX5_takeBack 39 = .ok (.aload_n 0, 1) := by decide +kernel
theorem dX5_takeBack_40 : decode cX5_takeBack 40 = .ok (.getfield 19, 3) := by decide +kernel
theorem dX5_takeBack_43 : decode cX5_takeBack 43 = .ok (.aload_n 0, 1) := by decide +kernel
theorem dX5_takeBack_44 : decode cX5_takeBack 44 = .ok (.getfield 12, 3) := by decide +kernel
theorem dX5_takeBack_47 : decode cX5_takeBack 47 = .ok (.invokevirtual 75, 3) := by decide +kernel
theorem dX5_takeBack_50 : decode cX5_takeBack 50 = .ok (.iconst 0, 1) := by decide +kernel
theorem dX5_takeBack_51 : decode cX5_takeBack 51 = .ok (.istore_n 3, 1) := by decide +kernel
theorem dX5_takeBack_52 : decode cX5_takeBack 52 = .ok (.iload_n 3, 1) := by decide +kernel
theorem dX5_takeBack_53 : decode cX5_takeBack 53 = .ok (.iload_n 2, 1) := by decide +kernel
theorem dX5_takeBack_54 : decode cX5_takeBack 54 = .ok (.if_icmp .ge 28, 3) := by decide +kernel
theorem dX5_takeBack_57 : decode cX5_takeBack 57 = .ok (.aload_n 0, 1) := by decide +kernel
theorem dX5_takeBack_58 : decode cX5_takeBack 58 = .ok (.getfield 19, 3) := by decide +kernel
theorem dX5_takeBack_61 : decode cX5_takeBack 61 = .ok (.aload_n 0, 1) := by decide +kernel
theorem dX5_takeBack_62 : decode cX5_takeBack 62 = .ok (.getfield 12, 3) := by decide +kernel
theorem dX5_takeBack_65 : decode cX5_takeBack 65 = .ok (.aload_n 0, 1) := by decide +kernel
theorem dX5_takeBack_66 : decode cX5_takeBack 66 = .ok (.getfield 33, 3) := by decide +kernel
theorem dX5_takeBack_69 : decode cX5_takeBack 69 = .ok (.iload_n 3, 1) := by decide +kernel
theorem dX5_takeBack_70 : decode cX5_takeBack 70 = .ok (.invokestatic 131, 3) := by decide +kernel
theorem dX5_takeBack_73 : decode cX5_takeBack 73 = .ok (.invokevirtual 122, 3) := by decide +kernel
theorem dX5_takeBack_76 : decode cX5_takeBack 76 = .ok (.iinc 3 1, 3) := by decide +kernel
theorem dX5_takeBack_79 : decode cX5_takeBack 79 = .ok (.goto (-27), 3) := by decide +kernel
theorem dX5_takeBack_82 : decode cX5_takeBack 82 = .ok (.iload_n 1, 1) := by decide +kernel
theorem dX5_takeBack_83 : decode cX5_takeBack 83 = .ok (.ireturn, 1) := by decide +kernel
theorem dX5_told_0 : decode cX5_told 0 = .ok (.aload_n 0, 1) := by decide +kernel
theorem dX5_told_1 : decode cX5_told 1 = .ok (.getfield 19, 3) := by decide +kernel
theorem dX5_told_4 : decode cX5_told 4 = .ok (.getfield 119, 3) := by decide +kernel
theorem dX5_told_7 : decode cX5_told 7 = .ok (.ireturn, 1) := by decide +kernel
set_option maxRecDepth 20000 in
theorem ggX5_price_X5_isAsset : GoodIn wsX5_price wsX5_isAsset := goodIn_r _ [9] (by decide +kernel) (by decide +kernel)
set_option maxRecDepth 20000 in
theorem gX5_price_X5_isAsset : GoodIn wsX5_price (va_wsS RX5 37 yX5_isAsset wsX5_isAsset) := goodIn_app (goodIn_of _ (by decide +kernel)) ggX5_price_X5_isAsset
theorem dX5_price_0 : decode cX5_price 0 = .ok (.iload_n 1, 1) := by decide +kernel
theorem dX5_price_1 : decode cX5_price 1 = .ok (.invokestatic 37, 3) := by decide +kernel
theorem dX5_price_4 : decode cX5_price 4 = .ok (.ifCond .ne 13, 3) := by decide +kernel
theorem dX5_price_7 : decode cX5_price 7 = .ok (.new 41, 3) := by decide +kernel
theorem dX5_price_10 : decode cX5_price 10 = .ok (.dup, 1) := by decide +kernel
theorem dX5_price_11 : decode cX5_price 11 = .ok (.ldc 43, 2) := by decide +kernel
theorem dX5_price_13 : decode cX5_price 13 = .ok (.invokespecial 45, 3) := by decide +kernel
theorem dX5_price_16 : decode cX5_price 16 = .ok (.athrow, 1) := by decide +kernel
theorem dX5_price_17 : decode cX5_price 17 = .ok (.iload_n 1, 1) := by decide +kernel
theorem dX5_price_18 : decode cX5_price 18 = .ok (.ifCond .ne 13, 3) := by decide +kernel
theorem dX5_price_21 : decode cX5_price 21 = .ok (.aload_n 0, 1) := by decide +kernel
theorem dX5_price_22 : decode cX5_price 22 = .ok (.getfield 19, 3) := by decide +kernel
theorem dX5_price_25 : decode cX5_price 25 = .ok (.getfield 135, 3) := by decide +kernel
theorem dX5_price_28 : decode cX5_price 28 = .ok (.goto 10, 3) := by decide +kernel
theorem dX5_price_31 : decode cX5_price 31 = .ok (.aload_n 0, 1) := by decide +kernel
theorem dX5_price_32 : decode cX5_price 32 = .ok (.getfield 19, 3) := by decide +kernel
theorem dX5_price_35 : decode cX5_price 35 = .ok (.getfield 138, 3) := by decide +kernel
theorem dX5_price_38 : decode cX5_price 38 = .ok (.ireturn, 1) := by decide +kernel
set_option maxRecDepth 20000 in
theorem ggX5_worst_X3_worstLevel : GoodIn wsX5_worst wsX3_worstLevel := goodIn_r _ [7, 8, 9, 10, 11, 12, 13, 14, 15, 16, 17, 18, 19, 20, 21, 27, 28, 29, 30, 31, 32, 33, 34, 35, 36, 37, 38, 39, 40, 41, 42, 43, 44, 45, 46, 47, 48] (by decide +kernel) (by decide +kernel)
set_option maxRecDepth 20000 in
theorem gX5_worst_X3_worstLevel : GoodIn wsX5_worst (wsV RX5 141 RX3 yX3_worstLevel wsX3_worstLevel) := goodIn_app (goodIn_of _ (by decide +kernel)) ggX5_worst_X3_worstLevel
theorem dX5_worst_0 : decode cX5_worst 0 = .ok (.aload_n 0, 1) := by decide +kernel
theorem dX5_worst_1 : decode cX5_worst 1 = .ok (.getfield 19, 3) := by decide +kernel
theorem dX5_worst_4 : decode cX5_worst 4 = .ok (.aload_n 0, 1) := by decide +kernel
theorem dX5_worst_5 : decode cX5_worst 5 = .ok (.getfield 12, 3) := by decide +kernel
theorem dX5_worst_8 : decode cX5_worst 8 = .ok (.invokevirtual 141, 3) := by decide +kernel
theorem dX5_worst_11 : decode cX5_worst 11 = .ok (.ireturn, 1) := by decide +kernel
theorem dX5_isKnocked_0 : decode cX5_isKnocked 0 = .ok (.aload_n 0, 1) := by decide +kernel
theorem dX5_isKnocked_1 : decode cX5_isKnocked 1 = .ok (.getfield 19, 3) := by decide +kernel
theorem dX5_isKnocked_4 : decode cX5_isKnocked 4 = .ok (.getfield 145, 3) := by decide +kernel
theorem dX5_isKnocked_7 : decode cX5_isKnocked 7 = .ok (.ireturn, 1) := by decide +kernel
theorem dX5_missed_0 : decode cX5_missed 0 = .ok (.aload_n 0, 1) := by decide +kernel
theorem dX5_missed_1 : decode cX5_missed 1 = .ok (.getfield 19, 3) := by decide +kernel
theorem dX5_missed_4 : decode cX5_missed 4 = .ok (.getfield 148, 3) := by decide +kernel
theorem dX5_missed_7 : decode cX5_missed 7 = .ok (.ireturn, 1) := by decide +kernel
theorem dX5_paid_0 : decode cX5_paid 0 = .ok (.aload_n 0, 1) := by decide +kernel
theorem dX5_paid_1 : decode cX5_paid 1 = .ok (.getfield 19, 3) := by decide +kernel
theorem dX5_paid_4 : decode cX5_paid 4 = .ok (.getfield 151, 3) := by decide +kernel
theorem dX5_paid_7 : decode cX5_paid 7 = .ok (.ireturn, 1) := by decide +kernel
theorem dX5_isOver_0 : decode cX5_isOver 0 = .ok (.aload_n 0, 1) := by decide +kernel
theorem dX5_isOver_1 : decode cX5_isOver 1 = .ok (.getfield 19, 3) := by decide +kernel
theorem dX5_isOver_4 : decode cX5_isOver 4 = .ok (.getfield 111, 3) := by decide +kernel
theorem dX5_isOver_7 : decode cX5_isOver 7 = .ok (.ireturn, 1) := by decide +kernel
set_option maxRecDepth 20000 in
theorem ggX5_worth_X4_grow : GoodIn wsX5_worth wsX4_grow := goodIn_r _ [9, 10, 11, 12, 13, 14, 15, 16, 17, 18, 19, 20, 21, 8, 22, 23, 24, 25, 26, 27, 28, 29, 30, 31, 32, 33, 34, 35, 36, 37, 38, 39, 40, 41, 42, 43, 44, 45, 46, 47, 48, 49, 50, 51, 52, 53, 54, 55, 56, 57, 58, 59, 60, 61, 62, 63, 64, 65, 66, 67, 68, 69, 70, 71, 72, 73, 74, 75, 76, 77, 78, 79, 80, 81, 82, 83, 84, 85, 86, 87, 88, 89, 90, 91, 92, 93, 94, 95, 96, 97, 98, 99, 100, 101, 102, 103, 104, 105, 106, 107, 108, 109, 110, 111, 112, 113, 114, 115, 116, 117, 118, 119, 120, 121, 122, 123, 124, 125, 126, 127, 128, 129, 130, 131, 132, 133, 134, 135, 136, 137, 138, 139, 140, 141, 142, 143, 144, 145, 146, 161, 162, 163, 164, 165, 166, 167, 168, 152, 153, 154, 155, 156, 157, 158, 159, 160, 169, 170, 171, 172, 173, 174, 175, 176, 177, 178, 179, 180, 181, 182, 183, 184, 185, 186, 187, 188, 189, 190] (by decide +kernel) (by decide +kernel)
set_option maxRecDepth 20000 in
theorem gX5_worth_X4_grow : GoodIn wsX5_worth (wsV RX5 154 RX4 yX4_grow wsX4_grow) := goodIn_app (goodIn_of _ (by decide +kernel)) ggX5_worth_X4_grow
theorem dX5_worth_0 : decode cX5_worth 0 = .ok (.aload_n 0, 1) := by decide +kernel
theorem dX5_worth_1 : decode cX5_worth 1 = .ok (.getfield 29, 3) := by decide +kernel
theorem dX5_worth_4 : decode cX5_worth 4 = .ok (.aload_n 0, 1) := by decide +kernel
theorem dX5_worth_5 : decode cX5_worth 5 = .ok (.getfield 12, 3) := by decide +kernel
theorem dX5_worth_8 : decode cX5_worth 8 = .ok (.aload_n 0, 1) := by decide +kernel
theorem dX5_worth_9 : decode cX5_worth 9 = .ok (.getfield 19, 3) := by decide +kernel
theorem dX5_worth_12 : decode cX5_worth 12 = .ok (.invokevirtual 154, 3) := by decide +kernel
theorem dX5_worth_15 : decode cX5_worth 15 = .ok (.aload_n 0, 1) := by decide +kernel
theorem dX5_worth_16 : decode cX5_worth 16 = .ok (.getfield 29, 3) := by decide +kernel
theorem dX5_worth_19 : decode cX5_worth 19 = .ok (.getfield 158, 3) := by decide +kernel
theorem dX5_worth_22 : decode cX5_worth 22 = .ok (.lreturn, 1) := by decide +kernel
set_option maxRecDepth 20000 in
theorem ggX5_worthByPaths_X5_worthOfRow : GoodIn wsX5_worthByPaths wsX5_worthOfRow := goodIn_r _ [10, 11, 1, 2, 12, 3, 13, 14, 15, 16, 17, 18, 19, 20, 21, 22, 23, 24, 25, 26, 27, 28, 9, 29, 30, 31, 32, 33, 34, 35, 36, 37, 38, 39, 40, 41, 42, 43, 44, 45, 46, 47, 48, 49, 50, 51, 52, 53, 54, 55, 56, 57, 58, 59, 60, 61, 62, 63, 64, 65, 66, 67, 68, 69, 70, 71, 72, 73, 74, 75, 76, 77, 78, 79, 80, 81, 82, 83, 84, 85, 86, 87, 88, 89, 90, 91, 92, 93, 94, 95, 96, 97, 98, 99, 100, 101, 102, 103, 104, 105, 106, 107] (by decide +kernel) (by decide +kernel)
set_option maxRecDepth 20000 in
theorem gX5_worthByPaths_X5_worthOfRow : GoodIn wsX5_worthByPaths (wsV RX5 162 RX5 yX5_worthOfRow wsX5_worthOfRow) := goodIn_app (goodIn_of _ (by decide +kernel)) ggX5_worthByPaths_X5_worthOfRow
theorem dX5_worthByPaths_0 : decode cX5_worthByPaths 0 = .ok (.aload_n 0, 1) := by decide +kernel
theorem dX5_worthByPaths_1 : decode cX5_worthByPaths 1 = .ok (.getfield 19, 3) := by decide +kernel
theorem dX5_worthByPaths_4 : decode cX5_worthByPaths 4 = .ok (.getfield 111, 3) := by decide +kernel
theorem dX5_worthByPaths_7 : decode cX5_worthByPaths 7 = .ok (.ifCond .eq 5, 3) := by decide +kernel
theorem dX5_worthByPaths_10 : decode cX5_worthByPaths 10 = .ok (.lconst 0, 1) := by decide +kernel
theorem dX5_worthByPaths_11 : decode cX5_worthByPaths 11 = .ok (.lreturn, 1) := by decide +kernel
theorem dX5_worthByPaths_12 : decode cX5_worthByPaths 12 = .ok (.aload_n 0, 1) := by decide +kernel
theorem dX5_worthByPaths_13 : decode cX5_worthByPaths 13 = .ok (.getfield 12, 3) := by decide +kernel
theorem dX5_worthByPaths_16 : decode cX5_worthByPaths 16 = .ok (.getfield 90, 3) := by decide +kernel
theorem dX5_worthByPaths_19 : decode cX5_worthByPaths 19 = .ok (.aload_n 0, 1) := by decide +kernel
theorem dX5_worthByPaths_20 : decode cX5_worthByPaths 20 = .ok (.getfield 19, 3) := by decide +kernel
theorem dX5_worthByPaths_23 : decode cX5_worthByPaths 23 = .ok (.getfield 119, 3) := by decide +kernel
theorem dX5_worthByPaths_26 : decode cX5_worthByPaths 26 = .ok (.isub, 1) := by decide +kernel
theorem dX5_worthByPaths_27 : decode cX5_worthByPaths 27 = .ok (.istore_n 1, 1) := by decide +kernel
theorem dX5_worthByPaths_28 : decode cX5_worthByPaths 28 = .ok (.lconst 0, 1) := by decide +kernel
theorem dX5_worthByPaths_29 : decode cX5_worthByPaths 29 = .ok (.lstore_n 2, 1) := by decide +kernel
theorem dX5_worthByPaths_30 : decode cX5_worthByPaths 30 = .ok (.iconst 0, 1) := by decide +kernel
theorem dX5_worthByPaths_31 : decode cX5_worthByPaths 31 = .ok (.istore 4, 2) := by decide +kernel
theorem dX5_worthByPaths_33 : decode cX5_worthByPaths 33 = .ok (.iload 4, 2) := by decide +kernel
theorem dX5_worthByPaths_35 : decode cX5_worthByPaths 35 = .ok (.sipush 256, 3) := by decide +kernel
theorem dX5_worthByPaths_38 : decode cX5_worthByPaths 38 = .ok (.if_icmp .ge 27, 3) := by decide +kernel
theorem dX5_worthByPaths_41 : decode cX5_worthByPaths 41 = .ok (.iload 4, 2) := by decide +kernel
theorem dX5_worthByPaths_43 : decode cX5_worthByPaths 43 = .ok (.iconst 1, 1) := by decide +kernel
theorem dX5_worthByPaths_44 : decode cX5_worthByPaths 44 = .ok (.iload_n 1, 1) := by decide +kernel
theorem dX5_worthByPaths_45 : decode cX5_worthByPaths 45 = .ok (.ishl, 1) := by decide +kernel
theorem dX5_worthByPaths_46 : decode cX5_worthByPaths 46 = .ok (.if_icmp .ge 19, 3) := by decide +kernel
theorem dX5_worthByPaths_49 : decode cX5_worthByPaths 49 = .ok (.lload_n 2, 1) := by decide +kernel
theorem dX5_worthByPaths_50 : decode cX5_worthByPaths 50 = .ok (.aload_n 0, 1) := by decide +kernel
theorem dX5_worthByPaths_51 : decode cX5_worthByPaths 51 = .ok (.iload 4, 2) := by decide +kernel
theorem dX5_worthByPaths_53 : decode cX5_worthByPaths 53 = .ok (.iload_n 1, 1) := by decide +kernel
theorem dX5_worthByPaths_54 : decode cX5_worthByPaths 54 = .ok (.invokevirtual 162, 3) := by decide +kernel
theorem dX5_worthByPaths_57 : decode cX5_worthByPaths 57 = .ok (.ladd, 1) := by decide +kernel
theorem dX5_worthByPaths_58 : decode cX5_worthByPaths 58 = .ok (.lstore_n 2, 1) := by decide +kernel
theorem dX5_worthByPaths_59 : decode cX5_worthByPaths 59 = .ok (.iinc 4 1, 3) := by decide +kernel
theorem dX5_worthByPaths_62 : decode cX5_worthByPaths 62 = .ok (.goto (-29), 3) := by decide +kernel
theorem dX5_worthByPaths_65 : decode cX5_worthByPaths 65 = .ok (.lload_n 2, 1) := by decide +kernel
theorem dX5_worthByPaths_66 : decode cX5_worthByPaths 66 = .ok (.lreturn, 1) := by decide +kernel
set_option maxRecDepth 20000 in
theorem ggX5_divisor_X5_wholeWeightOf : GoodIn wsX5_divisor wsX5_wholeWeightOf := goodIn_r _ [9, 10] (by decide +kernel) (by decide +kernel)
set_option maxRecDepth 20000 in
theorem gX5_divisor_X5_wholeWeightOf : GoodIn wsX5_divisor (va_wsS RX5 166 yX5_wholeWeightOf wsX5_wholeWeightOf) := goodIn_app (goodIn_of _ (by decide +kernel)) ggX5_divisor_X5_wholeWeightOf
theorem dX5_divisor_0 : decode cX5_divisor 0 = .ok (.aload_n 0, 1) := by decide +kernel
theorem dX5_divisor_1 : decode cX5_divisor 1 = .ok (.getfield 19, 3) := by decide +kernel
theorem dX5_divisor_4 : decode cX5_divisor 4 = .ok (.getfield 111, 3) := by decide +kernel
theorem dX5_divisor_7 : decode cX5_divisor 7 = .ok (.ifCond .eq 7, 3) := by decide +kernel
theorem dX5_divisor_10 : decode cX5_divisor 10 = .ok (.lconst 1, 1) := by decide +kernel
theorem dX5_divisor_11 : decode cX5_divisor 11 = .ok (.goto 21, 3) := by decide +kernel
theorem dX5_divisor_14 : decode cX5_divisor 14 = .ok (.aload_n 0, 1) := by decide +kernel
theorem dX5_divisor_15 : decode cX5_divisor 15 = .ok (.getfield 12, 3) := by decide +kernel
theorem dX5_divisor_18 : decode cX5_divisor 18 = .ok (.getfield 90, 3) := by decide +kernel
theorem dX5_divisor_21 : decode cX5_divisor 21 = .ok (.aload_n 0, 1) := by decide +kernel
theorem dX5_divisor_22 : decode cX5_divisor 22 = .ok (.getfield 19, 3) := by decide +kernel
theorem dX5_divisor_25 : decode cX5_divisor 25 = .ok (.getfield 119, 3) := by decide +kernel
theorem dX5_divisor_28 : decode cX5_divisor 28 = .ok (.isub, 1) := by decide +kernel
theorem dX5_divisor_29 : decode cX5_divisor 29 = .ok (.invokestatic 166, 3) := by decide +kernel
theorem dX5_divisor_32 : decode cX5_divisor 32 = .ok (.lreturn, 1) := by decide +kernel
set_option maxRecDepth 20000 in
theorem ggX5_states_X4_grow : GoodIn wsX5_states wsX4_grow := goodIn_r _ [9, 10, 11, 12, 13, 14, 15, 16, 17, 18, 19, 20, 21, 8, 22, 23, 24, 25, 26, 27, 28, 29, 30, 31, 32, 33, 34, 35, 36, 37, 38, 39, 40, 41, 42, 43, 44, 45, 46, 47, 48, 49, 50, 51, 52, 53, 54, 55, 56, 57, 58, 59, 60, 61, 62, 63, 64, 65, 66, 67, 68, 69, 70, 71, 72, 73, 74, 75, 76, 77, 78, 79, 80, 81, 82, 83, 84, 85, 86, 87, 88, 89, 90, 91, 92, 93, 94, 95, 96, 97, 98, 99, 100, 101, 102, 103, 104, 105, 106, 107, 108, 109, 110, 111, 112, 113, 114, 115, 116, 117, 118, 119, 120, 121, 122, 123, 124, 125, 126, 127, 128, 129, 130, 131, 132, 133, 134, 135, 136, 137, 138, 139, 140, 141, 142, 143, 144, 145, 146, 161, 162, 163, 164, 165, 166, 167, 168, 152, 153, 154, 155, 156, 157, 158, 159, 160, 169, 170, 171, 172, 173, 174, 175, 176, 177, 178, 179, 180, 181, 182, 183, 184, 185, 186, 187, 188, 189, 190] (by decide +kernel) (by decide +kernel)
set_option maxRecDepth 20000 in
theorem gX5_states_X4_grow : GoodIn wsX5_states (wsV RX5 154 RX4 yX4_grow wsX4_grow) := goodIn_app (goodIn_of _ (by decide +kernel)) ggX5_states_X4_grow
theorem dX5_states_0 : decode cX5_states 0 = .ok (.aload_n 0, 1) := by decide +kernel
theorem dX5_states_1 : decode cX5_states 1 = .ok (.getfield 29, 3) := by decide +kernel
theorem dX5_states_4 : decode cX5_states 4 = .ok (.aload_n 0, 1) := by decide +kernel
theorem dX5_states_5 : decode cX5_states 5 = .ok (.getfield 12, 3) := by decide +kernel
theorem dX5_states_8 : decode cX5_states 8 = .ok (.aload_n 0, 1) := by decide +kernel
theorem dX5_states_9 : decode cX5_states 9 = .ok (.getfield 19, 3) := by decide +kernel
theorem dX5_states_12 : decode cX5_states 12 = .ok (.invokevirtual 154, 3) := by decide +kernel
theorem dX5_states_15 : decode cX5_states 15 = .ok (.aload_n 0, 1) := by decide +kernel
theorem dX5_states_16 : decode cX5_states 16 = .ok (.getfield 29, 3) := by decide +kernel
theorem dX5_states_19 : decode cX5_states 19 = .ok (.getfield 170, 3) := by decide +kernel
theorem dX5_states_22 : decode cX5_states 22 = .ok (.ireturn, 1) := by decide +kernel
set_option maxRecDepth 20000 in
theorem ggX5_least_X4_grow : GoodIn wsX5_least wsX4_grow := goodIn_r _ [9, 10, 11, 12, 13, 14, 15, 16, 17, 18, 19, 20, 21, 8, 22, 23, 24, 25, 26, 27, 28, 29, 30, 31, 32, 33, 34, 35, 36, 37, 38, 39, 40, 41, 42, 43, 44, 45, 46, 47, 48, 49, 50, 51, 52, 53, 54, 55, 56, 57, 58, 59, 60, 61, 62, 63, 64, 65, 66, 67, 68, 69, 70, 71, 72, 73, 74, 75, 76, 77, 78, 79, 80, 81, 82, 83, 84, 85, 86, 87, 88, 89, 90, 91, 92, 93, 94, 95, 96, 97, 98, 99, 100, 101, 102, 103, 104, 105, 106, 107, 108, 109, 110, 111, 112, 113, 114, 115, 116, 117, 118, 119, 120, 121, 122, 123, 124, 125, 126, 127, 128, 129, 130, 131, 132, 133, 134, 135, 136, 137, 138, 139, 140, 141, 142, 143, 144, 145, 146, 161, 162, 163, 164, 165, 166, 167, 168, 152, 153, 154, 155, 156, 157, 158, 159, 160, 169, 170, 171, 172, 173, 174, 175, 176, 177, 178, 179, 180, 181, 182, 183, 184, 185, 186, 187, 188, 189, 190] (by decide +kernel) (by decide +kernel)
set_option maxRecDepth 20000 in
theorem gX5_least_X4_grow : GoodIn wsX5_least (wsV RX5 154 RX4 yX4_grow wsX4_grow) := goodIn_app (goodIn_of _ (by decide +kernel)) ggX5_least_X4_grow
theorem dX5_least_0 : decode cX5_least 0 = .ok (.aload_n 0, 1) := by decide +kernel
theorem dX5_least_1 : decode cX5_least 1 = .ok (.getfield 29, 3) := by decide +kernel
theorem dX5_least_4 : decode cX5_least 4 = .ok (.aload_n 0, 1) := by decide +kernel
theorem dX5_least_5 : decode cX5_least 5 = .ok (.getfield 12, 3) := by decide +kernel
theorem dX5_least_8 : decode cX5_least 8 = .ok (.aload_n 0, 1) := by decide +kernel
theorem dX5_least_9 : decode cX5_least 9 = .ok (.getfield 19, 3) := by decide +kernel
theorem dX5_least_12 : decode cX5_least 12 = .ok (.invokevirtual 154, 3) := by decide +kernel
theorem dX5_least_15 : decode cX5_least 15 = .ok (.aload_n 0, 1) := by decide +kernel
theorem dX5_least_16 : decode cX5_least 16 = .ok (.getfield 29, 3) := by decide +kernel
theorem dX5_least_19 : decode cX5_least 19 = .ok (.getfield 173, 3) := by decide +kernel
theorem dX5_least_22 : decode cX5_least 22 = .ok (.ireturn, 1) := by decide +kernel
set_option maxRecDepth 20000 in
theorem ggX5_most_X4_grow : GoodIn wsX5_most wsX4_grow := goodIn_r _ [9, 10, 11, 12, 13, 14, 15, 16, 17, 18, 19, 20, 21, 8, 22, 23, 24, 25, 26, 27, 28, 29, 30, 31, 32, 33, 34, 35, 36, 37, 38, 39, 40, 41, 42, 43, 44, 45, 46, 47, 48, 49, 50, 51, 52, 53, 54, 55, 56, 57, 58, 59, 60, 61, 62, 63, 64, 65, 66, 67, 68, 69, 70, 71, 72, 73, 74, 75, 76, 77, 78, 79, 80, 81, 82, 83, 84, 85, 86, 87, 88, 89, 90, 91, 92, 93, 94, 95, 96, 97, 98, 99, 100, 101, 102, 103, 104, 105, 106, 107, 108, 109, 110, 111, 112, 113, 114, 115, 116, 117, 118, 119, 120, 121, 122, 123, 124, 125, 126, 127, 128, 129, 130, 131, 132, 133, 134, 135, 136, 137, 138, 139, 140, 141, 142, 143, 144, 145, 146, 161, 162, 163, 164, 165, 166, 167, 168, 152, 153, 154, 155, 156, 157, 158, 159, 160, 169, 170, 171, 172, 173, 174, 175, 176, 177, 178, 179, 180, 181, 182, 183, 184, 185, 186, 187, 188, 189, 190] (by decide +kernel) (by decide +kernel)
set_option maxRecDepth 20000 in
theorem gX5_most_X4_grow : GoodIn wsX5_most (wsV RX5 154 RX4 yX4_grow wsX4_grow) := goodIn_app (goodIn_of _ (by decide +kernel)) ggX5_most_X4_grow
theorem dX5_most_0 : decode cX5_most 0 = .ok (.aload_n 0, 1) := by decide +kernel
theorem dX5_most_1 : decode cX5_most 1 = .ok (.getfield 29, 3) := by decide +kernel
theorem dX5_most_4 : decode cX5_most 4 = .ok (.aload_n 0, 1) := by decide +kernel
theorem dX5_most_5 : decode cX5_most 5 = .ok (.getfield 12, 3) := by decide +kernel
theorem dX5_most_8 : decode cX5_most 8 = .ok (.aload_n 0, 1) := by decide +kernel
theorem dX5_most_9 : decode cX5_most 9 = .ok (.getfield 19, 3) := by decide +kernel
theorem dX5_most_12 : decode cX5_most 12 = .ok (.invokevirtual 154, 3) := by decide +kernel
theorem dX5_most_15 : decode cX5_most 15 = .ok (.aload_n 0, 1) := by decide +kernel
theorem dX5_most_16 : decode cX5_most 16 = .ok (.getfield 29, 3) := by decide +kernel
theorem dX5_most_19 : decode cX5_most 19 = .ok (.getfield 176, 3) := by decide +kernel
theorem dX5_most_22 : decode cX5_most 22 = .ok (.ireturn, 1) := by decide +kernel
set_option maxRecDepth 20000 in
theorem ggX5_endsIn_X5_isWithin : GoodIn wsX5_endsIn wsX5_isWithin := goodIn_r _ [10] (by decide +kernel) (by decide +kernel)
set_option maxRecDepth 20000 in
theorem gX5_endsIn_X5_isWithin : GoodIn wsX5_endsIn (va_wsS RX5 48 yX5_isWithin wsX5_isWithin) := goodIn_app (goodIn_of _ (by decide +kernel)) ggX5_endsIn_X5_isWithin
set_option maxRecDepth 20000 in
theorem ggX5_endsIn_X4_grow : GoodIn wsX5_endsIn wsX4_grow := goodIn_r _ [15, 16, 17, 18, 19, 20, 21, 22, 23, 24, 25, 26, 27, 14, 28, 29, 30, 31, 32, 33, 34, 35, 36, 37, 38, 39, 40, 41, 42, 43, 44, 45, 46, 47, 48, 49, 50, 51, 52, 53, 54, 55, 56, 57, 58, 59, 60, 61, 62, 63, 64, 65, 66, 67, 68, 69, 70, 71, 72, 73, 74, 75, 76, 77, 78, 79, 80, 81, 82, 83, 84, 85, 86, 87, 88, 89, 90, 91, 92, 93, 94, 95, 96, 97, 98, 99, 100, 101, 102, 103, 104, 105, 106, 107, 108, 109, 110, 111, 112, 113, 114, 115, 116, 117, 118, 119, 120, 121, 122, 123, 124, 125, 126, 127, 128, 129, 130, 131, 132, 133, 134, 135, 136, 137, 138, 139, 140, 141, 142, 143, 9, 144, 145, 146, 147, 148, 149, 150, 151, 172, 173, 174, 175, 176, 177, 178, 179, 180, 181, 182, 183, 184, 185, 186, 187, 188, 189, 190, 191, 192, 193, 194, 195, 196, 161, 162, 163, 164, 165, 166, 167, 168, 169, 170, 171, 197, 198, 199] (by decide +kernel) (by decide +kernel)
set_option maxRecDepth 20000 in
theorem gX5_endsIn_X4_grow : GoodIn wsX5_endsIn (wsV RX5 154 RX4 yX4_grow wsX4_grow) := goodIn_app (goodIn_of _ (by decide +kernel)) ggX5_endsIn_X4_grow
set_option maxRecDepth 20000 in
theorem ggX5_endsIn_X4_endSumOf : GoodIn wsX5_endsIn wsX4_endSumOf := goodIn_r _ [155, 29, 180, 181, 182, 183, 184, 185, 186, 187, 188] (by decide +kernel) (by decide +kernel)
set_option maxRecDepth 20000 in
theorem gX5_endsIn_X4_endSumOf : GoodIn wsX5_endsIn (wsV RX5 181 RX4 yX4_endSumOf wsX4_endSumOf) := goodIn_app (goodIn_of _ (by decide +kernel)) ggX5_endsIn_X4_endSumOf
theorem dX5_endsIn_0 : decode cX5_endsIn 0 = .ok (.iload_n 1, 1) := by decide +kernel
theorem dX5_endsIn_1 : decode cX5_endsIn 1 = .ok (.iconst 1, 1) := by decide +kernel
theorem dX5_endsIn_2 : decode cX5_endsIn 2 = .ok (.aload_n 0, 1) := by decide +kernel
theorem dX5_endsIn_3 : decode cX5_endsIn 3 = .ok (.getfield 12, 3) := by decide +kernel
theorem dX5_endsIn_6 : decode cX5_endsIn 6 = .ok (.getfield 90, 3) := by decide +kernel
theorem dX5_endsIn_9 : decode cX5_endsIn 9 = .ok (.invokestatic 48, 3) := by decide +kernel
theorem dX5_endsIn_12 : decode cX5_endsIn 12 = .ok (.ifCond .ne 13, 3) := by decide +kernel
theorem dX5_endsIn_15 : decode cX5_endsIn 15 = .ok (.new 52, 3) := by decide +kernel
theorem dX5_endsIn_18 : decode cX5_endsIn 18 = .ok (.dup, 1) := by decide +kernel
theorem dX5_endsIn_19 : decode cX5_endsIn 19 = .ok (.ldc 179, 2) := by decide +kernel
theorem dX5_endsIn_21 : decode cX5_endsIn 21 = .ok (.invokespecial 56, 3) := by decide +kernel
theorem dX5_endsIn_24 : decode cX5_endsIn 24 = .ok (.athrow, 1) := by decide +kernel
theorem dX5_endsIn_25 : decode cX5_endsIn 25 = .ok (.aload_n 0, 1) := by decide +kernel
theorem dX5_endsIn_26 : decode cX5_endsIn 26 = .ok (.getfield 29, 3) := by decide +kernel
theorem dX5_endsIn_29 : decode cX5_endsIn 29 = .ok (.aload_n 0, 1) := by decide +kernel
theorem dX5_endsIn_30 : decode cX5_endsIn 30 = .ok (.getfield 12, 3) := by decide +kernel
theorem dX5_endsIn_33 : decode cX5_endsIn 33 = .ok (.aload_n 0, 1) := by decide +kernel
theorem dX5_endsIn_34 : decode cX5_endsIn 34 = .ok (.getfield 19, 3) := by decide +kernel
theorem dX5_endsIn_37 : decode cX5_endsIn 37 = .ok (.invokevirtual 154, 3) := by decide +kernel
theorem dX5_endsIn_40 : decode cX5_endsIn 40 = .ok (.aload_n 0, 1) := by decide +kernel
theorem dX5_endsIn_41 : decode cX5_endsIn 41 = .ok (.getfield 29, 3) := by decide +kernel
theorem dX5_endsIn_44 : decode cX5_endsIn 44 = .ok (.iload_n 1, 1) := by decide +kernel
theorem dX5_endsIn_45 : decode cX5_endsIn 45 = .ok (.invokevirtual 181, 3) := by decide +kernel
theorem dX5_endsIn_48 : decode cX5_endsIn 48 = .ok (.lreturn, 1) := by decide +kernel
set_option maxRecDepth 20000 in
theorem ggX5_knocks_X4_grow : GoodIn wsX5_knocks wsX4_grow := goodIn_r _ [9, 10, 11, 12, 13, 14, 15, 16, 17, 18, 19, 20, 21, 8, 22, 23, 24, 25, 26, 27, 28, 29, 30, 31, 32, 33, 34, 35, 36, 37, 38, 39, 40, 41, 42, 43, 44, 45, 46, 47, 48, 49, 50, 51, 52, 53, 54, 55, 56, 57, 58, 59, 60, 61, 62, 63, 64, 65, 66, 67, 68, 69, 70, 71, 72, 73, 74, 75, 76, 77, 78, 79, 80, 81, 82, 83, 84, 85, 86, 87, 88, 89, 90, 91, 92, 93, 94, 95, 96, 97, 98, 99, 100, 101, 102, 103, 104, 105, 106, 107, 108, 109, 110, 111, 112, 113, 114, 115, 116, 117, 118, 119, 120, 121, 122, 123, 124, 125, 126, 127, 128, 129, 130, 131, 132, 133, 134, 135, 136, 137, 138, 139, 140, 141, 142, 143, 144, 145, 146, 161, 162, 163, 164, 165, 166, 167, 168, 152, 153, 154, 155, 156, 157, 158, 159, 160, 169, 170, 171, 172, 173, 174, 175, 176, 177, 178, 179, 180, 181, 182, 183, 184, 185, 186, 187, 188, 189, 190] (by decide +kernel) (by decide +kernel)
set_option maxRecDepth 20000 in
theorem gX5_knocks_X4_grow : GoodIn wsX5_knocks (wsV RX5 154 RX4 yX4_grow wsX4_grow) := goodIn_app (goodIn_of _ (by decide +kernel)) ggX5_knocks_X4_grow
theorem dX5_knocks_0 : decode cX5_knocks 0 = .ok (.aload_n 0, 1) := by decide +kernel
theorem dX5_knocks_1 : decode cX5_knocks 1 = .ok (.getfield 29, 3) := by decide +kernel
theorem dX5_knocks_4 : decode cX5_knocks 4 = .ok (.aload_n 0, 1) := by decide +kernel
theorem dX5_knocks_5 : decode cX5_knocks 5 = .ok (.getfield 12, 3) := by decide +kernel
theorem dX5_knocks_8 : decode cX5_knocks 8 = .ok (.aload_n 0, 1) := by decide +kernel
theorem dX5_knocks_9 : decode cX5_knocks 9 = .ok (.getfield 19, 3) := by decide +kernel
theorem dX5_knocks_12 : decode cX5_knocks 12 = .ok (.invokevirtual 154, 3) := by decide +kernel
theorem dX5_knocks_15 : decode cX5_knocks 15 = .ok (.aload_n 0, 1) := by decide +kernel
theorem dX5_knocks_16 : decode cX5_knocks 16 = .ok (.getfield 29, 3) := by decide +kernel
theorem dX5_knocks_19 : decode cX5_knocks 19 = .ok (.getfield 184, 3) := by decide +kernel
theorem dX5_knocks_22 : decode cX5_knocks 22 = .ok (.lreturn, 1) := by decide +kernel
set_option maxRecDepth 20000 in
theorem ggX5_worthOfRow_X3_copy : GoodIn wsX5_worthOfRow wsX3_copy := goodIn_r _ [11, 12, 13, 14, 15, 16, 17, 18, 19, 80, 81, 82, 83, 84, 85, 86, 87] (by decide +kernel) (by decide +kernel)
set_option maxRecDepth 20000 in
theorem gX5_worthOfRow_X3_copy : GoodIn wsX5_worthOfRow (wsV RX5 187 RX3 yX3_copy wsX3_copy) := goodIn_app (goodIn_of _ (by decide +kernel)) ggX5_worthOfRow_X3_copy
set_option maxRecDepth 20000 in
theorem ggX5_worthOfRow_X5_isUpAt : GoodIn wsX5_worthOfRow wsX5_isUpAt := goodIn_r _ [23] (by decide +kernel) (by decide +kernel)
set_option maxRecDepth 20000 in
theorem gX5_worthOfRow_X5_isUpAt : GoodIn wsX5_worthOfRow (va_wsS RX5 131 yX5_isUpAt wsX5_isUpAt) := goodIn_app (goodIn_of _ (by decide +kernel)) ggX5_worthOfRow_X5_isUpAt
set_option maxRecDepth 20000 in
theorem ggX5_worthOfRow_X2_weightOf : GoodIn wsX5_worthOfRow wsX2_weightOf := goodIn_r _ [28, 29, 88, 89, 90, 91, 92, 93, 94, 95, 96, 97, 98] (by decide +kernel) (by decide +kernel)
set_option maxRecDepth 20000 in
theorem gX5_worthOfRow_X2_weightOf : GoodIn wsX5_worthOfRow (wsV RX5 193 RX2 yX2_weightOf wsX2_weightOf) := goodIn_app (goodIn_of _ (by decide +kernel)) ggX5_worthOfRow_X2_weightOf
set_option maxRecDepth 20000 in
theorem ggX5_worthOfRow_X3_move : GoodIn wsX5_worthOfRow wsX3_move := goodIn_r _ [33, 12, 34, 13, 35, 14, 36, 37, 38, 39, 16, 18, 40, 17, 19, 41, 42, 43, 44, 45, 46, 47, 48, 49, 50, 51, 52, 53, 54, 10, 55, 56, 57, 58, 59, 60, 61, 62, 63, 64, 65, 66, 67, 68, 15, 69, 70, 71, 72, 73, 74, 80, 81, 82, 83, 84, 85, 86, 87, 88, 89, 90, 91, 92, 93, 94, 95, 96, 97, 98, 99, 100, 101] (by decide +kernel) (by decide +kernel)
set_option maxRecDepth 20000 in
theorem gX5_worthOfRow_X3_move : GoodIn wsX5_worthOfRow (wsV RX5 122 RX3 yX3_move wsX3_move) := goodIn_app (goodIn_of _ (by decide +kernel)) ggX5_worthOfRow_X3_move
theorem dX5_worthOfRow_0 : decode cX5_worthOfRow 0 = .ok (.aload_n 0, 1) := by decide +kernel
theorem dX5_worthOfRow_1 : decode cX5_worthOfRow 1 = .ok (.getfield 23, 3) := by decide +kernel
theorem dX5_worthOfRow_4 : decode cX5_worthOfRow 4 = .ok (.aload_n 0, 1) := by decide +kernel
theorem dX5_worthOfRow_5 : decode cX5_worthOfRow 5 = .ok (.getfield 19, 3) := by decide +kernel
theorem dX5_worthOfRow_8 : decode cX5_worthOfRow 8 = .ok (.invokevirtual 187, 3) := by decide +kernel
theorem dX5_worthOfRow_11 : decode cX5_worthOfRow 11 = .ok (.lconst 1, 1) := by decide +kernel
theorem dX5_worthOfRow_12 : decode cX5_worthOfRow 12 = .ok (.lstore_n 3, 1) := by decide +kernel
theorem dX5_worthOfRow_13 : decode cX5_worthOfRow 13 = .ok (.iconst 0, 1) := by decide +kernel
theorem dX5_worthOfRow_14 : decode cX5_worthOfRow 14 = .ok (.istore 5, 2) := by decide +kernel
theorem dX5_worthOfRow_16 : decode cX5_worthOfRow 16 = .ok (.iload 5, 2) := by decide +kernel
theorem dX5_worthOfRow_18 : decode cX5_worthOfRow 18 = .ok (.iload_n 2, 1) := by decide +kernel
theorem dX5_worthOfRow_19 : decode cX5_worthOfRow 19 = .ok (.if_icmp .ge 79, 3) := by decide +kernel
theorem dX5_worthOfRow_22 : decode cX5_worthOfRow 22 = .ok (.iload_n 1, 1) := by decide +kernel
theorem dX5_worthOfRow_23 : decode cX5_worthOfRow 23 = .ok (.iload 5, 2) := by decide +kernel
theorem dX5_worthOfRow_25 : decode cX5_worthOfRow 25 = .ok (.invokestatic 131, 3) := by decide +kernel
theorem dX5_worthOfRow_28 : decode cX5_worthOfRow 28 = .ok (.istore 6, 2) := by decide +kernel
theorem dX5_worthOfRow_30 : decode cX5_worthOfRow 30 = .ok (.aload_n 0, 1) := by decide +kernel
theorem dX5_worthOfRow_31 : decode cX5_worthOfRow 31 = .ok (.getfield 23, 3) := by decide +kernel
theorem dX5_worthOfRow_34 : decode cX5_worthOfRow 34 = .ok (.getfield 111, 3) := by decide +kernel
theorem dX5_worthOfRow_37 : decode cX5_worthOfRow 37 = .ok (.ifCond .eq 10, 3) := by decide +kernel
theorem dX5_worthOfRow_40 : decode cX5_worthOfRow 40 = .ok (.iload 6, 2) := by decide +kernel
theorem dX5_worthOfRow_42 : decode cX5_worthOfRow 42 = .ok (.ifCond .eq 5, 3) := by decide +kernel
theorem dX5_worthOfRow_45 : decode cX5_worthOfRow 45 = .ok (.lconst 0, 1) := by decide +kernel
theorem dX5_worthOfRow_46 : decode cX5_worthOfRow 46 = .ok (.lreturn, 1) := by decide +kernel
theorem dX5_worthOfRow_47 : decode cX5_worthOfRow 47 = .ok (.aload_n 0, 1) := by decide +kernel
theorem dX5_worthOfRow_48 : decode cX5_worthOfRow 48 = .ok (.getfield 23, 3) := by decide +kernel
theorem dX5_worthOfRow_51 : decode cX5_worthOfRow 51 = .ok (.getfield 111, 3) := by decide +kernel
theorem dX5_worthOfRow_54 : decode cX5_worthOfRow 54 = .ok (.ifCond .eq 12, 3) := by decide +kernel
theorem dX5_worthOfRow_57 : decode cX5_worthOfRow 57 = .ok (.lload_n 3, 1) := by decide +kernel
theorem dX5_worthOfRow_58 : decode cX5_worthOfRow 58 = .ok (.ldc2_w 191, 3) := by decide +kernel
theorem dX5_worthOfRow_61 : decode cX5_worthOfRow 61 = .ok (.lmul, 1) := by decide +kernel
theorem dX5_worthOfRow_62 : decode cX5_worthOfRow 62 = .ok (.lstore_n 3, 1) := by decide +kernel
theorem dX5_worthOfRow_63 : decode cX5_worthOfRow 63 = .ok (.goto 29, 3) := by decide +kernel
theorem dX5_worthOfRow_66 : decode cX5_worthOfRow 66 = .ok (.lload_n 3, 1) := by decide +kernel
theorem dX5_worthOfRow_67 : decode cX5_worthOfRow 67 = .ok (.aload_n 0, 1) := by decide +kernel
theorem dX5_worthOfRow_68 : decode cX5_worthOfRow 68 = .ok (.getfield 12, 3) := by decide +kernel
theorem dX5_worthOfRow_71 : decode cX5_worthOfRow 71 = .ok (.iload 6, 2) := by decide +kernel
theorem dX5_worthOfRow_73 : decode cX5_worthOfRow 73 = .ok (.invokevirtual 193, 3) := by decide +kernel
theorem dX5_worthOfRow_76 : decode cX5_worthOfRow 76 = .ok (.i2l, 1) := by decide +kernel
theorem dX5_worthOfRow_77 : decode cX5_worthOfRow 77 = .ok (.lmul, 1) := by decide +kernel
theorem dX5_worthOfRow_78 : decode cX5_worthOfRow 78 = .ok (.lstore_n 3, 1) := by decide +kernel
theorem dX5_worthOfRow_79 : decode cX5_worthOfRow 79 = .ok (.aload_n 0, 1) := by decide +kernel
theorem dX5_worthOfRow_80 : decode cX5_worthOfRow 80 = .ok (.getfield 23, 3) := by decide +kernel
theorem dX5_worthOfRow_83 : decode cX5_worthOfRow 83 = .ok (.aload_n 0, 1) := by decide +kernel
theorem dX5_worthOfRow_84 : decode cX5_worthOfRow 84 = .ok (.getfield 12, 3) := by decide +kernel
theorem dX5_worthOfRow_87 : decode cX5_worthOfRow 87 = .ok (.iload 6, 2) := by decide +kernel
theorem dX5_worthOfRow_89 : decode cX5_worthOfRow 89 = .ok (.invokevirtual 122, 3) := by decide +kernel
theorem dX5_worthOfRow_92 : decode cX5_worthOfRow 92 = .ok (.iinc 5 1, 3) := by decide +kernel
theorem dX5_worthOfRow_95 : decode cX5_worthOfRow 95 = .ok (.goto (-79), 3) := by decide +kernel
theorem dX5_worthOfRow_98 : decode cX5_worthOfRow 98 = .ok (.lload_n 3, 1) := by decide +kernel
theorem dX5_worthOfRow_99 : decode cX5_worthOfRow 99 = .ok (.aload_n 0, 1) := by decide +kernel
theorem dX5_worthOfRow_100 : decode cX5_worthOfRow 100 = .ok (.getfield 23, 3) := by decide +kernel
theorem dX5_worthOfRow_103 : decode cX5_worthOfRow 103 = .ok (.getfield 151, 3) := by decide +kernel
theorem dX5_worthOfRow_106 : decode cX5_worthOfRow 106 = .ok (.aload_n 0, 1) := by decide +kernel
theorem dX5_worthOfRow_107 : decode cX5_worthOfRow 107 = .ok (.getfield 19, 3) := by decide +kernel
theorem dX5_worthOfRow_110 : decode cX5_worthOfRow 110 = .ok (.getfield 151, 3) := by decide +kernel
theorem dX5_worthOfRow_113 : decode cX5_worthOfRow 113 = .ok (.isub, 1) := by decide +kernel
theorem dX5_worthOfRow_114 : decode cX5_worthOfRow 114 = .ok (.i2l, 1) := by decide +kernel
theorem dX5_worthOfRow_115 : decode cX5_worthOfRow 115 = .ok (.lmul, 1) := by decide +kernel
theorem dX5_worthOfRow_116 : decode cX5_worthOfRow 116 = .ok (.lreturn, 1) := by decide +kernel
theorem dX5_isUpAt_0 : decode cX5_isUpAt 0 = .ok (.iload_n 0, 1) := by decide +kernel
theorem dX5_isUpAt_1 : decode cX5_isUpAt 1 = .ok (.iload_n 1, 1) := by decide +kernel
theorem dX5_isUpAt_2 : decode cX5_isUpAt 2 = .ok (.ishr, 1) := by decide +kernel
theorem dX5_isUpAt_3 : decode cX5_isUpAt 3 = .ok (.iconst 1, 1) := by decide +kernel
theorem dX5_isUpAt_4 : decode cX5_isUpAt 4 = .ok (.iand, 1) := by decide +kernel
theorem dX5_isUpAt_5 : decode cX5_isUpAt 5 = .ok (.iconst 1, 1) := by decide +kernel
theorem dX5_isUpAt_6 : decode cX5_isUpAt 6 = .ok (.if_icmp .ne 7, 3) := by decide +kernel
theorem dX5_isUpAt_9 : decode cX5_isUpAt 9 = .ok (.iconst 1, 1) := by decide +kernel
theorem dX5_isUpAt_10 : decode cX5_isUpAt 10 = .ok (.goto 4, 3) := by decide +kernel
theorem dX5_isUpAt_13 : decode cX5_isUpAt 13 = .ok (.iconst 0, 1) := by decide +kernel
theorem dX5_isUpAt_14 : decode cX5_isUpAt 14 = .ok (.ireturn, 1) := by decide +kernel
theorem dX5_isAsset_0 : decode cX5_isAsset 0 = .ok (.iload_n 0, 1) := by decide +kernel
theorem dX5_isAsset_1 : decode cX5_isAsset 1 = .ok (.ifCond .eq 8, 3) := by decide +kernel
theorem dX5_isAsset_4 : decode cX5_isAsset 4 = .ok (.iload_n 0, 1) := by decide +kernel
theorem dX5_isAsset_5 : decode cX5_isAsset 5 = .ok (.iconst 1, 1) := by decide +kernel
theorem dX5_isAsset_6 : decode cX5_isAsset 6 = .ok (.if_icmp .ne 7, 3) := by decide +kernel
theorem dX5_isAsset_9 : decode cX5_isAsset 9 = .ok (.iconst 1, 1) := by decide +kernel
theorem dX5_isAsset_10 : decode cX5_isAsset 10 = .ok (.goto 4, 3) := by decide +kernel
theorem dX5_isAsset_13 : decode cX5_isAsset 13 = .ok (.iconst 0, 1) := by decide +kernel
theorem dX5_isAsset_14 : decode cX5_isAsset 14 = .ok (.ireturn, 1) := by decide +kernel
theorem dX5_isWithin_0 : decode cX5_isWithin 0 = .ok (.iload_n 0, 1) := by decide +kernel
theorem dX5_isWithin_1 : decode cX5_isWithin 1 = .ok (.iload_n 1, 1) := by decide +kernel
theorem dX5_isWithin_2 : decode cX5_isWithin 2 = .ok (.if_icmp .lt 12, 3) := by decide +kernel
theorem dX5_isWithin_5 : decode cX5_isWithin 5 = .ok (.iload_n 0, 1) := by decide +kernel
theorem dX5_isWithin_6 : decode cX5_isWithin 6 = .ok (.iload_n 2, 1) := by decide +kernel
theorem dX5_isWithin_7 : decode cX5_isWithin 7 = .ok (.if_icmp .gt 7, 3) := by decide +kernel
theorem dX5_isWithin_10 : decode cX5_isWithin 10 = .ok (.iconst 1, 1) := by decide +kernel
theorem dX5_isWithin_11 : decode cX5_isWithin 11 = .ok (.goto 4, 3) := by decide +kernel
theorem dX5_isWithin_14 : decode cX5_isWithin 14 = .ok (.iconst 0, 1) := by decide +kernel
theorem dX5_isWithin_15 : decode cX5_isWithin 15 = .ok (.ireturn, 1) := by decide +kernel
theorem dX5_wholeWeightOf_0 : decode cX5_wholeWeightOf 0 = .ok (.lconst 1, 1) := by decide +kernel
theorem dX5_wholeWeightOf_1 : decode cX5_wholeWeightOf 1 = .ok (.lstore_n 1, 1) := by decide +kernel
theorem dX5_wholeWeightOf_2 : decode cX5_wholeWeightOf 2 = .ok (.iconst 0, 1) := by decide +kernel
theorem dX5_wholeWeightOf_3 : decode cX5_wholeWeightOf 3 = .ok (.istore_n 3, 1) := by decide +kernel
theorem dX5_wholeWeightOf_4 : decode cX5_wholeWeightOf 4 = .ok (.iload_n 3, 1) := by decide +kernel
theorem dX5_wholeWeightOf_5 : decode cX5_wholeWeightOf 5 = .ok (.iload_n 0, 1) := by decide +kernel
theorem dX5_wholeWeightOf_6 : decode cX5_wholeWeightOf 6 = .ok (.if_icmp .ge 21, 3) := by decide +kernel
theorem dX5_wholeWeightOf_9 : decode cX5_wholeWeightOf 9 = .ok (.iload_n 3, 1) := by decide +kernel
theorem dX5_wholeWeightOf_10 : decode cX5_wholeWeightOf 10 = .ok (.bipush 8, 2) := by decide +kernel
theorem dX5_wholeWeightOf_12 : decode cX5_wholeWeightOf 12 = .ok (.if_icmp .ge 15, 3) := by decide +kernel
theorem dX5_wholeWeightOf_15 : decode cX5_wholeWeightOf 15 = .ok (.lload_n 1, 1) := by decide +kernel
theorem dX5_wholeWeightOf_16 : decode cX5_wholeWeightOf 16 = .ok (.ldc2_w 191, 3) := by decide +kernel
theorem dX5_wholeWeightOf_19 : decode cX5_wholeWeightOf 19 = .ok (.lmul, 1) := by decide +kernel
theorem dX5_wholeWeightOf_20 : decode cX5_wholeWeightOf 20 = .ok (.lstore_n 1, 1) := by decide +kernel
theorem dX5_wholeWeightOf_21 : decode cX5_wholeWeightOf 21 = .ok (.iinc 3 1, 3) := by decide +kernel
theorem dX5_wholeWeightOf_24 : decode cX5_wholeWeightOf 24 = .ok (.goto (-20), 3) := by decide +kernel
theorem dX5_wholeWeightOf_27 : decode cX5_wholeWeightOf 27 = .ok (.lload_n 1, 1) := by decide +kernel
theorem dX5_wholeWeightOf_28 : decode cX5_wholeWeightOf 28 = .ok (.lreturn, 1) := by decide +kernel
theorem dX6_init_0 : decode cX6_init 0 = .ok (.aload_n 0, 1) := by decide +kernel
theorem dX6_init_1 : decode cX6_init 1 = .ok (.invokespecial 1, 3) := by decide +kernel
theorem dX6_init_4 : decode cX6_init 4 = .ok (.aload_n 0, 1) := by decide +kernel
theorem dX6_init_5 : decode cX6_init 5 = .ok (.iconst 2, 1) := by decide +kernel
theorem dX6_init_6 : decode cX6_init 6 = .ok (.newarray .int, 2) := by decide +kernel
theorem dX6_init_8 : decode cX6_init 8 = .ok (.putfield 7, 3) := by decide +kernel
theorem dX6_init_11 : decode cX6_init 11 = .ok (.aload_n 0, 1) := by decide +kernel
theorem dX6_init_12 : decode cX6_init 12 = .ok (.iconst 2, 1) := by decide +kernel
theorem dX6_init_13 : decode cX6_init 13 = .ok (.newarray .int, 2) := by decide +kernel
theorem dX6_init_15 : decode cX6_init 15 = .ok (.putfield 13, 3) := by decide +kernel
theorem dX6_init_18 : decode cX6_init 18 = .ok (.aload_n 0, 1) := by decide +kernel
theorem dX6_init_19 : decode cX6_init 19 = .ok (.iconst 2, 1) := by decide +kernel
theorem dX6_init_20 : decode cX6_init 20 = .ok (.newarray .int, 2) := by decide +kernel
theorem dX6_init_22 : decode cX6_init 22 = .ok (.putfield 16, 3) := by decide +kernel
theorem dX6_init_25 : decode cX6_init 25 = .ok (.aload_n 0, 1) := by decide +kernel
theorem dX6_init_26 : decode cX6_init 26 = .ok (.iconst 5, 1) := by decide +kernel
theorem dX6_init_27 : decode cX6_init 27 = .ok (.putfield 19, 3) := by decide +kernel
theorem dX6_init_30 : decode cX6_init 30 = .ok (.aload_n 0, 1) := by decide +kernel
theorem dX6_init_31 : decode cX6_init 31 = .ok (.iconst 4, 1) := by decide +kernel
theorem dX6_init_32 : decode cX6_init 32 = .ok (.putfield 23, 3) := by decide +kernel
theorem dX6_init_35 : decode cX6_init 35 = .ok (.aload_n 0, 1) := by decide +kernel
theorem dX6_init_36 : decode cX6_init 36 = .ok (.bipush 60, 2) := by decide +kernel
theorem dX6_init_38 : decode cX6_init 38 = .ok (.putfield 26, 3) := by decide +kernel
theorem dX6_init_41 : decode cX6_init 41 = .ok (.aload_n 0, 1) := by decide +kernel
theorem dX6_init_42 : decode cX6_init 42 = .ok (.bipush 80, 2) := by decide +kernel
theorem dX6_init_44 : decode cX6_init 44 = .ok (.putfield 29, 3) := by decide +kernel
theorem dX6_init_47 : decode cX6_init 47 = .ok (.aload_n 0, 1) := by decide +kernel
theorem dX6_init_48 : decode cX6_init 48 = .ok (.bipush 100, 2) := by decide +kernel
theorem dX6_init_50 : decode cX6_init 50 = .ok (.putfield 32, 3) := by decide +kernel
theorem dX6_init_53 : decode cX6_init 53 = .ok (.aload_n 0, 1) := by decide +kernel
theorem dX6_init_54 : decode cX6_init 54 = .ok (.bipush 50, 2) := by decide +kernel
theorem dX6_init_56 : decode cX6_init 56 = .ok (.putfield 35, 3) := by decide +kernel
theorem dX6_init_59 : decode cX6_init 59 = .ok (.aload_n 0, 1) := by decide +kernel
theorem dX6_init_60 : decode cX6_init 60 = .ok (.bipush 8, 2) := by decide +kernel
theorem dX6_init_62 : decode cX6_init 62 = .ok (.newarray .boolean, 2) := by decide +kernel
theorem dX6_init_64 : decode cX6_init 64 = .ok (.putfield 38, 3) := by decide +kernel
theorem dX6_init_67 : decode cX6_init 67 = .ok (.aload_n 0, 1) := by decide +kernel
theorem dX6_init_68 : decode cX6_init 68 = .ok (.iconst 2, 1) := by decide +kernel
theorem dX6_init_69 : decode cX6_init 69 = .ok (.newarray .int, 2) := by decide +kernel
theorem dX6_init_71 : decode cX6_init 71 = .ok (.putfield 42, 3) := by decide +kernel
theorem dX6_init_74 : decode cX6_init 74 = .ok (.aload_n 0, 1) := by decide +kernel
theorem dX6_init_75 : decode cX6_init 75 = .ok (.sipush 256, 3) := by decide +kernel
theorem dX6_init_78 : decode cX6_init 78 = .ok (.newarray .long, 2) := by decide +kernel
theorem dX6_init_80 : decode cX6_init 80 = .ok (.putfield 45, 3) := by decide +kernel
theorem dX6_init_83 : decode cX6_init 83 = .ok (.iconst 0, 1) := by decide +kernel
theorem dX6_init_84 : decode cX6_init 84 = .ok (.istore_n 1, 1) := by decide +kernel
theorem dX6_init_85 : decode cX6_init 85 = .ok (.iload_n 1, 1) := by decide +kernel
theorem dX6_init_86 : decode cX6_init 86 = .ok (.iconst 2, 1) := by decide +kernel
theorem dX6_init_87 : decode cX6_init 87 = .ok (.if_icmp .ge 34, 3) := by decide +kernel
theorem dX6_init_90 : decode cX6_init 90 = .ok (.aload_n 0, 1) := by decide +kernel
theorem dX6_init_91 : decode cX6_init 91 = .ok (.getfield 7, 3) := by decide +kernel
theorem dX6_init_94 : decode cX6_init 94 = .ok (.iload_n 1, 1) := by decide +kernel
theorem dX6_init_95 : decode cX6_init 95 = .ok (.sipush 500, 3) := by decide +kernel
theorem dX6_init_98 : decode cX6_init 98 = .ok (.iastore, 1) := by decide +kernel
theorem dX6_init_99 : decode cX6_init 99 = .ok (.aload_n 0, 1) := by decide +kernel
theorem dX6_init_100 : decode cX6_init 100 = .ok (.getfield 13, 3) := by decide +kernel
theorem dX6_init_103 : decode cX6_init 103 = .ok (.iload_n 1, 1) := by decide +kernel
theorem dX6_init_104 : decode cX6_init 104 = .ok (.bipush 50, 2) := by decide +kernel
theorem dX6_init_106 : decode cX6_init 106 = .ok (.iastore, 1) := by decide +kernel
theorem dX6_init_107 : decode cX6_init 107 = .ok (.aload_n 0, 1) := by decide +kernel
theorem dX6_init_108 : decode cX6_init 108 = .ok (.getfield 16, 3) := by decide +kernel
theorem dX6_init_111 : decode cX6_init 111 = .ok (.iload_n 1, 1) := by decide +kernel
theorem dX6_init_112 : decode cX6_init 112 = .ok (.bipush 40, 2) := by decide +kernel
theorem dX6_init_114 : decode cX6_init 114 = .ok (.iastore, 1) := by decide +kernel
theorem dX6_init_115 : decode cX6_init 115 = .ok (.iinc 1 1, 3) := by decide +kernel
theorem dX6_init_118 : decode cX6_init 118 = .ok (.goto (-33), 3) := by decide +kernel
theorem dX6_init_121 : decode cX6_init 121 = .ok (.return_, 1) := by decide +kernel
theorem dX6_thrown_0 : decode cX6_thrown 0 = .ok (.aload_n 0, 1) := by decide +kernel
theorem dX6_thrown_1 : decode cX6_thrown 1 = .ok (.getfield 49, 3) := by decide +kernel
theorem dX6_thrown_4 : decode cX6_thrown 4 = .ok (.ireturn, 1) := by decide +kernel
theorem dX6_goes_0 : decode cX6_goes 0 = .ok (.aload_n 0, 1) := by decide +kernel
theorem dX6_goes_1 : decode cX6_goes 1 = .ok (.iload_n 1, 1) := by decide +kernel
theorem dX6_goes_2 : decode cX6_goes 2 = .ok (.putfield 49, 3) := by decide +kernel
theorem dX6_goes_5 : decode cX6_goes 5 = .ok (.iload_n 1, 1) := by decide +kernel
theorem dX6_goes_6 : decode cX6_goes 6 = .ok (.ifCond .ne 7, 3) := by decide +kernel
theorem dX6_goes_9 : decode cX6_goes 9 = .ok (.iconst 1, 1) := by decide +kernel
theorem dX6_goes_10 : decode cX6_goes 10 = .ok (.goto 4, 3) := by decide +kernel
theorem dX6_goes_13 : decode cX6_goes 13 = .ok (.iconst 0, 1) := by decide +kernel
theorem dX6_goes_14 : decode cX6_goes 14 = .ok (.ireturn, 1) := by decide +kernel
theorem dX6_isIn_0 : decode cX6_isIn 0 = .ok (.iload_n 0, 1) := by decide +kernel
theorem dX6_isIn_1 : decode cX6_isIn 1 = .ok (.iload_n 1, 1) := by decide +kernel
theorem dX6_isIn_2 : decode cX6_isIn 2 = .ok (.if_icmp .lt 12, 3) := by decide +kernel
theorem dX6_isIn_5 : decode cX6_isIn 5 = .ok (.iload_n 0, 1) := by decide +kernel
theorem dX6_isIn_6 : decode cX6_isIn 6 = .ok (.iload_n 2, 1) := by decide +kernel
theorem dX6_isIn_7 : decode cX6_isIn 7 = .ok (.if_icmp .gt 7, 3) := by decide +kernel
theorem dX6_isIn_10 : decode cX6_isIn 10 = .ok (.iconst 1, 1) := by decide +kernel
theorem dX6_isIn_11 : decode cX6_isIn 11 = .ok (.goto 4, 3) := by decide +kernel
theorem dX6_isIn_14 : decode cX6_isIn 14 = .ok (.iconst 0, 1) := by decide +kernel
theorem dX6_isIn_15 : decode cX6_isIn 15 = .ok (.ireturn, 1) := by decide +kernel
set_option maxRecDepth 20000 in
theorem ggX6_setAsset_X6_isIn : GoodIn wsX6_setAsset wsX6_isIn := goodIn_r _ [8] (by decide +kernel) (by decide +kernel)
set_option maxRecDepth 20000 in
theorem gX6_setAsset_X6_isIn : GoodIn wsX6_setAsset (va_wsS RX6 52 yX6_isIn wsX6_isIn) := goodIn_app (goodIn_of _ (by decide +kernel)) ggX6_setAsset_X6_isIn
set_option maxRecDepth 20000 in
theorem ggX6_setAsset_X6_goes : GoodIn wsX6_setAsset wsX6_goes := goodIn_r _ [12, 13, 14, 15, 16, 17, 18, 19, 20, 21, 22, 23, 24, 25, 26, 27, 28, 29, 30, 31, 32, 33, 34, 35] (by decide +kernel) (by decide +kernel)
set_option maxRecDepth 20000 in
theorem gX6_setAsset_X6_goes : GoodIn wsX6_setAsset (wsV RX6 56 RX6 yX6_goes wsX6_goes) := goodIn_app (goodIn_of _ (by decide +kernel)) ggX6_setAsset_X6_goes
theorem dX6_setAsset_0 : decode cX6_setAsset 0 = .ok (.iload_n 2, 1) := by decide +kernel
theorem dX6_setAsset_1 : decode cX6_setAsset 1 = .ok (.bipush 100, 2) := by decide +kernel
theorem dX6_setAsset_3 : decode cX6_setAsset 3 = .ok (.sipush 1000, 3) := by decide +kernel
theorem dX6_setAsset_6 : decode cX6_setAsset 6 = .ok (.invokestatic 52, 3) := by decide +kernel
theorem dX6_setAsset_9 : decode cX6_setAsset 9 = .ok (.ifCond .eq 30, 3) := by decide +kernel
theorem dX6_setAsset_12 : decode cX6_setAsset 12 = .ok (.iload_n 3, 1) := by decide +kernel
theorem dX6_setAsset_13 : decode cX6_setAsset 13 = .ok (.iconst 0, 1) := by decide +kernel
theorem dX6_setAsset_14 : decode cX6_setAsset 14 = .ok (.sipush 200, 3) := by decide +kernel
theorem dX6_setAsset_17 : decode cX6_setAsset 17 = .ok (.invokestatic 52, 3) := by decide +kernel
theorem dX6_setAsset_20 : decode cX6_setAsset 20 = .ok (.ifCond .eq 19, 3) := by decide +kernel
theorem dX6_setAsset_23 : decode cX6_setAsset 23 = .ok (.iload 4, 2) := by decide +kernel
theorem dX6_setAsset_25 : decode cX6_setAsset 25 = .ok (.iconst 0, 1) := by decide +kernel
theorem dX6_setAsset_26 : decode cX6_setAsset 26 = .ok (.sipush 200, 3) := by decide +kernel
theorem dX6_setAsset_29 : decode cX6_setAsset 29 = .ok (.invokestatic 52, 3) := by decide +kernel
theorem dX6_setAsset_32 : decode cX6_setAsset 32 = .ok (.ifCond .eq 7, 3) := by decide +kernel
theorem dX6_setAsset_35 : decode cX6_setAsset 35 = .ok (.iconst 1, 1) := by decide +kernel
theorem dX6_setAsset_36 : decode cX6_setAsset 36 = .ok (.goto 4, 3) := by decide +kernel
theorem dX6_setAsset_39 : decode cX6_setAsset 39 = .ok (.iconst 0, 1) := by decide +kernel
theorem dX6_setAsset_40 : decode cX6_setAsset 40 = .ok (.istore 5, 2) := by decide +kernel
theorem dX6_setAsset_42 : decode cX6_setAsset 42 = .ok (.aload_n 0, 1) := by decide +kernel
theorem dX6_setAsset_43 : decode cX6_setAsset 43 = .ok (.iload_n 1, 1) := by decide +kernel
theorem dX6_setAsset_44 : decode cX6_setAsset 44 = .ok (.iconst 0, 1) := by decide +kernel
theorem dX6_setAsset_45 : decode cX6_setAsset 45 = .ok (.iconst 1, 1) := by decide +kernel
theorem dX6_setAsset_46 : decode cX6_setAsset 46 = .ok (.invokestatic 52, 3) := by decide +kernel
theorem dX6_setAsset_49 : decode cX6_setAsset 49 = .ok (.ifCond .ne 7, 3) := by decide +kernel
theorem dX6_setAsset_52 : decode cX6_setAsset 52 = .ok (.iconst 1, 1) := by decide +kernel
theorem dX6_setAsset_53 : decode cX6_setAsset 53 = .ok (.goto 13, 3) := by decide +kernel
theorem dX6_setAsset_56 : decode cX6_setAsset 56 = .ok (.iload 5, 2) := by decide +kernel
theorem dX6_setAsset_58 : decode cX6_setAsset 58 = .ok (.ifCond .eq 7, 3) := by decide +kernel
theorem dX6_setAsset_61 : decode cX6_setAsset 61 = .ok (.iconst 0, 1) := by decide +kernel
theorem dX6_setAsset_62 : decode cX6_setAsset 62 = .ok (.goto 4, 3) := by decide +kernel
theorem dX6_setAsset_65 : decode cX6_setAsset 65 = .ok (.iconst 2, 1) := by decide +kernel
theorem dX6_setAsset_66 : decode cX6_setAsset 66 = .ok (.invokevirtual 56, 3) := by decide +kernel
theorem dX6_setAsset_69 : decode cX6_setAsset 69 = .ok (.ifCond .eq 30, 3) := by decide +kernel
theorem dX6_setAsset_72 : decode cX6_setAsset 72 = .ok (.aload_n 0, 1) := by decide +kernel
theorem dX6_setAsset_73 : decode cX6_setAsset 73 = .ok (.getfield 7, 3) := by decide +kernel
theorem dX6_setAsset_76 : decode cX6_setAsset 76 = .ok (.iload_n 1, 1) := by decide +kernel
theorem dX6_setAsset_77 : decode cX6_setAsset 77 = .ok (.iload_n 2, 1) := by decide +kernel
theorem dX6_setAsset_78 : decode cX6_setAsset 78 = .ok (.iastore, 1) := by decide +kernel
theorem dX6_setAsset_79 : decode cX6_setAsset 79 = .ok (.aload_n 0, 1) := by decide +kernel
theorem dX6_setAsset_80 : decode cX6_setAsset 80 = .ok (.getfield 13, 3) := by decide +kernel
theorem dX6_setAsset_83 : decode cX6_setAsset 83 = .ok (.iload_n 1, 1) := by decide +kernel
theorem dX6_setAsset_84 : decode cX6_setAsset 84 = .ok (.iload_n 3, 1) := by decide +kernel
theorem dX6_setAsset_85 : decode cX6_setAsset 85 = .ok (.iastore, 1) := by decide +kernel
theorem dX6_setAsset_86 : decode cX6_setAsset 86 = .ok (.aload_n 0, 1) := by decide +kernel
theorem dX6_setAsset_87 : decode cX6_setAsset 87 = .ok (.getfield 16, 3) := by decide +kernel
theorem dX6_setAsset_90 : decode cX6_setAsset 90 = .ok (.iload_n 1, 1) := by decide +kernel
theorem dX6_setAsset_91 : decode cX6_setAsset 91 = .ok (.iload 4, 2) := by decide +kernel
theorem dX6_setAsset_93 : decode cX6_setAsset 93 = .ok (.iastore, 1) := by decide +kernel
theorem dX6_setAsset_94 : decode cX6_setAsset 94 = .ok (.aload_n 0, 1) := by decide +kernel
theorem dX6_setAsset_95 : decode cX6_setAsset 95 = .ok (.iconst 0, 1) := by decide +kernel
theorem dX6_setAsset_96 : decode cX6_setAsset 96 = .ok (.putfield 60, 3) := by decide +kernel
theorem dX6_setAsset_99 : decode cX6_setAsset 99 = .ok (.return_, 1) := by decide +kernel
set_option maxRecDepth 20000 in
theorem ggX6_setMoves_X6_isIn : GoodIn wsX6_setMoves wsX6_isIn := goodIn_r _ [7] (by decide +kernel) (by decide +kernel)
set_option maxRecDepth 20000 in
theorem gX6_setMoves_X6_isIn : GoodIn wsX6_setMoves (va_wsS RX6 52 yX6_isIn wsX6_isIn) := goodIn_app (goodIn_of _ (by decide +kernel)) ggX6_setMoves_X6_isIn
set_option maxRecDepth 20000 in
theorem ggX6_setMoves_X6_goes : GoodIn wsX6_setMoves wsX6_goes := goodIn_r _ [11, 12, 13, 14, 15, 16, 17, 18, 19, 20, 21, 22, 23, 24, 25, 26, 27, 28, 29, 30, 31, 32, 33, 34] (by decide +kernel) (by decide +kernel)
set_option maxRecDepth 20000 in
theorem gX6_setMoves_X6_goes : GoodIn wsX6_setMoves (wsV RX6 56 RX6 yX6_goes wsX6_goes) := goodIn_app (goodIn_of _ (by decide +kernel)) ggX6_setMoves_X6_goes
theorem dX6_setMoves_0 : decode cX6_setMoves 0 = .ok (.aload_n 0, 1) := by decide +kernel
theorem dX6_setMoves_1 : decode cX6_setMoves 1 = .ok (.iload_n 2, 1) := by decide +kernel
theorem dX6_setMoves_2 : decode cX6_setMoves 2 = .ok (.iconst 1, 1) := by decide +kernel
theorem dX6_setMoves_3 : decode cX6_setMoves 3 = .ok (.bipush 9, 2) := by decide +kernel
theorem dX6_setMoves_5 : decode cX6_setMoves 5 = .ok (.invokestatic 52, 3) := by decide +kernel
theorem dX6_setMoves_8 : decode cX6_setMoves 8 = .ok (.ifCond .eq 7, 3) := by decide +kernel
theorem dX6_setMoves_11 : decode cX6_setMoves 11 = .ok (.iconst 0, 1) := by decide +kernel
theorem dX6_setMoves_12 : decode cX6_setMoves 12 = .ok (.goto 4, 3) := by decide +kernel
theorem dX6_setMoves_15 : decode cX6_setMoves 15 = .ok (.iconst 1, 1) := by decide +kernel
theorem dX6_setMoves_16 : decode cX6_setMoves 16 = .ok (.invokevirtual 56, 3) := by decide +kernel
theorem dX6_setMoves_19 : decode cX6_setMoves 19 = .ok (.ifCond .eq 18, 3) := by decide +kernel
theorem dX6_setMoves_22 : decode cX6_setMoves 22 = .ok (.aload_n 0, 1) := by decide +kernel
theorem dX6_setMoves_23 : decode cX6_setMoves 23 = .ok (.iload_n 1, 1) := by decide +kernel
theorem dX6_setMoves_24 : decode cX6_setMoves 24 = .ok (.putfield 63, 3) := by decide +kernel
theorem dX6_setMoves_27 : decode cX6_setMoves 27 = .ok (.aload_n 0, 1) := by decide +kernel
theorem dX6_setMoves_28 : decode cX6_setMoves 28 = .ok (.iload_n 2, 1) := by decide +kernel
theorem dX6_setMoves_29 : decode cX6_setMoves 29 = .ok (.putfield 19, 3) := by decide +kernel
theorem dX6_setMoves_32 : decode cX6_setMoves 32 = .ok (.aload_n 0, 1) := by decide +kernel
theorem dX6_setMoves_33 : decode cX6_setMoves 33 = .ok (.iconst 0, 1) := by decide +kernel
theorem dX6_setMoves_34 : decode cX6_setMoves 34 = .ok (.putfield 60, 3) := by decide +kernel
theorem dX6_setMoves_37 : decode cX6_setMoves 37 = .ok (.return_, 1) := by decide +kernel
set_option maxRecDepth 20000 in
theorem ggX6_setNote_X6_isIn : GoodIn wsX6_setNote wsX6_isIn := goodIn_r _ [10] (by decide +kernel) (by decide +kernel)
set_option maxRecDepth 20000 in
theorem gX6_setNote_X6_isIn : GoodIn wsX6_setNote (va_wsS RX6 52 yX6_isIn wsX6_isIn) := goodIn_app (goodIn_of _ (by decide +kernel)) ggX6_setNote_X6_isIn
set_option maxRecDepth 20000 in
theorem ggX6_setNote_X6_goes : GoodIn wsX6_setNote wsX6_goes := goodIn_r _ [14, 15, 16, 17, 18, 19, 20, 21, 22, 23, 24, 25, 26, 27, 28, 29, 30, 31, 32, 33, 34, 35, 36, 37] (by decide +kernel) (by decide +kernel)
set_option maxRecDepth 20000 in
theorem gX6_setNote_X6_goes : GoodIn wsX6_setNote (wsV RX6 56 RX6 yX6_goes wsX6_goes) := goodIn_app (goodIn_of _ (by decide +kernel)) ggX6_setNote_X6_goes
theorem dX6_setNote_0 : decode cX6_setNote 0 = .ok (.iload_n 1, 1) := by decide +kernel
theorem dX6_setNote_1 : decode cX6_setNote 1 = .ok (.iconst 1, 1) := by decide +kernel
theorem dX6_setNote_2 : decode cX6_setNote 2 = .ok (.bipush 8, 2) := by decide +kernel
theorem dX6_setNote_4 : decode cX6_setNote 4 = .ok (.invokestatic 52, 3) := by decide +kernel
theorem dX6_setNote_7 : decode cX6_setNote 7 = .ok (.ifCond .eq 52, 3) := by decide +kernel
theorem dX6_setNote_10 : decode cX6_setNote 10 = .ok (.iload_n 2, 1) := by decide +kernel
theorem dX6_setNote_11 : decode cX6_setNote 11 = .ok (.iconst 0, 1) := by decide +kernel
theorem dX6_setNote_12 : decode cX6_setNote 12 = .ok (.bipush 100, 2) := by decide +kernel
theorem dX6_setNote_14 : decode cX6_setNote 14 = .ok (.invokestatic 52, 3) := by decide +kernel
theorem dX6_setNote_17 : decode cX6_setNote 17 = .ok (.ifCond .eq 42, 3) := by decide +kernel
theorem dX6_setNote_20 : decode cX6_setNote 20 = .ok (.iload_n 3, 1) := by decide +kernel
theorem dX6_setNote_21 : decode cX6_setNote 21 = .ok (.iconst 0, 1) := by decide +kernel
theorem dX6_setNote_22 : decode cX6_setNote 22 = .ok (.sipush 150, 3) := by decide +kernel
theorem dX6_setNote_25 : decode cX6_setNote 25 = .ok (.invokestatic 52, 3) := by decide +kernel
theorem dX6_setNote_28 : decode cX6_setNote 28 = .ok (.ifCond .eq 31, 3) := by decide +kernel
theorem dX6_setNote_31 : decode cX6_setNote 31 = .ok (.iload 4, 2) := by decide +kernel
theorem dX6_setNote_33 : decode cX6_setNote 33 = .ok (.iconst 0, 1) := by decide +kernel
theorem dX6_setNote_34 : decode cX6_setNote 34 = .ok (.sipush 200, 3) := by decide +kernel
theorem dX6_setNote_37 : decode cX6_setNote 37 = .ok (.invokestatic 52, 3) := by decide +kernel
theorem dX6_setNote_40 : decode cX6_setNote 40 = .ok (.ifCond .eq 19, 3) := by decide +kernel
theorem dX6_setNote_43 : decode cX6_setNote 43 = .ok (.iload 5, 2) := by decide +kernel
theorem dX6_setNote_45 : decode cX6_setNote 45 = .ok (.iconst 0, 1) := by decide +kernel
theorem dX6_setNote_46 : decode cX6_setNote 46 = .ok (.sipush 500, 3) := by decide +kernel
theorem dX6_setNote_49 : decode cX6_setNote 49 = .ok (.invokestatic 52, 3) := by decide +kernel
theorem dX6_setNote_52 : decode cX6_setNote 52 = .ok (.ifCond .eq 7, 3) := by decide +kernel
theorem dX6_setNote_55 : decode cX6_setNote 55 = .ok (.iconst 1, 1) := by decide +kernel
theorem dX6_setNote_56 : decode cX6_setNote 56 = .ok (.goto 4, 3) := by decide +kernel
theorem dX6_setNote_59 : decode cX6_setNote 59 = .ok (.iconst 0, 1) := by decide +kernel
theorem dX6_setNote_60 : decode cX6_setNote 60 = .ok (.istore 6, 2) := by decide +kernel
theorem dX6_setNote_62 : decode cX6_setNote 62 = .ok (.aload_n 0, 1) := by decide +kernel
theorem dX6_setNote_63 : decode cX6_setNote 63 = .ok (.iload 6, 2) := by decide +kernel
theorem dX6_setNote_65 : decode cX6_setNote 65 = .ok (.ifCond .eq 7, 3) := by decide +kernel
theorem dX6_setNote_68 : decode cX6_setNote 68 = .ok (.iconst 0, 1) := by decide +kernel
theorem dX6_setNote_69 : decode cX6_setNote 69 = .ok (.goto 4, 3) := by decide +kernel
theorem dX6_setNote_72 : decode cX6_setNote 72 = .ok (.iconst 1, 1) := by decide +kernel
theorem dX6_setNote_73 : decode cX6_setNote 73 = .ok (.invokevirtual 56, 3) := by decide +kernel
theorem dX6_setNote_76 : decode cX6_setNote 76 = .ok (.ifCond .eq 35, 3) := by decide +kernel
theorem dX6_setNote_79 : decode cX6_setNote 79 = .ok (.aload_n 0, 1) := by decide +kernel
theorem dX6_setNote_80 : decode cX6_setNote 80 = .ok (.iload_n 1, 1) := by decide +kernel
theorem dX6_setNote_81 : decode cX6_setNote 81 = .ok (.putfield 23, 3) := by decide +kernel
theorem dX6_setNote_84 : decode cX6_setNote 84 = .ok (.aload_n 0, 1) := by decide +kernel
theorem dX6_setNote_85 : decode cX6_setNote 85 = .ok (.iload_n 2, 1) := by decide +kernel
theorem dX6_setNote_86 : decode cX6_setNote 86 = .ok (.putfield 26, 3) := by decide +kernel
theorem dX6_setNote_89 : decode cX6_setNote 89 = .ok (.aload_n 0, 1) := by decide +kernel
theorem dX6_setNote_90 : decode cX6_setNote 90 = .ok (.iload_n 3, 1) := by decide +kernel
theorem dX6_setNote_91 : decode cX6_setNote 91 = .ok (.putfield 29, 3) := by decide +kernel
theorem dX6_setNote_94 : decode cX6_setNote 94 = .ok (.aload_n 0, 1) := by decide +kernel
theorem dX6_setNote_95 : decode cX6_setNote 95 = .ok (.iload 4, 2) := by decide +kernel
theorem dX6_setNote_97 : decode cX6_setNote 97 = .ok (.putfield 32, 3) := by decide +kernel
theorem dX6_setNote_100 : decode cX6_setNote 100 = .ok (.aload_n 0, 1) := by decide +kernel
theorem dX6_setNote_101 : decode cX6_setNote 101 = .ok (.iload 5, 2) := by decide +kernel
theorem dX6_setNote_103 : decode cX6_setNote 103 = .ok (.putfield 35, 3) := by decide +kernel
theorem dX6_setNote_106 : decode cX6_setNote 106 = .ok (.aload_n 0, 1) := by decide +kernel
theorem dX6_setNote_107 : decode cX6_setNote 107 = .ok (.iconst 0, 1) := by decide +kernel
theorem dX6_setNote_108 : decode cX6_setNote 108 = .ok (.putfield 60, 3) := by decide +kernel
theorem dX6_setNote_111 : decode cX6_setNote 111 = .ok (.return_, 1) := by decide +kernel
theorem dX6_setKind_0 : decode cX6_setKind 0 = .ok (.aload_n 0, 1) := by decide +kernel
theorem dX6_setKind_1 : decode cX6_setKind 1 = .ok (.iconst 0, 1) := by decide +kernel
theorem dX6_setKind_2 : decode cX6_setKind 2 = .ok (.putfield 49, 3) := by decide +kernel
theorem dX6_setKind_5 : decode cX6_setKind 5 = .ok (.aload_n 0, 1) := by decide +kernel
theorem dX6_setKind_6 : decode cX6_setKind 6 = .ok (.iload_n 1, 1) := by decide +kernel
theorem dX6_setKind_7 : decode cX6_setKind 7 = .ok (.putfield 67, 3) := by decide +kernel
theorem dX6_setKind_10 : decode cX6_setKind 10 = .ok (.aload_n 0, 1) := by decide +kernel
theorem dX6_setKind_11 : decode cX6_setKind 11 = .ok (.iload_n 2, 1) := by decide +kernel
theorem dX6_setKind_12 : decode cX6_setKind 12 = .ok (.putfield 70, 3) := by decide +kernel
theorem dX6_setKind_15 : decode cX6_setKind 15 = .ok (.aload_n 0, 1) := by decide +kernel
theorem dX6_setKind_16 : decode cX6_setKind 16 = .ok (.iconst 0, 1) := by decide +kernel
theorem dX6_setKind_17 : decode cX6_setKind 17 = .ok (.putfield 60, 3) := by decide +kernel
theorem dX6_setKind_20 : decode cX6_setKind 20 = .ok (.return_, 1) := by decide +kernel
theorem dX6_level_0 : decode cX6_level 0 = .ok (.aload_n 0, 1) := by decide +kernel
theorem dX6_level_1 : decode cX6_level 1 = .ok (.getfield 42, 3) := by decide +kernel
theorem dX6_level_4 : decode cX6_level 4 = .ok (.iload_n 1, 1) := by decide +kernel
theorem dX6_level_5 : decode cX6_level 5 = .ok (.iaload, 1) := by decide +kernel
theorem dX6_level_6 : decode cX6_level 6 = .ok (.bipush 100, 2) := by decide +kernel
theorem dX6_level_8 : decode cX6_level 8 = .ok (.imul, 1) := by decide +kernel
theorem dX6_level_9 : decode cX6_level 9 = .ok (.aload_n 0, 1) := by decide +kernel
theorem dX6_level_10 : decode cX6_level 10 = .ok (.getfield 7, 3) := by decide +kernel
theorem dX6_level_13 : decode cX6_level 13 = .ok (.iload_n 1, 1) := by decide +kernel
theorem dX6_level_14 : decode cX6_level 14 = .ok (.iaload, 1) := by decide +kernel
theorem dX6_level_15 : decode cX6_level 15 = .ok (.idiv, 1) := by decide +kernel
theorem dX6_level_16 : decode cX6_level 16 = .ok (.ireturn, 1) := by decide +kernel
set_option maxRecDepth 20000 in
theorem ggX6_worstNow_X6_level : GoodIn wsX6_worstNow wsX6_level := goodIn_r _ [5, 6, 7, 8, 9, 10, 11, 12, 13, 14, 15, 16, 17, 18, 19, 20, 21, 22, 23, 24, 25, 26, 27, 28, 29] (by decide +kernel) (by decide +kernel)
set_option maxRecDepth 20000 in
theorem gX6_worstNow_X6_level : GoodIn wsX6_worstNow (wsV RX6 73 RX6 yX6_level wsX6_level) := goodIn_app (goodIn_of _ (by decide +kernel)) ggX6_worstNow_X6_level
theorem dX6_worstNow_0 : decode cX6_worstNow 0 = .ok (.aload_n 0, 1) := by decide +kernel
theorem dX6_worstNow_1 : decode cX6_worstNow 1 = .ok (.iconst 0, 1) := by decide +kernel
theorem dX6_worstNow_2 : decode cX6_worstNow 2 = .ok (.invokevirtual 73, 3) := by decide +kernel
theorem dX6_worstNow_5 : decode cX6_worstNow 5 = .ok (.aload_n 0, 1) := by decide +kernel
theorem dX6_worstNow_6 : decode cX6_worstNow 6 = .ok (.iconst 1, 1) := by decide +kernel
theorem dX6_worstNow_7 : decode cX6_worstNow 7 = .ok (.invokevirtual 73, 3) := by decide +kernel
theorem dX6_worstNow_10 : decode cX6_worstNow 10 = .ok (.if_icmp .ge 11, 3) := by decide +kernel
theorem dX6_worstNow_13 : decode cX6_worstNow 13 = .ok (.aload_n 0, 1) := by decide +kernel
theorem dX6_worstNow_14 : decode cX6_worstNow 14 = .ok (.iconst 0, 1) := by decide +kernel
theorem dX6_worstNow_15 : decode cX6_worstNow 15 = .ok (.invokevirtual 73, 3) := by decide +kernel
theorem dX6_worstNow_18 : decode cX6_worstNow 18 = .ok (.goto 8, 3) := by decide +kernel
theorem dX6_worstNow_21 : decode cX6_worstNow 21 = .ok (.aload_n 0, 1) := by decide +kernel
theorem dX6_worstNow_22 : decode cX6_worstNow 22 = .ok (.iconst 1, 1) := by decide +kernel
theorem dX6_worstNow_23 : decode cX6_worstNow 23 = .ok (.invokevirtual 73, 3) := by decide +kernel
theorem dX6_worstNow_26 : decode cX6_worstNow 26 = .ok (.ireturn, 1) := by decide +kernel
theorem dX6_moves_0 : decode cX6_moves 0 = .ok (.iload_n 2, 1) := by decide +kernel
theorem dX6_moves_1 : decode cX6_moves 1 = .ok (.ifCond .eq 19, 3) := by decide +kernel
theorem dX6_moves_4 : decode cX6_moves 4 = .ok (.aload_n 0, 1) := by decide +kernel
theorem dX6_moves_5 : decode cX6_moves 5 = .ok (.getfield 42, 3) := by decide +kernel
theorem dX6_moves_8 : decode cX6_moves 8 = .ok (.iload_n 1, 1) := by decide +kernel
theorem dX6_moves_9 : decode cX6_moves 9 = .ok (.iaload, 1) := by decide +kernel
theorem dX6_moves_10 : decode cX6_moves 10 = .ok (.aload_n 0, 1) := by decide +kernel
theorem dX6_moves_11 : decode cX6_moves 11 = .ok (.getfield 13, 3) := by decide +kernel
theorem dX6_moves_14 : decode cX6_moves 14 = .ok (.iload_n 1, 1) := by decide +kernel
theorem dX6_moves_15 : decode cX6_moves 15 = .ok (.iaload, 1) := by decide +kernel
theorem dX6_moves_16 : decode cX6_moves 16 = .ok (.iadd, 1) := by decide +kernel
theorem dX6_moves_17 : decode cX6_moves 17 = .ok (.goto 16, 3) := by decide +kernel
theorem dX6_moves_20 : decode cX6_moves 20 = .ok (.aload_n 0, 1) := by decide +kernel
theorem dX6_moves_21 : decode cX6_moves 21 = .ok (.getfield 42, 3) := by decide +kernel
theorem dX6_moves_24 : decode cX6_moves 24 = .ok (.iload_n 1, 1) := by decide +kernel
theorem dX6_moves_25 : decode cX6_moves 25 = .ok (.iaload, 1) := by decide +kernel
theorem dX6_moves_26 : decode cX6_moves 26 = .ok (.aload_n 0, 1) := by decide +kernel
theorem dX6_moves_27 : decode cX6_moves 27 = .ok (.getfield 16, 3) := by decide +kernel
theorem dX6_moves_30 : decode cX6_moves 30 = .ok (.iload_n 1, 1) := by decide +kernel
theorem dX6_moves_31 : decode cX6_moves 31 = .ok (.iaload, 1) := by decide +kernel
theorem dX6_moves_32 : decode cX6_moves 32 = .ok (.isub, 1) := by decide +kernel
theorem dX6_moves_33 : decode cX6_moves 33 = .ok (.istore_n 3, 1) := by decide +kernel
theorem dX6_moves_34 : decode cX6_moves 34 = .ok (.aload_n 0, 1) := by decide +kernel
theorem dX6_moves_35 : decode cX6_moves 35 = .ok (.getfield 42, 3) := by decide +kernel
theorem dX6_moves_38 : decode cX6_moves 38 = .ok (.iload_n 1, 1) := by decide +kernel
theorem dX6_moves_39 : decode cX6_moves 39 = .ok (.iload_n 3, 1) := by decide +kernel
theorem dX6_moves_40 : decode cX6_moves 40 = .ok (.iconst 1, 1) := by decide +kernel
theorem dX6_moves_41 : decode cX6_moves 41 = .ok (.if_icmp .ge 7, 3) := by decide +kernel
theorem dX6_moves_44 : decode cX6_moves 44 = .ok (.iconst 1, 1) := by decide +kernel
theorem dX6_moves_45 : decode cX6_moves 45 = .ok (.goto 4, 3) := by decide +kernel
theorem dX6_moves_48 : decode cX6_moves 48 = .ok (.iload_n 3, 1) := by decide +kernel
theorem dX6_moves_49 : decode cX6_moves 49 = .ok (.iastore, 1) := by decide +kernel
theorem dX6_moves_50 : decode cX6_moves 50 = .ok (.return_, 1) := by decide +kernel
set_option maxRecDepth 20000 in
theorem ggX6_period_X6_moves : GoodIn wsX6_period wsX6_moves := goodIn_r _ [18, 19, 20, 21, 31, 32, 33, 34, 35, 36, 37, 38, 39, 40, 41, 42, 43, 44, 45, 46, 47, 48, 49, 50, 51, 52] (by decide +kernel) (by decide +kernel)
set_option maxRecDepth 20000 in
theorem gX6_period_X6_moves : GoodIn wsX6_period (wsV RX6 77 RX6 yX6_moves wsX6_moves) := goodIn_app (goodIn_of _ (by decide +kernel)) ggX6_period_X6_moves
set_option maxRecDepth 20000 in
theorem ggX6_period_X6_worstNow : GoodIn wsX6_period wsX6_worstNow := goodIn_r _ [25, 26, 27, 28, 17, 29, 19, 30, 31, 32, 33, 34, 35, 36, 37, 38, 39, 40, 41, 42, 43, 44, 45, 46, 47, 48, 49, 50, 51, 52] (by decide +kernel) (by decide +kernel)
set_option maxRecDepth 20000 in
theorem gX6_period_X6_worstNow : GoodIn wsX6_period (wsV RX6 83 RX6 yX6_worstNow wsX6_worstNow) := goodIn_app (goodIn_of _ (by decide +kernel)) ggX6_period_X6_worstNow
theorem dX6_period_0 : decode cX6_period 0 = .ok (.aload_n 0, 1) := by decide +kernel
theorem dX6_period_1 : decode cX6_period 1 = .ok (.iconst 0, 1) := by decide +kernel
theorem dX6_period_2 : decode cX6_period 2 = .ok (.iload_n 1, 1) := by decide +kernel
theorem dX6_period_3 : decode cX6_period 3 = .ok (.invokevirtual 77, 3) := by decide +kernel
theorem dX6_period_6 : decode cX6_period 6 = .ok (.aload_n 0, 1) := by decide +kernel
theorem dX6_period_7 : decode cX6_period 7 = .ok (.iconst 1, 1) := by decide +kernel
theorem dX6_period_8 : decode cX6_period 8 = .ok (.iload_n 1, 1) := by decide +kernel
theorem dX6_period_9 : decode cX6_period 9 = .ok (.aload_n 0, 1) := by decide +kernel
theorem dX6_period_10 : decode cX6_period 10 = .ok (.getfield 63, 3) := by decide +kernel
theorem dX6_period_13 : decode cX6_period 13 = .ok (.if_icmp .eq 7, 3) := by decide +kernel
theorem dX6_period_16 : decode cX6_period 16 = .ok (.iconst 1, 1) := by decide +kernel
theorem dX6_period_17 : decode cX6_period 17 = .ok (.goto 4, 3) := by decide +kernel
theorem dX6_period_20 : decode cX6_period 20 = .ok (.iconst 0, 1) := by decide +kernel
theorem dX6_period_21 : decode cX6_period 21 = .ok (.invokevirtual 77, 3) := by decide +kernel
theorem dX6_period_24 : decode cX6_period 24 = .ok (.aload_n 0, 1) := by decide +kernel
theorem dX6_period_25 : decode cX6_period 25 = .ok (.dup, 1) := by decide +kernel
theorem dX6_period_26 : decode cX6_period 26 = .ok (.getfield 80, 3) := by decide +kernel
theorem dX6_period_29 : decode cX6_period 29 = .ok (.iconst 1, 1) := by decide +kernel
theorem dX6_period_30 : decode cX6_period 30 = .ok (.iadd, 1) := by decide +kernel
theorem dX6_period_31 : decode cX6_period 31 = .ok (.putfield 80, 3) := by decide +kernel
theorem dX6_period_34 : decode cX6_period 34 = .ok (.aload_n 0, 1) := by decide +kernel
theorem dX6_period_35 : decode cX6_period 35 = .ok (.invokevirtual 83, 3) := by decide +kernel
theorem dX6_period_38 : decode cX6_period 38 = .ok (.istore_n 2, 1) := by decide +kernel
theorem dX6_period_39 : decode cX6_period 39 = .ok (.aload_n 0, 1) := by decide +kernel
theorem dX6_period_40 : decode cX6_period 40 = .ok (.getfield 80, 3) := by decide +kernel
theorem dX6_period_43 : decode cX6_period 43 = .ok (.aload_n 0, 1) := by decide +kernel
theorem dX6_period_44 : decode cX6_period 44 = .ok (.getfield 23, 3) := by decide +kernel
theorem dX6_period_47 : decode cX6_period 47 = .ok (.if_icmp .ne 7, 3) := by decide +kernel
theorem dX6_period_50 : decode cX6_period 50 = .ok (.iconst 1, 1) := by decide +kernel
theorem dX6_period_51 : decode cX6_period 51 = .ok (.goto 4, 3) := by decide +kernel
theorem dX6_period_54 : decode cX6_period 54 = .ok (.iconst 0, 1) := by decide +kernel
theorem dX6_period_55 : decode cX6_period 55 = .ok (.istore_n 3, 1) := by decide +kernel
theorem dX6_period_56 : decode cX6_period 56 = .ok (.aload_n 0, 1) := by decide +kernel
theorem dX6_period_57 : decode cX6_period 57 = .ok (.aload_n 0, 1) := by decide +kernel
theorem dX6_period_58 : decode cX6_period 58 = .ok (.getfield 87, 3) := by decide +kernel
theorem dX6_period_61 : decode cX6_period 61 = .ok (.ifCond .ne 22, 3) := by decide +kernel
theorem dX6_period_64 : decode cX6_period 64 = .ok (.iload_n 2, 1) := by decide +kernel
theorem dX6_period_65 : decode cX6_period 65 = .ok (.aload_n 0, 1) := by decide +kernel
theorem dX6_period_66 : decode cX6_period 66 = .ok (.getfield 26, 3) := by decide +kernel
theorem dX6_period_69 : decode cX6_period 69 = .ok (.if_icmp .ge 18, 3) := by decide +kernel
theorem dX6_period_72 : decode cX6_period 72 = .ok (.iload_n 3, 1) := by decide +kernel
theorem dX6_period_73 : decode cX6_period 73 = .ok (.ifCond .ne 10, 3) := by decide +kernel
theorem dX6_period_76 : decode cX6_period 76 = .ok (.aload_n 0, 1) := by decide +kernel
theorem dX6_period_77 : decode cX6_period 77 = .ok (.getfield 67, 3) := by decide +kernel
theorem dX6_period_80 : decode cX6_period 80 = .ok (.ifCond .ne 7, 3) := by decide +kernel
theorem dX6_period_83 : decode cX6_period 83 = .ok (.iconst 1, 1) := by decide +kernel
theorem dX6_period_84 : decode cX6_period 84 = .ok (.goto 4, 3) := by decide +kernel
theorem dX6_period_87 : decode cX6_period 87 = .ok (.iconst 0, 1) := by decide +kernel
theorem dX6_period_88 : decode cX6_period 88 = .ok (.putfield 87, 3) := by decide +kernel
theorem dX6_period_91 : decode cX6_period 91 = .ok (.iload_n 2, 1) := by decide +kernel
theorem dX6_period_92 : decode cX6_period 92 = .ok (.aload_n 0, 1) := by decide +kernel
theorem dX6_period_93 : decode cX6_period 93 = .ok (.getfield 29, 3) := by decide +kernel
theorem dX6_period_96 : decode cX6_period 96 = .ok (.if_icmp .lt 45, 3) := by decide +kernel
theorem dX6_period_99 : decode cX6_period 99 = .ok (.aload_n 0, 1) := by decide +kernel
theorem dX6_period_100 : decode cX6_period 100 = .ok (.dup, 1) := by decide +kernel
theorem dX6_period_101 : decode cX6_period 101 = .ok (.getfield 90, 3) := by decide +kernel
theorem dX6_period_104 : decode cX6_period 104 = .ok (.aload_n 0, 1) := by decide +kernel
theorem dX6_period_105 : decode cX6_period 105 = .ok (.getfield 35, 3) := by decide +kernel
theorem dX6_period_108 : decode cX6_period 108 = .ok (.aload_n 0, 1) := by decide +kernel
theorem dX6_period_109 : decode cX6_period 109 = .ok (.getfield 70, 3) := by decide +kernel
theorem dX6_period_112 : decode cX6_period 112 = .ok (.ifCond .eq 15, 3) := by decide +kernel
theorem dX6_period_115 : decode cX6_period 115 = .ok (.aload_n 0, 1) := by decide +kernel
theorem dX6_period_116 : decode cX6_period 116 = .ok (.getfield 93, 3) := by decide +kernel
theorem dX6_period_119 : decode cX6_period 119 = .ok (.aload_n 0, 1) := by decide +kernel
theorem dX6_period_120 : decode cX6_period 120 = .ok (.getfield 35, 3) := by decide +kernel
theorem dX6_period_123 : decode cX6_period 123 = .ok (.imul, 1) := by decide +kernel
theorem dX6_period_124 : decode cX6_period 124 = .ok (.goto 4, 3) := by decide +kernel
theorem dX6_period_127 : decode cX6_period 127 = .ok (.iconst 0, 1) := by decide +kernel
theorem dX6_period_128 : decode cX6_period 128 = .ok (.iadd, 1) := by decide +kernel
theorem dX6_period_129 : decode cX6_period 129 = .ok (.iadd, 1) := by decide +kernel
theorem dX6_period_130 : decode cX6_period 130 = .ok (.putfield 90, 3) := by decide +kernel
theorem dX6_period_133 : decode cX6_period 133 = .ok (.aload_n 0, 1) := by decide +kernel
theorem dX6_period_134 : decode cX6_period 134 = .ok (.iconst 0, 1) := by decide +kernel
theorem dX6_period_135 : decode cX6_period 135 = .ok (.putfield 93, 3) := by decide +kernel
theorem dX6_period_138 : decode cX6_period 138 = .ok (.goto 13, 3) := by decide +kernel
theorem dX6_period_141 : decode cX6_period 141 = .ok (.aload_n 0, 1) := by decide +kernel
theorem dX6_period_142 : decode cX6_period 142 = .ok (.dup, 1) := by decide +kernel
theorem dX6_period_143 : decode cX6_period 143 = .ok (.getfield 93, 3) := by decide +kernel
theorem dX6_period_146 : decode cX6_period 146 = .ok (.iconst 1, 1) := by decide +kernel
theorem dX6_period_147 : decode cX6_period 147 = .ok (.iadd, 1) := by decide +kernel
theorem dX6_period_148 : decode cX6_period 148 = .ok (.putfield 93, 3) := by decide +kernel
theorem dX6_period_151 : decode cX6_period 151 = .ok (.iload_n 3, 1) := by decide +kernel
theorem dX6_period_152 : decode cX6_period 152 = .ok (.ifCond .eq 38, 3) := by decide +kernel
theorem dX6_period_155 : decode cX6_period 155 = .ok (.aload_n 0, 1) := by decide +kernel
theorem dX6_period_156 : decode cX6_period 156 = .ok (.dup, 1) := by decide +kernel
theorem dX6_period_157 : decode cX6_period 157 = .ok (.getfield 90, 3) := by decide +kernel
theorem dX6_period_160 : decode cX6_period 160 = .ok (.aload_n 0, 1) := by decide +kernel
theorem dX6_period_161 : decode cX6_period 161 = .ok (.getfield 87, 3) := by decide +kernel
theorem dX6_period_164 : decode cX6_period 164 = .ok (.ifCond .eq 16, 3) := by decide +kernel
theorem dX6_period_167 : decode cX6_period 167 = .ok (.iload_n 2, 1) := by decide +kernel
theorem dX6_period_168 : decode cX6_period 168 = .ok (.bipush 100, 2) := by decide +kernel
theorem dX6_period_170 : decode cX6_period 170 = .ok (.if_icmp .ge 10, 3) := by decide +kernel
theorem dX6_period_173 : decode cX6_period 173 = .ok (.bipush 10, 2) := by decide +kernel
theorem dX6_period_175 : decode cX6_period 175 = .ok (.iload_n 2, 1) := by decide +kernel
theorem dX6_period_176 : decode cX6_period 176 = .ok (.imul, 1) := by decide +kernel
theorem dX6_period_177 : decode cX6_period 177 = .ok (.goto 6, 3) := by decide +kernel
theorem dX6_period_180 : decode cX6_period 180 = .ok (.sipush 1000, 3) := by decide +kernel
theorem dX6_period_183 : decode cX6_period 183 = .ok (.iadd, 1) := by decide +kernel
theorem dX6_period_184 : decode cX6_period 184 = .ok (.putfield 90, 3) := by decide +kernel
theorem dX6_period_187 : decode cX6_period 187 = .ok (.goto 23, 3) := by decide +kernel
theorem dX6_period_190 : decode cX6_period 190 = .ok (.iload_n 2, 1) := by decide +kernel
theorem dX6_period_191 : decode cX6_period 191 = .ok (.aload_n 0, 1) := by decide +kernel
theorem dX6_period_192 : decode cX6_period 192 = .ok (.getfield 32, 3) := by decide +kernel
theorem dX6_period_195 : decode cX6_period 195 = .ok (.if_icmp .lt 15, 3) := by decide +kernel
theorem dX6_period_198 : decode cX6_period 198 = .ok (.aload_n 0, 1) := by decide +kernel
theorem dX6_period_199 : decode cX6_period 199 = .ok (.dup, 1) := by decide +kernel
theorem dX6_period_200 : decode cX6_period 200 = .ok (.getfield 90, 3) := by decide +kernel
theorem dX6_period_203 : decode cX6_period 203 = .ok (.sipush 1000, 3) := by decide +kernel
theorem dX6_period_206 : decode cX6_period 206 = .ok (.iadd, 1) := by decide +kernel
theorem dX6_period_207 : decode cX6_period 207 = .ok (.putfield 90, 3) := by decide +kernel
theorem dX6_period_210 : decode cX6_period 210 = .ok (.aload_n 0, 1) := by decide +kernel
theorem dX6_period_211 : decode cX6_period 211 = .ok (.iload_n 3, 1) := by decide +kernel
theorem dX6_period_212 : decode cX6_period 212 = .ok (.ifCond .ne 11, 3) := by decide +kernel
theorem dX6_period_215 : decode cX6_period 215 = .ok (.iload_n 2, 1) := by decide +kernel
theorem dX6_period_216 : decode cX6_period 216 = .ok (.aload_n 0, 1) := by decide +kernel
theorem dX6_period_217 : decode cX6_period 217 = .ok (.getfield 32, 3) := by decide +kernel
theorem dX6_period_220 : decode cX6_period 220 = .ok (.if_icmp .lt 7, 3) := by decide +kernel
theorem dX6_period_223 : decode cX6_period 223 = .ok (.iconst 1, 1) := by decide +kernel
theorem dX6_period_224 : decode cX6_period 224 = .ok (.goto 4, 3) := by decide +kernel
theorem dX6_period_227 : decode cX6_period 227 = .ok (.iconst 0, 1) := by decide +kernel
theorem dX6_period_228 : decode cX6_period 228 = .ok (.putfield 96, 3) := by decide +kernel
theorem dX6_period_231 : decode cX6_period 231 = .ok (.return_, 1) := by decide +kernel
set_option maxRecDepth 20000 in
theorem ggX6_runs_X6_period : GoodIn wsX6_runs wsX6_period := goodIn_r _ [13, 14, 6, 15, 4, 16, 17, 18, 7, 19, 20, 3, 21, 5, 22, 23, 24, 12, 25, 1, 26, 27, 28, 29, 30, 31, 32, 33, 34, 35, 2, 36, 37, 38, 39, 40, 41, 42, 43, 44, 45, 46, 47, 48, 49, 50, 51, 52, 53, 54, 55, 56, 57] (by decide +kernel) (by decide +kernel)
set_option maxRecDepth 20000 in
theorem gX6_runs_X6_period : GoodIn wsX6_runs (wsV RX6 99 RX6 yX6_period wsX6_period) := goodIn_app (goodIn_of _ (by decide +kernel)) ggX6_runs_X6_period
theorem dX6_runs_0 : decode cX6_runs 0 = .ok (.aload_n 0, 1) := by decide +kernel
theorem dX6_runs_1 : decode cX6_runs 1 = .ok (.getfield 42, 3) := by decide +kernel
theorem dX6_runs_4 : decode cX6_runs 4 = .ok (.iconst 0, 1) := by decide +kernel
theorem dX6_runs_5 : decode cX6_runs 5 = .ok (.aload_n 0, 1) := by decide +kernel
theorem dX6_runs_6 : decode cX6_runs 6 = .ok (.getfield 7, 3) := by decide +kernel
theorem dX6_runs_9 : decode cX6_runs 9 = .ok (.iconst 0, 1) := by decide +kernel
theorem dX6_runs_10 : decode cX6_runs 10 = .ok (.iaload, 1) := by decide +kernel
theorem dX6_runs_11 : decode cX6_runs 11 = .ok (.iastore, 1) := by decide +kernel
theorem dX6_runs_12 : decode cX6_runs 12 = .ok (.aload_n 0, 1) := by decide +kernel
theorem dX6_runs_13 : decode cX6_runs 13 = .ok (.getfield 42, 3) := by decide +kernel
theorem dX6_runs_16 : decode cX6_runs 16 = .ok (.iconst 1, 1) := by decide +kernel
theorem dX6_runs_17 : decode cX6_runs 17 = .ok (.aload_n 0, 1) := by decide +kernel
theorem dX6_runs_18 : decode cX6_runs 18 = .ok (.getfield 7, 3) := by decide +kernel
theorem dX6_runs_21 : decode cX6_runs 21 = .ok (.iconst 1, 1) := by decide +kernel
theorem dX6_runs_22 : decode cX6_runs 22 = .ok (.iaload, 1) := by decide +kernel
theorem dX6_runs_23 : decode cX6_runs 23 = .ok (.iastore, 1) := by decide +kernel
theorem dX6_runs_24 : decode cX6_runs 24 = .ok (.aload_n 0, 1) := by decide +kernel
theorem dX6_runs_25 : decode cX6_runs 25 = .ok (.iconst 0, 1) := by decide +kernel
theorem dX6_runs_26 : decode cX6_runs 26 = .ok (.putfield 93, 3) := by decide +kernel
theorem dX6_runs_29 : decode cX6_runs 29 = .ok (.aload_n 0, 1) := by decide +kernel
theorem dX6_runs_30 : decode cX6_runs 30 = .ok (.iconst 0, 1) := by decide +kernel
theorem dX6_runs_31 : decode cX6_runs 31 = .ok (.putfield 87, 3) := by decide +kernel
theorem dX6_runs_34 : decode cX6_runs 34 = .ok (.aload_n 0, 1) := by decide +kernel
theorem dX6_runs_35 : decode cX6_runs 35 = .ok (.iconst 0, 1) := by decide +kernel
theorem dX6_runs_36 : decode cX6_runs 36 = .ok (.putfield 96, 3) := by decide +kernel
theorem dX6_runs_39 : decode cX6_runs 39 = .ok (.aload_n 0, 1) := by decide +kernel
theorem dX6_runs_40 : decode cX6_runs 40 = .ok (.iconst 0, 1) := by decide +kernel
theorem dX6_runs_41 : decode cX6_runs 41 = .ok (.putfield 80, 3) := by decide +kernel
theorem dX6_runs_44 : decode cX6_runs 44 = .ok (.aload_n 0, 1) := by decide +kernel
theorem dX6_runs_45 : decode cX6_runs 45 = .ok (.iconst 0, 1) := by decide +kernel
theorem dX6_runs_46 : decode cX6_runs 46 = .ok (.putfield 90, 3) := by decide +kernel
theorem dX6_runs_49 : decode cX6_runs 49 = .ok (.iconst 0, 1) := by decide +kernel
theorem dX6_runs_50 : decode cX6_runs 50 = .ok (.istore_n 2, 1) := by decide +kernel
theorem dX6_runs_51 : decode cX6_runs 51 = .ok (.iload_n 2, 1) := by decide +kernel
theorem dX6_runs_52 : decode cX6_runs 52 = .ok (.iload_n 1, 1) := by decide +kernel
theorem dX6_runs_53 : decode cX6_runs 53 = .ok (.if_icmp .ge 26, 3) := by decide +kernel
theorem dX6_runs_56 : decode cX6_runs 56 = .ok (.aload_n 0, 1) := by decide +kernel
theorem dX6_runs_57 : decode cX6_runs 57 = .ok (.getfield 96, 3) := by decide +kernel
theorem dX6_runs_60 : decode cX6_runs 60 = .ok (.ifCond .ne 19, 3) := by decide +kernel
theorem dX6_runs_63 : decode cX6_runs 63 = .ok (.aload_n 0, 1) := by decide +kernel
theorem dX6_runs_64 : decode cX6_runs 64 = .ok (.aload_n 0, 1) := by decide +kernel
theorem dX6_runs_65 : decode cX6_runs 65 = .ok (.getfield 38, 3) := by decide +kernel
theorem dX6_runs_68 : decode cX6_runs 68 = .ok (.iload_n 2, 1) := by decide +kernel
theorem dX6_runs_69 : decode cX6_runs 69 = .ok (.baload, 1) := by decide +kernel
theorem dX6_runs_70 : decode cX6_runs 70 = .ok (.invokevirtual 99, 3) := by decide +kernel
theorem dX6_runs_73 : decode cX6_runs 73 = .ok (.iinc 2 1, 3) := by decide +kernel
theorem dX6_runs_76 : decode cX6_runs 76 = .ok (.goto (-25), 3) := by decide +kernel
theorem dX6_runs_79 : decode cX6_runs 79 = .ok (.return_, 1) := by decide +kernel
set_option maxRecDepth 20000 in
theorem ggX6_paidBy_X6_runs : GoodIn wsX6_paidBy wsX6_runs := goodIn_r _ [6, 7, 8, 9, 10, 11, 12, 1, 13, 14, 15, 16, 5, 17, 18, 19, 20, 21, 22, 23, 24, 25, 26, 27, 28, 29, 30, 31, 32, 33, 34, 35, 36, 37, 38, 39, 40, 41, 42, 43, 44, 45, 46, 47, 48, 49, 50, 51, 52, 53, 54, 55, 56, 57, 58, 59, 60, 61] (by decide +kernel) (by decide +kernel)
set_option maxRecDepth 20000 in
theorem gX6_paidBy_X6_runs : GoodIn wsX6_paidBy (wsV RX6 103 RX6 yX6_runs wsX6_runs) := goodIn_app (goodIn_of _ (by decide +kernel)) ggX6_paidBy_X6_runs
theorem dX6_paidBy_0 : decode cX6_paidBy 0 = .ok (.aload_n 0, 1) := by decide +kernel
theorem dX6_paidBy_1 : decode cX6_paidBy 1 = .ok (.iload_n 1, 1) := by decide +kernel
theorem dX6_paidBy_2 : decode cX6_paidBy 2 = .ok (.invokevirtual 103, 3) := by decide +kernel
theorem dX6_paidBy_5 : decode cX6_paidBy 5 = .ok (.aload_n 0, 1) := by decide +kernel
theorem dX6_paidBy_6 : decode cX6_paidBy 6 = .ok (.getfield 90, 3) := by decide +kernel
theorem dX6_paidBy_9 : decode cX6_paidBy 9 = .ok (.ireturn, 1) := by decide +kernel
set_option maxRecDepth 20000 in
theorem ggX6_tell_X6_paidBy : GoodIn wsX6_tell wsX6_paidBy := goodIn_r _ [8, 9, 10, 11, 12, 7, 13, 14, 15, 16, 17, 2, 18, 3, 19, 20, 21, 22, 23, 24, 25, 26, 27, 28, 29, 30, 31, 32, 33, 34, 35, 36, 37, 38, 39, 40, 41, 42, 43, 44, 50, 51, 52, 53, 54, 55, 56, 57, 58, 59, 60, 61, 62, 63, 64, 65, 66, 67, 68, 69, 70, 71] (by decide +kernel) (by decide +kernel)
set_option maxRecDepth 20000 in
theorem gX6_tell_X6_paidBy : GoodIn wsX6_tell (wsV RX6 107 RX6 yX6_paidBy wsX6_paidBy) := goodIn_app (goodIn_of _ (by decide +kernel)) ggX6_tell_X6_paidBy
set_option maxRecDepth 20000 in
theorem ggX6_tell_X6_goes : GoodIn wsX6_tell wsX6_goes := goodIn_r _ [48, 49, 50, 51, 52, 53, 54, 55, 56, 57, 58, 59, 60, 61, 62, 63, 64, 65, 66, 67, 68, 69, 70, 71] (by decide +kernel) (by decide +kernel)
set_option maxRecDepth 20000 in
theorem gX6_tell_X6_goes : GoodIn wsX6_tell (wsV RX6 56 RX6 yX6_goes wsX6_goes) := goodIn_app (goodIn_of _ (by decide +kernel)) ggX6_tell_X6_goes
theorem dX6_tell_0 : decode cX6_tell 0 = .ok (.aload_n 0, 1) := by decide +kernel
theorem dX6_tell_1 : decode cX6_tell 1 = .ok (.aload_n 0, 1) := by decide +kernel
theorem dX6_tell_2 : decode cX6_tell 2 = .ok (.getfield 60, 3) := by decide +kernel
theorem dX6_tell_5 : decode cX6_tell 5 = .ok (.invokevirtual 107, 3) := by decide +kernel
theorem dX6_tell_8 : decode cX6_tell 8 = .ok (.istore_n 2, 1) := by decide +kernel
theorem dX6_tell_9 : decode cX6_tell 9 = .ok (.aload_n 0, 1) := by decide +kernel
theorem dX6_tell_10 : decode cX6_tell 10 = .ok (.aload_n 0, 1) := by decide +kernel
theorem dX6_tell_11 : decode cX6_tell 11 = .ok (.getfield 96, 3) := by decide +kernel
theorem dX6_tell_14 : decode cX6_tell 14 = .ok (.ifCond .eq 7, 3) := by decide +kernel
theorem dX6_tell_17 : decode cX6_tell 17 = .ok (.iconst 1, 1) := by decide +kernel
theorem dX6_tell_18 : decode cX6_tell 18 = .ok (.goto 4, 3) := by decide +kernel
theorem dX6_tell_21 : decode cX6_tell 21 = .ok (.iconst 0, 1) := by decide +kernel
theorem dX6_tell_22 : decode cX6_tell 22 = .ok (.invokevirtual 56, 3) := by decide +kernel
theorem dX6_tell_25 : decode cX6_tell 25 = .ok (.ifCond .ne 5, 3) := by decide +kernel
theorem dX6_tell_28 : decode cX6_tell 28 = .ok (.iconst 0, 1) := by decide +kernel
theorem dX6_tell_29 : decode cX6_tell 29 = .ok (.ireturn, 1) := by decide +kernel
theorem dX6_tell_30 : decode cX6_tell 30 = .ok (.aload_n 0, 1) := by decide +kernel
theorem dX6_tell_31 : decode cX6_tell 31 = .ok (.getfield 38, 3) := by decide +kernel
theorem dX6_tell_34 : decode cX6_tell 34 = .ok (.aload_n 0, 1) := by decide +kernel
theorem dX6_tell_35 : decode cX6_tell 35 = .ok (.getfield 60, 3) := by decide +kernel
theorem dX6_tell_38 : decode cX6_tell 38 = .ok (.iload_n 1, 1) := by decide +kernel
theorem dX6_tell_39 : decode cX6_tell 39 = .ok (.bastore, 1) := by decide +kernel
theorem dX6_tell_40 : decode cX6_tell 40 = .ok (.aload_n 0, 1) := by decide +kernel
theorem dX6_tell_41 : decode cX6_tell 41 = .ok (.dup, 1) := by decide +kernel
theorem dX6_tell_42 : decode cX6_tell 42 = .ok (.getfield 60, 3) := by decide +kernel
theorem dX6_tell_45 : decode cX6_tell 45 = .ok (.iconst 1, 1) := by decide +kernel
theorem dX6_tell_46 : decode cX6_tell 46 = .ok (.iadd, 1) := by decide +kernel
theorem dX6_tell_47 : decode cX6_tell 47 = .ok (.putfield 60, 3) := by decide +kernel
theorem dX6_tell_50 : decode cX6_tell 50 = .ok (.aload_n 0, 1) := by decide +kernel
theorem dX6_tell_51 : decode cX6_tell 51 = .ok (.aload_n 0, 1) := by decide +kernel
theorem dX6_tell_52 : decode cX6_tell 52 = .ok (.getfield 60, 3) := by decide +kernel
theorem dX6_tell_55 : decode cX6_tell 55 = .ok (.invokevirtual 107, 3) := by decide +kernel
theorem dX6_tell_58 : decode cX6_tell 58 = .ok (.iload_n 2, 1) := by decide +kernel
theorem dX6_tell_59 : decode cX6_tell 59 = .ok (.isub, 1) := by decide +kernel
theorem dX6_tell_60 : decode cX6_tell 60 = .ok (.ireturn, 1) := by decide +kernel
set_option maxRecDepth 20000 in
theorem ggX6_takeBack_X6_goes : GoodIn wsX6_takeBack wsX6_goes := goodIn_r _ [6, 7, 50, 51, 52, 53, 54, 55, 56, 57, 58, 59, 60, 61, 62, 63, 64, 65, 66, 67, 68, 69, 70, 71] (by decide +kernel) (by decide +kernel)
set_option maxRecDepth 20000 in
theorem gX6_takeBack_X6_goes : GoodIn wsX6_takeBack (wsV RX6 56 RX6 yX6_goes wsX6_goes) := goodIn_app (goodIn_of _ (by decide +kernel)) ggX6_takeBack_X6_goes
set_option maxRecDepth 20000 in
theorem ggX6_takeBack_X6_paidBy : GoodIn wsX6_takeBack wsX6_paidBy := goodIn_r _ [11, 12, 13, 14, 15, 5, 16, 17, 18, 19, 20, 21, 22, 23, 24, 25, 26, 27, 28, 29, 30, 31, 32, 33, 34, 35, 36, 37, 38, 39, 40, 41, 42, 43, 44, 45, 46, 47, 48, 49, 50, 51, 52, 53, 54, 55, 56, 57, 58, 59, 60, 61, 62, 63, 64, 65, 66, 67, 68, 69, 70, 71] (by decide +kernel) (by decide +kernel)
set_option maxRecDepth 20000 in
theorem gX6_takeBack_X6_paidBy : GoodIn wsX6_takeBack (wsV RX6 107 RX6 yX6_paidBy wsX6_paidBy) := goodIn_app (goodIn_of _ (by decide +kernel)) ggX6_takeBack_X6_paidBy
theorem dX6_takeBack_0 : decode cX6_takeBack 0 = .ok (.aload_n 0, 1) := by decide +kernel
theorem dX6_takeBack_1 : decode cX6_takeBack 1 = .ok (.aload_n 0, 1) := by decide +kernel
theorem dX6_takeBack_2 : decode cX6_takeBack 2 = .ok (.getfield 60, 3) := by decide +kernel
theorem dX6_takeBack_5 : decode cX6_takeBack 5 = .ok (.ifCond .ne 7, 3) := by decide +kernel
theorem dX6_takeBack_8 : decode cX6_takeBack 8 = .ok (.iconst 1, 1) := by decide +kernel
theorem dX6_takeBack_9 : decode cX6_takeBack 9 = .ok (.goto 4, 3) := by decide +kernel
theorem dX6_takeBack_12 : decode cX6_takeBack 12 = .ok (.iconst 0, 1) := by decide +kernel
theorem dX6_takeBack_13 : decode cX6_takeBack 13 = .ok (.invokevirtual 56, 3) := by decide +kernel
theorem dX6_takeBack_16 : decode cX6_takeBack 16 = .ok (.ifCond .ne 5, 3) := by decide +kernel
theorem dX6_takeBack_19 : decode cX6_takeBack 19 = .ok (.iconst 0, 1) := by decide +kernel
theorem dX6_takeBack_20 : decode cX6_takeBack 20 = .ok (.ireturn, 1) := by decide +kernel
theorem dX6_takeBack_21 : decode cX6_takeBack 21 = .ok (.aload_n 0, 1) := by decide +kernel
theorem dX6_takeBack_22 : decode cX6_takeBack 22 = .ok (.aload_n 0, 1) := by decide +kernel
theorem dX6_takeBack_23 : decode cX6_takeBack 23 = .ok (.getfield 60, 3) := by decide +kernel
theorem dX6_takeBack_26 : decode cX6_takeBack 26 = .ok (.invokevirtual 107, 3) := by decide +kernel
theorem dX6_takeBack_29 : decode cX6_takeBack 29 = .ok (.istore_n 1, 1) := by decide +kernel
theorem dX6_takeBack_30 : decode cX6_takeBack 30 = .ok (.aload_n 0, 1) := by decide +kernel
theorem dX6_takeBack_31 : decode cX6_takeBack 31 = .ok (.dup, 1) := by decide +kernel
theorem dX6_takeBack_32 : decode cX6_takeBack 32 = .ok (.getfield 60, 3) := by decide +kernel
theorem dX6_takeBack_35 : decode cX6_takeBack 35 = .ok (.iconst 1, 1) := by decide +kernel
theorem dX6_takeBack_36 : decode cX6_takeBack 36 = .ok (.isub, 1) := by decide +kernel
theorem dX6_takeBack_37 : decode cX6_takeBack 37 = .ok (.putfield 60, 3) := by decide +kernel
theorem dX6_takeBack_40 : decode cX6_takeBack 40 = .ok (.iload_n 1, 1) := by decide +kernel
theorem dX6_takeBack_41 : decode cX6_takeBack 41 = .ok (.aload_n 0, 1) := by decide +kernel
theorem dX6_takeBack_42 : decode cX6_takeBack 42 = .ok (.aload_n 0, 1) := by decide +kernel
theorem dX6_takeBack_43 : decode cX6_takeBack 43 = .ok (.getfield 60, 3) := by decide +kernel
theorem dX6_takeBack_46 : decode cX6_takeBack 46 = .ok (.invokevirtual 107, 3) := by decide +kernel
theorem dX6_takeBack_49 : decode cX6_takeBack 49 = .ok (.isub, 1) := by decide +kernel
theorem dX6_takeBack_50 : decode cX6_takeBack 50 = .ok (.ireturn, 1) := by decide +kernel
theorem dX6_told_0 : decode cX6_told 0 = .ok (.aload_n 0, 1) := by decide +kernel
theorem dX6_told_1 : decode cX6_told 1 = .ok (.iconst 0, 1) := by decide +kernel
theorem dX6_told_2 : decode cX6_told 2 = .ok (.putfield 49, 3) := by decide +kernel
theorem dX6_told_5 : decode cX6_told 5 = .ok (.aload_n 0, 1) := by decide +kernel
theorem dX6_told_6 : decode cX6_told 6 = .ok (.getfield 60, 3) := by decide +kernel
theorem dX6_told_9 : decode cX6_told 9 = .ok (.ireturn, 1) := by decide +kernel
set_option maxRecDepth 20000 in
theorem ggX6_price_X6_runs : GoodIn wsX6_price wsX6_runs := goodIn_r _ [7, 2, 8, 9, 10, 11, 12, 13, 14, 15, 16, 17, 6, 18, 19, 20, 21, 22, 23, 24, 25, 26, 27, 28, 29, 30, 31, 32, 33, 34, 35, 36, 37, 38, 39, 40, 49, 50, 51, 52, 53, 54, 55, 56, 57, 58, 59, 60, 61, 62, 63, 64, 65, 66, 67, 68, 69, 70] (by decide +kernel) (by decide +kernel)
set_option maxRecDepth 20000 in
theorem gX6_price_X6_runs : GoodIn wsX6_price (wsV RX6 103 RX6 yX6_runs wsX6_runs) := goodIn_app (goodIn_of _ (by decide +kernel)) ggX6_price_X6_runs
set_option maxRecDepth 20000 in
theorem ggX6_price_X6_isIn : GoodIn wsX6_price wsX6_isIn := goodIn_r _ [43] (by decide +kernel) (by decide +kernel)
set_option maxRecDepth 20000 in
theorem gX6_price_X6_isIn : GoodIn wsX6_price (va_wsS RX6 52 yX6_isIn wsX6_isIn) := goodIn_app (goodIn_of _ (by decide +kernel)) ggX6_price_X6_isIn
set_option maxRecDepth 20000 in
theorem ggX6_price_X6_goes : GoodIn wsX6_price wsX6_goes := goodIn_r _ [47, 48, 49, 50, 51, 52, 53, 54, 55, 56, 57, 58, 59, 60, 61, 62, 63, 64, 65, 66, 67, 68, 69, 70] (by decide +kernel) (by decide +kernel)
set_option maxRecDepth 20000 in
theorem gX6_price_X6_goes : GoodIn wsX6_price (wsV RX6 56 RX6 yX6_goes wsX6_goes) := goodIn_app (goodIn_of _ (by decide +kernel)) ggX6_price_X6_goes
theorem dX6_price_0 : decode cX6_price 0 = .ok (.aload_n 0, 1) := by decide +kernel
theorem dX6_price_1 : decode cX6_price 1 = .ok (.aload_n 0, 1) := by decide +kernel
theorem dX6_price_2 : decode cX6_price 2 = .ok (.getfield 60, 3) := by decide +kernel
theorem dX6_price_5 : decode cX6_price 5 = .ok (.invokevirtual 103, 3) := by decide +kernel
theorem dX6_price_8 : decode cX6_price 8 = .ok (.aload_n 0, 1) := by decide +kernel
theorem dX6_price_9 : decode cX6_price 9 = .ok (.iload_n 1, 1) := by decide +kernel
theorem dX6_price_10 : decode cX6_price 10 = .ok (.iconst 0, 1) := by decide +kernel
theorem dX6_price_11 : decode cX6_price 11 = .ok (.iconst 1, 1) := by decide +kernel
theorem dX6_price_12 : decode cX6_price 12 = .ok (.invokestatic 52, 3) := by decide +kernel
theorem dX6_price_15 : decode cX6_price 15 = .ok (.ifCond .eq 7, 3) := by decide +kernel
theorem dX6_price_18 : decode cX6_price 18 = .ok (.iconst 0, 1) := by decide +kernel
theorem dX6_price_19 : decode cX6_price 19 = .ok (.goto 4, 3) := by decide +kernel
theorem dX6_price_22 : decode cX6_price 22 = .ok (.iconst 1, 1) := by decide +kernel
theorem dX6_price_23 : decode cX6_price 23 = .ok (.invokevirtual 56, 3) := by decide +kernel
theorem dX6_price_26 : decode cX6_price 26 = .ok (.ifCond .eq 12, 3) := by decide +kernel
theorem dX6_price_29 : decode cX6_price 29 = .ok (.aload_n 0, 1) := by decide +kernel
theorem dX6_price_30 : decode cX6_price 30 = .ok (.getfield 42, 3) := by decide +kernel
theorem dX6_price_33 : decode cX6_price 33 = .ok (.iload_n 1, 1) := by decide +kernel
theorem dX6_price_34 : decode cX6_price 34 = .ok (.iaload, 1) := by decide +kernel
theorem dX6_price_35 : decode cX6_price 35 = .ok (.goto 4, 3) := by decide +kernel
theorem dX6_price_38 : decode cX6_price 38 = .ok (.iconst 0, 1) := by decide +kernel
theorem dX6_price_39 : decode cX6_price 39 = .ok (.ireturn, 1) := by decide +kernel
set_option maxRecDepth 20000 in
theorem ggX6_worst_X6_runs : GoodIn wsX6_worst wsX6_runs := goodIn_r _ [7, 8, 9, 10, 11, 12, 13, 14, 15, 16, 17, 18, 6, 19, 20, 21, 22, 23, 24, 25, 26, 27, 28, 29, 30, 31, 32, 33, 34, 35, 36, 37, 38, 39, 40, 41, 42, 43, 44, 45, 46, 47, 48, 49, 50, 51, 52, 53, 54, 55, 56, 57, 58, 59, 60, 61, 62, 63] (by decide +kernel) (by decide +kernel)
set_option maxRecDepth 20000 in
theorem gX6_worst_X6_runs : GoodIn wsX6_worst (wsV RX6 103 RX6 yX6_runs wsX6_runs) := goodIn_app (goodIn_of _ (by decide +kernel)) ggX6_worst_X6_runs
set_option maxRecDepth 20000 in
theorem ggX6_worst_X6_worstNow : GoodIn wsX6_worst wsX6_worstNow := goodIn_r _ [37, 38, 39, 40, 6, 41, 8, 9, 42, 43, 44, 45, 46, 47, 48, 49, 50, 51, 52, 53, 54, 55, 56, 57, 58, 59, 60, 61, 62, 63] (by decide +kernel) (by decide +kernel)
set_option maxRecDepth 20000 in
theorem gX6_worst_X6_worstNow : GoodIn wsX6_worst (wsV RX6 83 RX6 yX6_worstNow wsX6_worstNow) := goodIn_app (goodIn_of _ (by decide +kernel)) ggX6_worst_X6_worstNow
theorem dX6_worst_0 : decode cX6_worst 0 = .ok (.aload_n 0, 1) := by decide +kernel
theorem dX6_worst_1 : decode cX6_worst 1 = .ok (.iconst 0, 1) := by decide +kernel
theorem dX6_worst_2 : decode cX6_worst 2 = .ok (.putfield 49, 3) := by decide +kernel
theorem dX6_worst_5 : decode cX6_worst 5 = .ok (.aload_n 0, 1) := by decide +kernel
theorem dX6_worst_6 : decode cX6_worst 6 = .ok (.aload_n 0, 1) := by decide +kernel
theorem dX6_worst_7 : decode cX6_worst 7 = .ok (.getfield 60, 3) := by decide +kernel
theorem dX6_worst_10 : decode cX6_worst 10 = .ok (.invokevirtual 103, 3) := by decide +kernel
theorem dX6_worst_13 : decode cX6_worst 13 = .ok (.aload_n 0, 1) := by decide +kernel
theorem dX6_worst_14 : decode cX6_worst 14 = .ok (.invokevirtual 83, 3) := by decide +kernel
theorem dX6_worst_17 : decode cX6_worst 17 = .ok (.ireturn, 1) := by decide +kernel
set_option maxRecDepth 20000 in
theorem ggX6_isKnocked_X6_runs : GoodIn wsX6_isKnocked wsX6_runs := goodIn_r _ [8, 9, 10, 11, 3, 12, 13, 14, 15, 16, 17, 18, 7, 19, 20, 21, 22, 23, 24, 25, 26, 27, 28, 29, 30, 31, 32, 33, 34, 35, 36, 37, 38, 39, 40, 41, 42, 43, 44, 45, 46, 47, 48, 49, 50, 51, 52, 53, 54, 55, 56, 57, 58, 59, 60, 61, 62, 63] (by decide +kernel) (by decide +kernel)
set_option maxRecDepth 20000 in
theorem gX6_isKnocked_X6_runs : GoodIn wsX6_isKnocked (wsV RX6 103 RX6 yX6_runs wsX6_runs) := goodIn_app (goodIn_of _ (by decide +kernel)) ggX6_isKnocked_X6_runs
theorem dX6_isKnocked_0 : decode cX6_isKnocked 0 = .ok (.aload_n 0, 1) := by decide +kernel
theorem dX6_isKnocked_1 : decode cX6_isKnocked 1 = .ok (.iconst 0, 1) := by decide +kernel
theorem dX6_isKnocked_2 : decode cX6_isKnocked 2 = .ok (.putfield 49, 3) := by decide +kernel
theorem dX6_isKnocked_5 : decode cX6_isKnocked 5 = .ok (.aload_n 0, 1) := by decide +kernel
theorem dX6_isKnocked_6 : decode cX6_isKnocked 6 = .ok (.aload_n 0, 1) := by decide +kernel
theorem dX6_isKnocked_7 : decode cX6_isKnocked 7 = .ok (.getfield 60, 3) := by decide +kernel
theorem dX6_isKnocked_10 : decode cX6_isKnocked 10 = .ok (.invokevirtual 103, 3) := by decide +kernel
theorem dX6_isKnocked_13 : decode cX6_isKnocked 13 = .ok (.aload_n 0, 1) := by decide +kernel
theorem dX6_isKnocked_14 : decode cX6_isKnocked 14 = .ok (.getfield 87, 3) := by decide +kernel
theorem dX6_isKnocked_17 : decode cX6_isKnocked 17 = .ok (.ireturn, 1) := by decide +kernel
set_option maxRecDepth 20000 in
theorem ggX6_missed_X6_runs : GoodIn wsX6_missed wsX6_runs := goodIn_r _ [8, 9, 10, 3, 11, 12, 13, 14, 15, 16, 17, 18, 7, 19, 20, 21, 22, 23, 24, 25, 26, 27, 28, 29, 30, 31, 32, 33, 34, 35, 36, 37, 38, 39, 40, 41, 42, 43, 44, 45, 46, 47, 48, 49, 50, 51, 52, 53, 54, 55, 56, 57, 58, 59, 60, 61, 62, 63] (by decide +kernel) (by decide +kernel)
set_option maxRecDepth 20000 in
theorem gX6_missed_X6_runs : GoodIn wsX6_missed (wsV RX6 103 RX6 yX6_runs wsX6_runs) := goodIn_app (goodIn_of _ (by decide +kernel)) ggX6_missed_X6_runs
theorem dX6_missed_0 : decode cX6_missed 0 = .ok (.aload_n 0, 1) := by decide +kernel
theorem dX6_missed_1 : decode cX6_missed 1 = .ok (.iconst 0, 1) := by decide +kernel
theorem dX6_missed_2 : decode cX6_missed 2 = .ok (.putfield 49, 3) := by decide +kernel
theorem dX6_missed_5 : decode cX6_missed 5 = .ok (.aload_n 0, 1) := by decide +kernel
theorem dX6_missed_6 : decode cX6_missed 6 = .ok (.aload_n 0, 1) := by decide +kernel
theorem dX6_missed_7 : decode cX6_missed 7 = .ok (.getfield 60, 3) := by decide +kernel
theorem dX6_missed_10 : decode cX6_missed 10 = .ok (.invokevirtual 103, 3) := by decide +kernel
theorem dX6_missed_13 : decode cX6_missed 13 = .ok (.aload_n 0, 1) := by decide +kernel
theorem dX6_missed_14 : decode cX6_missed 14 = .ok (.getfield 93, 3) := by decide +kernel
theorem dX6_missed_17 : decode cX6_missed 17 = .ok (.ireturn, 1) := by decide +kernel
set_option maxRecDepth 20000 in
theorem ggX6_paid_X6_paidBy : GoodIn wsX6_paid wsX6_paidBy := goodIn_r _ [7, 8, 9, 10, 11, 6, 12, 13, 14, 15, 16, 17, 18, 19, 20, 21, 22, 23, 24, 25, 26, 27, 28, 29, 30, 31, 32, 33, 34, 35, 36, 37, 38, 39, 40, 41, 42, 43, 44, 45, 46, 47, 48, 49, 50, 51, 52, 53, 54, 55, 56, 57, 58, 59, 60, 61, 62, 63, 64, 65, 66, 67] (by decide +kernel) (by decide +kernel)
set_option maxRecDepth 20000 in
theorem gX6_paid_X6_paidBy : GoodIn wsX6_paid (wsV RX6 107 RX6 yX6_paidBy wsX6_paidBy) := goodIn_app (goodIn_of _ (by decide +kernel)) ggX6_paid_X6_paidBy
theorem dX6_paid_0 : decode cX6_paid 0 = .ok (.aload_n 0, 1) := by decide +kernel
theorem dX6_paid_1 : decode cX6_paid 1 = .ok (.iconst 0, 1) := by decide +kernel
theorem dX6_paid_2 : decode cX6_paid 2 = .ok (.putfield 49, 3) := by decide +kernel
theorem dX6_paid_5 : decode cX6_paid 5 = .ok (.aload_n 0, 1) := by decide +kernel
theorem dX6_paid_6 : decode cX6_paid 6 = .ok (.aload_n 0, 1) := by decide +kernel
theorem dX6_paid_7 : decode cX6_paid 7 = .ok (.getfield 60, 3) := by decide +kernel
theorem dX6_paid_10 : decode cX6_paid 10 = .ok (.invokevirtual 107, 3) := by decide +kernel
theorem dX6_paid_13 : decode cX6_paid 13 = .ok (.ireturn, 1) := by decide +kernel
set_option maxRecDepth 20000 in
theorem ggX6_isOverNow_X6_runs : GoodIn wsX6_isOverNow wsX6_runs := goodIn_r _ [7, 8, 9, 10, 11, 2, 12, 13, 14, 15, 16, 17, 6, 18, 19, 20, 21, 22, 23, 24, 25, 26, 27, 28, 29, 30, 31, 32, 33, 34, 35, 36, 37, 38, 39, 40, 41, 42, 43, 44, 45, 46, 47, 48, 49, 50, 51, 52, 53, 54, 55, 56, 57, 58, 59, 60, 61, 62] (by decide +kernel) (by decide +kernel)
set_option maxRecDepth 20000 in
theorem gX6_isOverNow_X6_runs : GoodIn wsX6_isOverNow (wsV RX6 103 RX6 yX6_runs wsX6_runs) := goodIn_app (goodIn_of _ (by decide +kernel)) ggX6_isOverNow_X6_runs
theorem dX6_isOverNow_0 : decode cX6_isOverNow 0 = .ok (.aload_n 0, 1) := by decide +kernel
theorem dX6_isOverNow_1 : decode cX6_isOverNow 1 = .ok (.aload_n 0, 1) := by decide +kernel
theorem dX6_isOverNow_2 : decode cX6_isOverNow 2 = .ok (.getfield 60, 3) := by decide +kernel
theorem dX6_isOverNow_5 : decode cX6_isOverNow 5 = .ok (.invokevirtual 103, 3) := by decide +kernel
theorem dX6_isOverNow_8 : decode cX6_isOverNow 8 = .ok (.aload_n 0, 1) := by decide +kernel
theorem dX6_isOverNow_9 : decode cX6_isOverNow 9 = .ok (.getfield 96, 3) := by decide +kernel
theorem dX6_isOverNow_12 : decode cX6_isOverNow 12 = .ok (.ireturn, 1) := by decide +kernel
set_option maxRecDepth 20000 in
theorem ggX6_isOver_X6_isOverNow : GoodIn wsX6_isOver wsX6_isOverNow := goodIn_r _ [6, 7, 8, 9, 10, 11, 5, 12, 13, 14, 15, 16, 17, 18, 19, 20, 21, 22, 23, 24, 25, 26, 27, 28, 29, 30, 31, 32, 33, 34, 35, 36, 37, 38, 39, 40, 41, 42, 43, 44, 45, 46, 47, 48, 49, 50, 51, 52, 53, 54, 55, 56, 57, 58, 59, 60, 61, 62, 63, 64, 65, 66, 67] (by decide +kernel) (by decide +kernel)
set_option maxRecDepth 20000 in
theorem gX6_isOver_X6_isOverNow : GoodIn wsX6_isOver (wsV RX6 110 RX6 yX6_isOverNow wsX6_isOverNow) := goodIn_app (goodIn_of _ (by decide +kernel)) ggX6_isOver_X6_isOverNow
theorem dX6_isOver_0 : decode cX6_isOver 0 = .ok (.aload_n 0, 1) := by decide +kernel
theorem dX6_isOver_1 : decode cX6_isOver 1 = .ok (.iconst 0, 1) := by decide +kernel
theorem dX6_isOver_2 : decode cX6_isOver 2 = .ok (.putfield 49, 3) := by decide +kernel
theorem dX6_isOver_5 : decode cX6_isOver 5 = .ok (.aload_n 0, 1) := by decide +kernel
theorem dX6_isOver_6 : decode cX6_isOver 6 = .ok (.invokevirtual 110, 3) := by decide +kernel
theorem dX6_isOver_9 : decode cX6_isOver 9 = .ok (.ireturn, 1) := by decide +kernel
set_option maxRecDepth 20000 in
theorem ggX6_rows_X6_isOverNow : GoodIn wsX6_rows wsX6_isOverNow := goodIn_r _ [7, 2, 8, 9, 10, 11, 6, 12, 13, 14, 15, 16, 17, 18, 19, 20, 21, 22, 23, 24, 1, 25, 26, 27, 28, 29, 30, 31, 32, 33, 34, 35, 36, 37, 38, 39, 40, 41, 42, 43, 44, 45, 46, 47, 48, 49, 50, 51, 52, 53, 54, 55, 56, 57, 58, 59, 60, 61, 62, 63, 64, 65, 66] (by decide +kernel) (by decide +kernel)
set_option maxRecDepth 20000 in
theorem gX6_rows_X6_isOverNow : GoodIn wsX6_rows (wsV RX6 110 RX6 yX6_isOverNow wsX6_isOverNow) := goodIn_app (goodIn_of _ (by decide +kernel)) ggX6_rows_X6_isOverNow
theorem dX6_rows_0 : decode cX6_rows 0 = .ok (.aload_n 0, 1) := by decide +kernel
theorem dX6_rows_1 : decode cX6_rows 1 = .ok (.invokevirtual 110, 3) := by decide +kernel
theorem dX6_rows_4 : decode cX6_rows 4 = .ok (.ifCond .eq 7, 3) := by decide +kernel
theorem dX6_rows_7 : decode cX6_rows 7 = .ok (.iconst 1, 1) := by decide +kernel
theorem dX6_rows_8 : decode cX6_rows 8 = .ok (.goto 14, 3) := by decide +kernel
theorem dX6_rows_11 : decode cX6_rows 11 = .ok (.iconst 1, 1) := by decide +kernel
theorem dX6_rows_12 : decode cX6_rows 12 = .ok (.aload_n 0, 1) := by decide +kernel
theorem dX6_rows_13 : decode cX6_rows 13 = .ok (.getfield 23, 3) := by decide +kernel
theorem dX6_rows_16 : decode cX6_rows 16 = .ok (.aload_n 0, 1) := by decide +kernel
theorem dX6_rows_17 : decode cX6_rows 17 = .ok (.getfield 60, 3) := by decide +kernel
theorem dX6_rows_20 : decode cX6_rows 20 = .ok (.isub, 1) := by decide +kernel
theorem dX6_rows_21 : decode cX6_rows 21 = .ok (.ishl, 1) := by decide +kernel
theorem dX6_rows_22 : decode cX6_rows 22 = .ok (.ireturn, 1) := by decide +kernel
end
section
set_option maxRecDepth 20000 in
theorem ggX6_weight_X6_runs : GoodIn wsX6_weight wsX6_runs := goodIn_r _ [9, 10, 11, 12, 13, 14, 15, 16, 3, 17, 18, 19, 8, 20, 21, 2, 22, 23, 24, 25, 26, 27, 28, 29, 30, 31, 32, 33, 34, 35, 36, 37, 38, 39, 40, 41, 42, 43, 44, 45, 46, 47, 48, 49, 50, 51, 52, 53, 54, 55, 56, 57, 58, 59, 60, 61, 62, 63] (by decide +kernel) (by decide +kernel)
set_option maxRecDepth 20000 in
theorem gX6_weight_X6_runs : GoodIn wsX6_weight (wsV RX6 103 RX6 yX6_runs wsX6_runs) := goodIn_app (goodIn_of _ (by decide +kernel)) ggX6_weight_X6_runs
theorem dX6_weight_0 : decode cX6_weight 0 = .ok (.lconst 1, 1) := by decide +kernel
theorem dX6_weight_1 : decode cX6_weight 1 = .ok (.lstore_n 2, 1) := by decide +kernel
theorem dX6_weight_2 : decode cX6_weight 2 = .ok (.aload_n 0, 1) := by decide +kernel
theorem dX6_weight_3 : decode cX6_weight 3 = .ok (.getfield 60, 3) := by decide +kernel
theorem dX6_weight_6 : decode cX6_weight 6 = .ok (.istore 4, 2) := by decide +kernel
theorem dX6_weight_8 : decode cX6_weight 8 = .ok (.iload 4, 2) := by decide +kernel
theorem dX6_weight_10 : decode cX6_weight 10 = .ok (.aload_n 0, 1) := by decide +kernel
theorem dX6_weight_11 : decode cX6_weight 11 = .ok (.getfield 23, 3) := by decide +kernel
theorem dX6_weight_14 : decode cX6_weight 14 = .ok (.if_icmp .ge 65, 3) := by decide +kernel
theorem dX6_weight_17 : decode cX6_weight 17 = .ok (.aload_n 0, 1) := by decide +kernel
theorem dX6_weight_18 : decode cX6_weight 18 = .ok (.getfield 38, 3) := by decide +kernel
theorem dX6_weight_21 : decode cX6_weight 21 = .ok (.iload 4, 2) := by decide +kernel
theorem dX6_weight_23 : decode cX6_weight 23 = .ok (.iload_n 1, 1) := by decide +kernel
theorem dX6_weight_24 : decode cX6_weight 24 = .ok (.iload 4, 2) := by decide +kernel
theorem dX6_weight_26 : decode cX6_weight 26 = .ok (.aload_n 0, 1) := by decide +kernel
theorem dX6_weight_27 : decode cX6_weight 27 = .ok (.getfield 60, 3) := by decide +kernel
theorem dX6_weight_30 : decode cX6_weight 30 = .ok (.isub, 1) := by decide +kernel
theorem dX6_weight_31 : decode cX6_weight 31 = .ok (.ishr, 1) := by decide +kernel
theorem dX6_weight_32 : decode cX6_weight 32 = .ok (.iconst 1, 1) := by decide +kernel
theorem dX6_weight_33 : decode cX6_weight 33 = .ok (.iand, 1) := by decide +kernel
theorem dX6_weight_34 : decode cX6_weight 34 = .ok (.iconst 1, 1) := by decide +kernel
theorem dX6_weight_35 : decode cX6_weight 35 = .ok (.if_icmp .ne 7, 3) := by decide +kernel
theorem dX6_weight_38 : decode cX6_weight 38 = .ok (.iconst 1, 1) := by decide +kernel
theorem dX6_weight_39 : decode cX6_weight 39 = .ok (.goto 4, 3) := by decide +kernel
theorem dX6_weight_42 : decode cX6_weight 42 = .ok (.iconst 0, 1) := by decide +kernel
theorem dX6_weight_43 : decode cX6_weight 43 = .ok (.bastore, 1) := by decide +kernel
theorem dX6_weight_44 : decode cX6_weight 44 = .ok (.lload_n 2, 1) := by decide +kernel
theorem dX6_weight_45 : decode cX6_weight 45 = .ok (.aload_n 0, 1) := by decide +kernel
theorem dX6_weight_46 : decode cX6_weight 46 = .ok (.getfield 38, 3) := by decide +kernel
theorem dX6_weight_49 : decode cX6_weight 49 = .ok (.iload 4, 2) := by decide +kernel
theorem dX6_weight_51 : decode cX6_weight 51 = .ok (.baload, 1) := by decide +kernel
theorem dX6_weight_52 : decode cX6_weight 52 = .ok (.ifCond .eq 11, 3) := by decide +kernel
theorem dX6_weight_55 : decode cX6_weight 55 = .ok (.aload_n 0, 1) := by decide +kernel
theorem dX6_weight_56 : decode cX6_weight 56 = .ok (.getfield 19, 3) := by decide +kernel
theorem dX6_weight_59 : decode cX6_weight 59 = .ok (.i2l, 1) := by decide +kernel
theorem dX6_weight_60 : decode cX6_weight 60 = .ok (.goto 11, 3) := by decide +kernel
theorem dX6_weight_63 : decode cX6_weight 63 = .ok (.bipush 10, 2) := by decide +kernel
theorem dX6_weight_65 : decode cX6_weight 65 = .ok (.aload_n 0, 1) := by decide +kernel
theorem dX6_weight_66 : decode cX6_weight 66 = .ok (.getfield 19, 3) := by decide +kernel
theorem dX6_weight_69 : decode cX6_weight 69 = .ok (.isub, 1) := by decide +kernel
theorem dX6_weight_70 : decode cX6_weight 70 = .ok (.i2l, 1) := by decide +kernel
theorem dX6_weight_71 : decode cX6_weight 71 = .ok (.lmul, 1) := by decide +kernel
theorem dX6_weight_72 : decode cX6_weight 72 = .ok (.lstore_n 2, 1) := by decide +kernel
theorem dX6_weight_73 : decode cX6_weight 73 = .ok (.iinc 4 1, 3) := by decide +kernel
theorem dX6_weight_76 : decode cX6_weight 76 = .ok (.goto (-68), 3) := by decide +kernel
theorem dX6_weight_79 : decode cX6_weight 79 = .ok (.aload_n 0, 1) := by decide +kernel
theorem dX6_weight_80 : decode cX6_weight 80 = .ok (.aload_n 0, 1) := by decide +kernel
theorem dX6_weight_81 : decode cX6_weight 81 = .ok (.getfield 23, 3) := by decide +kernel
theorem dX6_weight_84 : decode cX6_weight 84 = .ok (.invokevirtual 103, 3) := by decide +kernel
theorem dX6_weight_87 : decode cX6_weight 87 = .ok (.lload_n 2, 1) := by decide +kernel
theorem dX6_weight_88 : decode cX6_weight 88 = .ok (.lreturn, 1) := by decide +kernel
set_option maxRecDepth 20000 in
theorem ggX6_sum_X6_paidBy : GoodIn wsX6_sum wsX6_paidBy := goodIn_r _ [7, 2, 8, 9, 10, 6, 11, 12, 13, 14, 15, 16, 17, 18, 19, 20, 21, 22, 23, 24, 25, 26, 27, 28, 29, 30, 31, 32, 33, 34, 35, 36, 37, 38, 39, 40, 41, 42, 43, 44, 58, 59, 60, 61, 62, 63, 64, 65, 66, 67, 68, 69, 70, 71, 72, 73, 74, 75, 76, 77, 78, 79] (by decide +kernel) (by decide +kernel)
set_option maxRecDepth 20000 in
theorem gX6_sum_X6_paidBy : GoodIn wsX6_sum (wsV RX6 107 RX6 yX6_paidBy wsX6_paidBy) := goodIn_app (goodIn_of _ (by decide +kernel)) ggX6_sum_X6_paidBy
set_option maxRecDepth 20000 in
theorem ggX6_sum_X6_rows : GoodIn wsX6_sum wsX6_rows := goodIn_r _ [48, 24, 1, 49, 50, 51, 6, 52, 16, 8, 9, 10, 11, 12, 13, 14, 15, 17, 2, 18, 19, 20, 21, 22, 23, 25, 26, 27, 28, 29, 30, 31, 32, 33, 34, 35, 36, 37, 38, 39, 40, 41, 42, 43, 44, 58, 59, 60, 61, 62, 63, 64, 65, 66, 67, 68, 69, 70, 71, 72, 73, 74, 75, 76, 77, 78, 79] (by decide +kernel) (by decide +kernel)
set_option maxRecDepth 20000 in
theorem gX6_sum_X6_rows : GoodIn wsX6_sum (wsV RX6 114 RX6 yX6_rows wsX6_rows) := goodIn_app (goodIn_of _ (by decide +kernel)) ggX6_sum_X6_rows
set_option maxRecDepth 20000 in
theorem ggX6_sum_X6_weight : GoodIn wsX6_sum wsX6_weight := goodIn_r _ [56, 1, 24, 18, 57, 8, 9, 10, 6, 11, 12, 13, 14, 15, 16, 17, 2, 19, 20, 21, 22, 23, 25, 26, 27, 28, 29, 30, 31, 32, 33, 34, 35, 36, 37, 38, 39, 40, 41, 42, 43, 44, 58, 59, 60, 61, 62, 63, 64, 65, 66, 67, 68, 69, 70, 71, 72, 73, 74, 75, 76, 77, 78, 79] (by decide +kernel) (by decide +kernel)
set_option maxRecDepth 20000 in
theorem gX6_sum_X6_weight : GoodIn wsX6_sum (wsV RX6 117 RX6 yX6_weight wsX6_weight) := goodIn_app (goodIn_of _ (by decide +kernel)) ggX6_sum_X6_weight
theorem dX6_sum_0 : decode cX6_sum 0 = .ok (.aload_n 0, 1) := by decide +kernel
theorem dX6_sum_1 : decode cX6_sum 1 = .ok (.aload_n 0, 1) := by decide +kernel
theorem dX6_sum_2 : decode cX6_sum 2 = .ok (.getfield 60, 3) := by decide +kernel
theorem dX6_sum_5 : decode cX6_sum 5 = .ok (.invokevirtual 107, 3) := by decide +kernel
theorem dX6_sum_8 : decode cX6_sum 8 = .ok (.istore_n 1, 1) := by decide +kernel
theorem dX6_sum_9 : decode cX6_sum 9 = .ok (.lconst 0, 1) := by decide +kernel
theorem dX6_sum_10 : decode cX6_sum 10 = .ok (.lstore_n 2, 1) := by decide +kernel
theorem dX6_sum_11 : decode cX6_sum 11 = .ok (.iconst 0, 1) := by decide +kernel
theorem dX6_sum_12 : decode cX6_sum 12 = .ok (.istore 4, 2) := by decide +kernel
theorem dX6_sum_14 : decode cX6_sum 14 = .ok (.iload 4, 2) := by decide +kernel
theorem dX6_sum_16 : decode cX6_sum 16 = .ok (.aload_n 0, 1) := by decide +kernel
theorem dX6_sum_17 : decode cX6_sum 17 = .ok (.invokevirtual 114, 3) := by decide +kernel
theorem dX6_sum_20 : decode cX6_sum 20 = .ok (.if_icmp .ge 26, 3) := by decide +kernel
theorem dX6_sum_23 : decode cX6_sum 23 = .ok (.lload_n 2, 1) := by decide +kernel
theorem dX6_sum_24 : decode cX6_sum 24 = .ok (.aload_n 0, 1) := by decide +kernel
theorem dX6_sum_25 : decode cX6_sum 25 = .ok (.iload 4, 2) := by decide +kernel
theorem dX6_sum_27 : decode cX6_sum 27 = .ok (.invokevirtual 117, 3) := by decide +kernel
theorem dX6_sum_30 : decode cX6_sum 30 = .ok (.aload_n 0, 1) := by decide +kernel
theorem dX6_sum_31 : decode cX6_sum 31 = .ok (.getfield 90, 3) := by decide +kernel
theorem dX6_sum_34 : decode cX6_sum 34 = .ok (.iload_n 1, 1) := by decide +kernel
theorem dX6_sum_35 : decode cX6_sum 35 = .ok (.isub, 1) := by decide +kernel
theorem dX6_sum_36 : decode cX6_sum 36 = .ok (.i2l, 1) := by decide +kernel
theorem dX6_sum_37 : decode cX6_sum 37 = .ok (.lmul, 1) := by decide +kernel
theorem dX6_sum_38 : decode cX6_sum 38 = .ok (.ladd, 1) := by decide +kernel
theorem dX6_sum_39 : decode cX6_sum 39 = .ok (.lstore_n 2, 1) := by decide +kernel
theorem dX6_sum_40 : decode cX6_sum 40 = .ok (.iinc 4 1, 3) := by decide +kernel
theorem dX6_sum_43 : decode cX6_sum 43 = .ok (.goto (-29), 3) := by decide +kernel
theorem dX6_sum_46 : decode cX6_sum 46 = .ok (.lload_n 2, 1) := by decide +kernel
theorem dX6_sum_47 : decode cX6_sum 47 = .ok (.lreturn, 1) := by decide +kernel
set_option maxRecDepth 20000 in
theorem ggX6_worth_X6_isOverNow : GoodIn wsX6_worth wsX6_isOverNow := goodIn_r _ [6, 7, 8, 9, 10, 11, 5, 12, 13, 14, 15, 16, 17, 18, 19, 20, 21, 22, 23, 24, 25, 26, 27, 28, 29, 30, 31, 32, 33, 34, 35, 36, 37, 38, 39, 40, 41, 42, 43, 44, 45, 63, 64, 65, 66, 67, 68, 69, 70, 71, 72, 73, 74, 75, 76, 77, 78, 79, 80, 81, 82, 83, 84] (by decide +kernel) (by decide +kernel)
set_option maxRecDepth 20000 in
theorem gX6_worth_X6_isOverNow : GoodIn wsX6_worth (wsV RX6 110 RX6 yX6_isOverNow wsX6_isOverNow) := goodIn_app (goodIn_of _ (by decide +kernel)) ggX6_worth_X6_isOverNow
set_option maxRecDepth 20000 in
theorem ggX6_worth_X6_sum : GoodIn wsX6_worth wsX6_sum := goodIn_r _ [49, 7, 18, 50, 51, 52, 5, 53, 9, 10, 11, 12, 13, 14, 15, 16, 8, 17, 19, 20, 21, 22, 23, 24, 25, 26, 27, 28, 29, 30, 31, 32, 33, 34, 35, 36, 37, 38, 39, 40, 41, 42, 43, 44, 45, 54, 55, 56, 57, 2, 3, 4, 6, 58, 59, 60, 61, 62, 63, 64, 65, 66, 67, 68, 69, 70, 71, 72, 73, 74, 75, 76, 77, 78, 79, 80, 81, 82, 83, 84] (by decide +kernel) (by decide +kernel)
set_option maxRecDepth 20000 in
theorem gX6_worth_X6_sum : GoodIn wsX6_worth (wsV RX6 121 RX6 yX6_sum wsX6_sum) := goodIn_app (goodIn_of _ (by decide +kernel)) ggX6_worth_X6_sum
theorem dX6_worth_0 : decode cX6_worth 0 = .ok (.aload_n 0, 1) := by decide +kernel
theorem dX6_worth_1 : decode cX6_worth 1 = .ok (.iconst 0, 1) := by decide +kernel
theorem dX6_worth_2 : decode cX6_worth 2 = .ok (.putfield 49, 3) := by decide +kernel
theorem dX6_worth_5 : decode cX6_worth 5 = .ok (.aload_n 0, 1) := by decide +kernel
theorem dX6_worth_6 : decode cX6_worth 6 = .ok (.invokevirtual 110, 3) := by decide +kernel
theorem dX6_worth_9 : decode cX6_worth 9 = .ok (.ifCond .eq 7, 3) := by decide +kernel
theorem dX6_worth_12 : decode cX6_worth 12 = .ok (.lconst 0, 1) := by decide +kernel
theorem dX6_worth_13 : decode cX6_worth 13 = .ok (.goto 7, 3) := by decide +kernel
theorem dX6_worth_16 : decode cX6_worth 16 = .ok (.aload_n 0, 1) := by decide +kernel
theorem dX6_worth_17 : decode cX6_worth 17 = .ok (.invokevirtual 121, 3) := by decide +kernel
theorem dX6_worth_20 : decode cX6_worth 20 = .ok (.lreturn, 1) := by decide +kernel
set_option maxRecDepth 20000 in
theorem ggX6_worthByPaths_X6_isOverNow : GoodIn wsX6_worthByPaths wsX6_isOverNow := goodIn_r _ [6, 7, 8, 9, 10, 11, 5, 12, 13, 14, 15, 16, 17, 18, 19, 20, 21, 22, 23, 24, 25, 26, 27, 28, 29, 30, 31, 32, 33, 34, 35, 36, 37, 38, 39, 40, 41, 42, 43, 44, 45, 63, 64, 65, 66, 67, 68, 69, 70, 71, 72, 73, 74, 75, 76, 77, 78, 79, 80, 81, 82, 83, 84] (by decide +kernel) (by decide +kernel)
set_option maxRecDepth 20000 in
theorem gX6_worthByPaths_X6_isOverNow : GoodIn wsX6_worthByPaths (wsV RX6 110 RX6 yX6_isOverNow wsX6_isOverNow) := goodIn_app (goodIn_of _ (by decide +kernel)) ggX6_worthByPaths_X6_isOverNow
set_option maxRecDepth 20000 in
theorem ggX6_worthByPaths_X6_sum : GoodIn wsX6_worthByPaths wsX6_sum := goodIn_r _ [49, 7, 18, 50, 51, 52, 5, 53, 9, 10, 11, 12, 13, 14, 15, 16, 8, 17, 19, 20, 21, 22, 23, 24, 25, 26, 27, 28, 29, 30, 31, 32, 33, 34, 35, 36, 37, 38, 39, 40, 41, 42, 43, 44, 45, 54, 55, 56, 57, 2, 3, 4, 6, 58, 59, 60, 61, 62, 63, 64, 65, 66, 67, 68, 69, 70, 71, 72, 73, 74, 75, 76, 77, 78, 79, 80, 81, 82, 83, 84] (by decide +kernel) (by decide +kernel)
set_option maxRecDepth 20000 in
theorem gX6_worthByPaths_X6_sum : GoodIn wsX6_worthByPaths (wsV RX6 121 RX6 yX6_sum wsX6_sum) := goodIn_app (goodIn_of _ (by decide +kernel)) ggX6_worthByPaths_X6_sum
theorem dX6_worthByPaths_0 : decode cX6_worthByPaths 0 = .ok (.aload_n 0, 1) := by decide +kernel
theorem dX6_worthByPaths_1 : decode cX6_worthByPaths 1 = .ok (.iconst 0, 1) := by decide +kernel
theorem dX6_worthByPaths_2 : decode cX6_worthByPaths 2 = .ok (.putfield 49, 3) := by decide +kernel
theorem dX6_worthByPaths_5 : decode cX6_worthByPaths 5 = .ok (.aload_n 0, 1) := by decide +kernel
theorem dX6_worthByPaths_6 : decode cX6_worthByPaths 6 = .ok (.invokevirtual 110, 3) := by decide +kernel
theorem dX6_worthByPaths_9 : decode cX6_worthByPaths 9 = .ok (.ifCond .eq 7, 3) := by decide +kernel
theorem dX6_worthByPaths_12 : decode cX6_worthByPaths 12 = .ok (.lconst 0, 1) := by decide +kernel
theorem dX6_worthByPaths_13 : decode cX6_worthByPaths 13 = .ok (.goto 7, 3) := by decide +kernel
theorem dX6_worthByPaths_16 : decode cX6_worthByPaths 16 = .ok (.aload_n 0, 1) := by decide +kernel
theorem dX6_worthByPaths_17 : decode cX6_worthByPaths 17 = .ok (.invokevirtual 121, 3) := by decide +kernel
theorem dX6_worthByPaths_20 : decode cX6_worthByPaths 20 = .ok (.lreturn, 1) := by decide +kernel
set_option maxRecDepth 20000 in
theorem ggX6_divisor_X6_isOverNow : GoodIn wsX6_divisor wsX6_isOverNow := goodIn_r _ [9, 2, 10, 11, 12, 13, 8, 14, 15, 16, 17, 18, 19, 20, 21, 22, 23, 24, 25, 26, 3, 27, 28, 29, 30, 31, 32, 33, 34, 35, 36, 37, 38, 39, 40, 41, 42, 43, 44, 45, 46, 47, 48, 49, 50, 51, 52, 53, 54, 55, 56, 57, 58, 59, 60, 61, 62, 63, 64, 65, 66, 67, 68] (by decide +kernel) (by decide +kernel)
set_option maxRecDepth 20000 in
theorem gX6_divisor_X6_isOverNow : GoodIn wsX6_divisor (wsV RX6 110 RX6 yX6_isOverNow wsX6_isOverNow) := goodIn_app (goodIn_of _ (by decide +kernel)) ggX6_divisor_X6_isOverNow
theorem dX6_divisor_0 : decode cX6_divisor 0 = .ok (.aload_n 0, 1) := by decide +kernel
theorem dX6_divisor_1 : decode cX6_divisor 1 = .ok (.iconst 0, 1) := by decide +kernel
theorem dX6_divisor_2 : decode cX6_divisor 2 = .ok (.putfield 49, 3) := by decide +kernel
theorem dX6_divisor_5 : decode cX6_divisor 5 = .ok (.lconst 1, 1) := by decide +kernel
theorem dX6_divisor_6 : decode cX6_divisor 6 = .ok (.lstore_n 1, 1) := by decide +kernel
theorem dX6_divisor_7 : decode cX6_divisor 7 = .ok (.aload_n 0, 1) := by decide +kernel
theorem dX6_divisor_8 : decode cX6_divisor 8 = .ok (.getfield 60, 3) := by decide +kernel
theorem dX6_divisor_11 : decode cX6_divisor 11 = .ok (.istore_n 3, 1) := by decide +kernel
theorem dX6_divisor_12 : decode cX6_divisor 12 = .ok (.iload_n 3, 1) := by decide +kernel
theorem dX6_divisor_13 : decode cX6_divisor 13 = .ok (.aload_n 0, 1) := by decide +kernel
theorem dX6_divisor_14 : decode cX6_divisor 14 = .ok (.getfield 23, 3) := by decide +kernel
theorem dX6_divisor_17 : decode cX6_divisor 17 = .ok (.if_icmp .ge 22, 3) := by decide +kernel
theorem dX6_divisor_20 : decode cX6_divisor 20 = .ok (.aload_n 0, 1) := by decide +kernel
theorem dX6_divisor_21 : decode cX6_divisor 21 = .ok (.invokevirtual 110, 3) := by decide +kernel
theorem dX6_divisor_24 : decode cX6_divisor 24 = .ok (.ifCond .ne 15, 3) := by decide +kernel
theorem dX6_divisor_27 : decode cX6_divisor 27 = .ok (.lload_n 1, 1) := by decide +kernel
theorem dX6_divisor_28 : decode cX6_divisor 28 = .ok (.ldc2_w 125, 3) := by decide +kernel
theorem dX6_divisor_31 : decode cX6_divisor 31 = .ok (.lmul, 1) := by decide +kernel
theorem dX6_divisor_32 : decode cX6_divisor 32 = .ok (.lstore_n 1, 1) := by decide +kernel
theorem dX6_divisor_33 : decode cX6_divisor 33 = .ok (.iinc 3 1, 3) := by decide +kernel
theorem dX6_divisor_36 : decode cX6_divisor 36 = .ok (.goto (-24), 3) := by decide +kernel
theorem dX6_divisor_39 : decode cX6_divisor 39 = .ok (.lload_n 1, 1) := by decide +kernel
theorem dX6_divisor_40 : decode cX6_divisor 40 = .ok (.lreturn, 1) := by decide +kernel
set_option maxRecDepth 20000 in
theorem ggX6_states_X6_isOverNow : GoodIn wsX6_states wsX6_isOverNow := goodIn_r _ [12, 13, 14, 15, 16, 17, 11, 18, 2, 19, 3, 4, 5, 20, 21, 22, 23, 24, 25, 26, 6, 27, 28, 29, 30, 31, 32, 33, 34, 35, 36, 37, 38, 39, 40, 41, 42, 43, 44, 45, 46, 56, 57, 58, 59, 60, 61, 62, 63, 64, 65, 66, 67, 68, 69, 70, 71, 72, 73, 74, 75, 76, 77] (by decide +kernel) (by decide +kernel)
set_option maxRecDepth 20000 in
theorem gX6_states_X6_isOverNow : GoodIn wsX6_states (wsV RX6 110 RX6 yX6_isOverNow wsX6_isOverNow) := goodIn_app (goodIn_of _ (by decide +kernel)) ggX6_states_X6_isOverNow
set_option maxRecDepth 20000 in
theorem ggX6_states_X6_rows : GoodIn wsX6_states wsX6_rows := goodIn_r _ [50, 6, 13, 8, 9, 10, 11, 12, 14, 15, 16, 17, 18, 2, 19, 3, 4, 5, 20, 21, 22, 23, 24, 25, 26, 27, 28, 29, 30, 31, 32, 33, 34, 35, 36, 37, 38, 39, 40, 41, 42, 43, 44, 45, 46, 56, 57, 58, 59, 60, 61, 62, 63, 64, 65, 66, 67, 68, 69, 70, 71, 72, 73, 74, 75, 76, 77] (by decide +kernel) (by decide +kernel)
set_option maxRecDepth 20000 in
theorem gX6_states_X6_rows : GoodIn wsX6_states (wsV RX6 114 RX6 yX6_rows wsX6_rows) := goodIn_app (goodIn_of _ (by decide +kernel)) ggX6_states_X6_rows
set_option maxRecDepth 20000 in
theorem ggX6_states_X6_weight : GoodIn wsX6_states wsX6_weight := goodIn_r _ [54, 13, 6, 21, 55, 15, 16, 17, 11, 18, 2, 19, 3, 4, 14, 5, 20, 22, 23, 24, 25, 26, 27, 28, 29, 30, 31, 32, 33, 34, 35, 36, 37, 38, 39, 40, 41, 42, 43, 44, 45, 46, 56, 57, 58, 59, 60, 61, 62, 63, 64, 65, 66, 67, 68, 69, 70, 71, 72, 73, 74, 75, 76, 77] (by decide +kernel) (by decide +kernel)
set_option maxRecDepth 20000 in
theorem gX6_states_X6_weight : GoodIn wsX6_states (wsV RX6 117 RX6 yX6_weight wsX6_weight) := goodIn_app (goodIn_of _ (by decide +kernel)) ggX6_states_X6_weight
theorem dX6_states_0 : decode cX6_states 0 = .ok (.aload_n 0, 1) := by decide +kernel
theorem dX6_states_1 : decode cX6_states 1 = .ok (.iconst 0, 1) := by decide +kernel
theorem dX6_states_2 : decode cX6_states 2 = .ok (.putfield 49, 3) := by decide +kernel
theorem dX6_states_5 : decode cX6_states 5 = .ok (.aload_n 0, 1) := by decide +kernel
theorem dX6_states_6 : decode cX6_states 6 = .ok (.invokevirtual 110, 3) := by decide +kernel
theorem dX6_states_9 : decode cX6_states 9 = .ok (.ifCond .eq 5, 3) := by decide +kernel
theorem dX6_states_12 : decode cX6_states 12 = .ok (.iconst 1, 1) := by decide +kernel
theorem dX6_states_13 : decode cX6_states 13 = .ok (.ireturn, 1) := by decide +kernel
theorem dX6_states_14 : decode cX6_states 14 = .ok (.iconst 0, 1) := by decide +kernel
theorem dX6_states_15 : decode cX6_states 15 = .ok (.istore_n 1, 1) := by decide +kernel
theorem dX6_states_16 : decode cX6_states 16 = .ok (.iconst 0, 1) := by decide +kernel
theorem dX6_states_17 : decode cX6_states 17 = .ok (.istore_n 2, 1) := by decide +kernel
theorem dX6_states_18 : decode cX6_states 18 = .ok (.iload_n 2, 1) := by decide +kernel
theorem dX6_states_19 : decode cX6_states 19 = .ok (.aload_n 0, 1) := by decide +kernel
theorem dX6_states_20 : decode cX6_states 20 = .ok (.invokevirtual 114, 3) := by decide +kernel
theorem dX6_states_23 : decode cX6_states 23 = .ok (.if_icmp .ge 145, 3) := by decide +kernel
theorem dX6_states_26 : decode cX6_states 26 = .ok (.aload_n 0, 1) := by decide +kernel
theorem dX6_states_27 : decode cX6_states 27 = .ok (.iload_n 2, 1) := by decide +kernel
theorem dX6_states_28 : decode cX6_states 28 = .ok (.invokevirtual 117, 3) := by decide +kernel
theorem dX6_states_31 : decode cX6_states 31 = .ok (.pop2, 1) := by decide +kernel
theorem dX6_states_32 : decode cX6_states 32 = .ok (.aload_n 0, 1) := by decide +kernel
theorem dX6_states_33 : decode cX6_states 33 = .ok (.getfield 42, 3) := by decide +kernel
theorem dX6_states_36 : decode cX6_states 36 = .ok (.iconst 0, 1) := by decide +kernel
theorem dX6_states_37 : decode cX6_states 37 = .ok (.iaload, 1) := by decide +kernel
theorem dX6_states_38 : decode cX6_states 38 = .ok (.i2l, 1) := by decide +kernel
theorem dX6_states_39 : decode cX6_states 39 = .ok (.bipush 40, 2) := by decide +kernel
theorem dX6_states_41 : decode cX6_states 41 = .ok (.lshl, 1) := by decide +kernel
theorem dX6_states_42 : decode cX6_states 42 = .ok (.aload_n 0, 1) := by decide +kernel
theorem dX6_states_43 : decode cX6_states 43 = .ok (.getfield 42, 3) := by decide +kernel
theorem dX6_states_46 : decode cX6_states 46 = .ok (.iconst 1, 1) := by decide +kernel
theorem dX6_states_47 : decode cX6_states 47 = .ok (.iaload, 1) := by decide +kernel
theorem dX6_states_48 : decode cX6_states 48 = .ok (.i2l, 1) := by decide +kernel
theorem dX6_states_49 : decode cX6_states 49 = .ok (.bipush 16, 2) := by decide +kernel
theorem dX6_states_51 : decode cX6_states 51 = .ok (.lshl, 1) := by decide +kernel
theorem dX6_states_52 : decode cX6_states 52 = .ok (.lor, 1) := by decide +kernel
theorem dX6_states_53 : decode cX6_states 53 = .ok (.aload_n 0, 1) := by decide +kernel
theorem dX6_states_54 : decode cX6_states 54 = .ok (.getfield 93, 3) := by decide +kernel
theorem dX6_states_57 : decode cX6_states 57 = .ok (.iconst 4, 1) := by decide +kernel
theorem dX6_states_58 : decode cX6_states 58 = .ok (.ishl, 1) := by decide +kernel
theorem dX6_states_59 : decode cX6_states 59 = .ok (.i2l, 1) := by decide +kernel
theorem dX6_states_60 : decode cX6_states 60 = .ok (.lor, 1) := by decide +kernel
theorem dX6_states_61 : decode cX6_states 61 = .ok (.aload_n 0, 1) := by decide +kernel
theorem dX6_states_62 : decode cX6_states 62 = .ok (.getfield 87, 3) := by decide +kernel
theorem dX6_states_65 : decode cX6_states 65 = .ok (.ifCond .eq 7, 3) := by decide +kernel
theorem dX6_states_68 : decode cX6_states 68 = .ok (.iconst 1, 1) := by decide +kernel
theorem dX6_states_69 : decode cX6_states 69 = .ok (.goto 4, 3) := by decide +kernel
theorem dX6_states_72 : decode cX6_states 72 = .ok (.iconst 0, 1) := by decide +kernel
theorem dX6_states_73 : decode cX6_states 73 = .ok (.i2l, 1) := by decide +kernel
theorem dX6_states_74 : decode cX6_states 74 = .ok (.lor, 1) := by decide +kernel
theorem dX6_states_75 : decode cX6_states 75 = .ok (.lstore_n 3, 1) := by decide +kernel
theorem dX6_states_76 : decode cX6_states 76 = .ok (.aload_n 0, 1) := by decide +kernel
theorem dX6_states_77 : decode cX6_states 77 = .ok (.getfield 80, 3) := by decide +kernel
theorem dX6_states_80 : decode cX6_states 80 = .ok (.aload_n 0, 1) := by decide +kernel
theorem dX6_states_81 : decode cX6_states 81 = .ok (.getfield 23, 3) := by decide +kernel
theorem dX6_states_84 : decode cX6_states 84 = .ok (.if_icmp .ne 7, 3) := by decide +kernel
theorem dX6_states_87 : decode cX6_states 87 = .ok (.iconst 1, 1) := by decide +kernel
theorem dX6_states_88 : decode cX6_states 88 = .ok (.goto 4, 3) := by decide +kernel
theorem dX6_states_91 : decode cX6_states 91 = .ok (.iconst 0, 1) := by decide +kernel
theorem dX6_states_92 : decode cX6_states 92 = .ok (.istore 5, 2) := by decide +kernel
theorem dX6_states_94 : decode cX6_states 94 = .ok (.iconst 0, 1) := by decide +kernel
theorem dX6_states_95 : decode cX6_states 95 = .ok (.istore 6, 2) := by decide +kernel
theorem dX6_states_97 : decode cX6_states 97 = .ok (.iload 6, 2) := by decide +kernel
theorem dX6_states_99 : decode cX6_states 99 = .ok (.iload_n 1, 1) := by decide +kernel
theorem dX6_states_100 : decode cX6_states 100 = .ok (.if_icmp .ge 33, 3) := by decide +kernel
theorem dX6_states_103 : decode cX6_states 103 = .ok (.iload 5, 2) := by decide +kernel
theorem dX6_states_105 : decode cX6_states 105 = .ok (.ifCond .eq 19, 3) := by decide +kernel
theorem dX6_states_108 : decode cX6_states 108 = .ok (.aload_n 0, 1) := by decide +kernel
theorem dX6_states_109 : decode cX6_states 109 = .ok (.getfield 45, 3) := by decide +kernel
theorem dX6_states_112 : decode cX6_states 112 = .ok (.iload 6, 2) := by decide +kernel
theorem dX6_states_114 : decode cX6_states 114 = .ok (.laload, 1) := by decide +kernel
theorem dX6_states_115 : decode cX6_states 115 = .ok (.lload_n 3, 1) := by decide +kernel
theorem dX6_states_116 : decode cX6_states 116 = .ok (.lcmp, 1) := by decide +kernel
theorem dX6_states_117 : decode cX6_states 117 = .ok (.ifCond .eq 7, 3) := by decide +kernel
theorem dX6_states_120 : decode cX6_states 120 = .ok (.iconst 1, 1) := by decide +kernel
theorem dX6_states_121 : decode cX6_states 121 = .ok (.goto 4, 3) := by decide +kernel
theorem dX6_states_124 : decode cX6_states 124 = .ok (.iconst 0, 1) := by decide +kernel
theorem dX6_states_125 : decode cX6_states 125 = .ok (.istore 5, 2) := by decide +kernel
theorem dX6_states_127 : decode cX6_states 127 = .ok (.iinc 6 1, 3) := by decide +kernel
theorem dX6_states_130 : decode cX6_states 130 = .ok (.goto (-33), 3) := by decide +kernel
theorem dX6_states_133 : decode cX6_states 133 = .ok (.aload_n 0, 1) := by decide +kernel
theorem dX6_states_134 : decode cX6_states 134 = .ok (.getfield 45, 3) := by decide +kernel
theorem dX6_states_137 : decode cX6_states 137 = .ok (.iload_n 1, 1) := by decide +kernel
theorem dX6_states_138 : decode cX6_states 138 = .ok (.iload 5, 2) := by decide +kernel
theorem dX6_states_140 : decode cX6_states 140 = .ok (.ifCond .eq 7, 3) := by decide +kernel
theorem dX6_states_143 : decode cX6_states 143 = .ok (.lload_n 3, 1) := by decide +kernel
theorem dX6_states_144 : decode cX6_states 144 = .ok (.goto 4, 3) := by decide +kernel
theorem dX6_states_147 : decode cX6_states 147 = .ok (.lconst 0, 1) := by decide +kernel
theorem dX6_states_148 : decode cX6_states 148 = .ok (.lastore, 1) := by decide +kernel
theorem dX6_states_149 : decode cX6_states 149 = .ok (.iload_n 1, 1) := by decide +kernel
theorem dX6_states_150 : decode cX6_states 150 = .ok (.iload 5, 2) := by decide +kernel
theorem dX6_states_152 : decode cX6_states 152 = .ok (.ifCond .eq 7, 3) := by decide +kernel
theorem dX6_states_155 : decode cX6_states 155 = .ok (.iconst 1, 1) := by decide +kernel
theorem dX6_states_156 : decode cX6_states 156 = .ok (.goto 4, 3) := by decide +kernel
theorem dX6_states_159 : decode cX6_states 159 = .ok (.iconst 0, 1) := by decide +kernel
theorem dX6_states_160 : decode cX6_states 160 = .ok (.iadd, 1) := by decide +kernel
theorem dX6_states_161 : decode cX6_states 161 = .ok (.istore_n 1, 1) := by decide +kernel
theorem dX6_states_162 : decode cX6_states 162 = .ok (.iinc 2 1, 3) := by decide +kernel
theorem dX6_states_165 : decode cX6_states 165 = .ok (.goto (-147), 3) := by decide +kernel
theorem dX6_states_168 : decode cX6_states 168 = .ok (.iload_n 1, 1) := by decide +kernel
theorem dX6_states_169 : decode cX6_states 169 = .ok (.ireturn, 1) := by decide +kernel
set_option maxRecDepth 20000 in
theorem ggX6_extreme_X6_paidBy : GoodIn wsX6_extreme wsX6_paidBy := goodIn_r _ [7, 2, 8, 9, 10, 6, 11, 12, 13, 14, 15, 16, 17, 18, 19, 20, 21, 22, 23, 24, 25, 26, 27, 28, 29, 30, 31, 32, 33, 34, 35, 36, 37, 38, 39, 40, 41, 42, 43, 44, 58, 59, 60, 61, 62, 63, 64, 65, 66, 67, 68, 69, 70, 71, 72, 73, 74, 75, 76, 77, 78, 79] (by decide +kernel) (by decide +kernel)
set_option maxRecDepth 20000 in
theorem gX6_extreme_X6_paidBy : GoodIn wsX6_extreme (wsV RX6 107 RX6 yX6_paidBy wsX6_paidBy) := goodIn_app (goodIn_of _ (by decide +kernel)) ggX6_extreme_X6_paidBy
set_option maxRecDepth 20000 in
theorem ggX6_extreme_X6_rows : GoodIn wsX6_extreme wsX6_rows := goodIn_r _ [48, 24, 1, 49, 50, 51, 6, 52, 16, 8, 9, 10, 11, 12, 13, 14, 15, 17, 2, 18, 19, 20, 21, 22, 23, 25, 26, 27, 28, 29, 30, 31, 32, 33, 34, 35, 36, 37, 38, 39, 40, 41, 42, 43, 44, 58, 59, 60, 61, 62, 63, 64, 65, 66, 67, 68, 69, 70, 71, 72, 73, 74, 75, 76, 77, 78, 79] (by decide +kernel) (by decide +kernel)
set_option maxRecDepth 20000 in
theorem gX6_extreme_X6_rows : GoodIn wsX6_extreme (wsV RX6 114 RX6 yX6_rows wsX6_rows) := goodIn_app (goodIn_of _ (by decide +kernel)) ggX6_extreme_X6_rows
set_option maxRecDepth 20000 in
theorem ggX6_extreme_X6_weight : GoodIn wsX6_extreme wsX6_weight := goodIn_r _ [56, 1, 24, 18, 57, 8, 9, 10, 6, 11, 12, 13, 14, 15, 16, 17, 2, 19, 20, 21, 22, 23, 25, 26, 27, 28, 29, 30, 31, 32, 33, 34, 35, 36, 37, 38, 39, 40, 41, 42, 43, 44, 58, 59, 60, 61, 62, 63, 64, 65, 66, 67, 68, 69, 70, 71, 72, 73, 74, 75, 76, 77, 78, 79] (by decide +kernel) (by decide +kernel)
set_option maxRecDepth 20000 in
theorem gX6_extreme_X6_weight : GoodIn wsX6_extreme (wsV RX6 117 RX6 yX6_weight wsX6_weight) := goodIn_app (goodIn_of _ (by decide +kernel)) ggX6_extreme_X6_weight
theorem dX6_extreme_0 : decode cX6_extreme 0 = .ok (.aload_n 0, 1) := by decide +kernel
theorem dX6_extreme_1 : decode cX6_extreme 1 = .ok (.aload_n 0, 1) := by decide +kernel
theorem dX6_extreme_2 : decode cX6_extreme 2 = .ok (.getfield 60, 3) := by decide +kernel
theorem dX6_extreme_5 : decode cX6_extreme 5 = .ok (.invokevirtual 107, 3) := by decide +kernel
theorem dX6_extreme_8 : decode cX6_extreme 8 = .ok (.istore_n 2, 1) := by decide +kernel
theorem dX6_extreme_9 : decode cX6_extreme 9 = .ok (.iconst (-1), 1) := by decide +kernel
theorem dX6_extreme_10 : decode cX6_extreme 10 = .ok (.istore_n 3, 1) := by decide +kernel
theorem dX6_extreme_11 : decode cX6_extreme 11 = .ok (.iconst 0, 1) := by decide +kernel
theorem dX6_extreme_12 : decode cX6_extreme 12 = .ok (.istore 4, 2) := by decide +kernel
theorem dX6_extreme_14 : decode cX6_extreme 14 = .ok (.iload 4, 2) := by decide +kernel
theorem dX6_extreme_16 : decode cX6_extreme 16 = .ok (.aload_n 0, 1) := by decide +kernel
theorem dX6_extreme_17 : decode cX6_extreme 17 = .ok (.invokevirtual 114, 3) := by decide +kernel
theorem dX6_extreme_20 : decode cX6_extreme 20 = .ok (.if_icmp .ge 55, 3) := by decide +kernel
theorem dX6_extreme_23 : decode cX6_extreme 23 = .ok (.aload_n 0, 1) := by decide +kernel
theorem dX6_extreme_24 : decode cX6_extreme 24 = .ok (.iload 4, 2) := by decide +kernel
theorem dX6_extreme_26 : decode cX6_extreme 26 = .ok (.invokevirtual 117, 3) := by decide +kernel
theorem dX6_extreme_29 : decode cX6_extreme 29 = .ok (.pop2, 1) := by decide +kernel
theorem dX6_extreme_30 : decode cX6_extreme 30 = .ok (.aload_n 0, 1) := by decide +kernel
theorem dX6_extreme_31 : decode cX6_extreme 31 = .ok (.getfield 90, 3) := by decide +kernel
theorem dX6_extreme_34 : decode cX6_extreme 34 = .ok (.iload_n 2, 1) := by decide +kernel
theorem dX6_extreme_35 : decode cX6_extreme 35 = .ok (.isub, 1) := by decide +kernel
theorem dX6_extreme_36 : decode cX6_extreme 36 = .ok (.istore 5, 2) := by decide +kernel
theorem dX6_extreme_38 : decode cX6_extreme 38 = .ok (.iload_n 3, 1) := by decide +kernel
theorem dX6_extreme_39 : decode cX6_extreme 39 = .ok (.iconst (-1), 1) := by decide +kernel
theorem dX6_extreme_40 : decode cX6_extreme 40 = .ok (.if_icmp .eq 22, 3) := by decide +kernel
theorem dX6_extreme_43 : decode cX6_extreme 43 = .ok (.iload_n 1, 1) := by decide +kernel
theorem dX6_extreme_44 : decode cX6_extreme 44 = .ok (.ifCond .eq 12, 3) := by decide +kernel
theorem dX6_extreme_47 : decode cX6_extreme 47 = .ok (.iload 5, 2) := by decide +kernel
theorem dX6_extreme_49 : decode cX6_extreme 49 = .ok (.iload_n 3, 1) := by decide +kernel
theorem dX6_extreme_50 : decode cX6_extreme 50 = .ok (.if_icmp .le 17, 3) := by decide +kernel
theorem dX6_extreme_53 : decode cX6_extreme 53 = .ok (.goto 9, 3) := by decide +kernel
theorem dX6_extreme_56 : decode cX6_extreme 56 = .ok (.iload 5, 2) := by decide +kernel
theorem dX6_extreme_58 : decode cX6_extreme 58 = .ok (.iload_n 3, 1) := by decide +kernel
theorem dX6_extreme_59 : decode cX6_extreme 59 = .ok (.if_icmp .ge 8, 3) := by decide +kernel
theorem dX6_extreme_62 : decode cX6_extreme 62 = .ok (.iload 5, 2) := by decide +kernel
theorem dX6_extreme_64 : decode cX6_extreme 64 = .ok (.goto 4, 3) := by decide +kernel
theorem dX6_extreme_67 : decode cX6_extreme 67 = .ok (.iload_n 3, 1) := by decide +kernel
theorem dX6_extreme_68 : decode cX6_extreme 68 = .ok (.istore_n 3, 1) := by decide +kernel
theorem dX6_extreme_69 : decode cX6_extreme 69 = .ok (.iinc 4 1, 3) := by decide +kernel
theorem dX6_extreme_72 : decode cX6_extreme 72 = .ok (.goto (-58), 3) := by decide +kernel
theorem dX6_extreme_75 : decode cX6_extreme 75 = .ok (.iload_n 3, 1) := by decide +kernel
theorem dX6_extreme_76 : decode cX6_extreme 76 = .ok (.ireturn, 1) := by decide +kernel
set_option maxRecDepth 20000 in
theorem ggX6_least_X6_isOverNow : GoodIn wsX6_least wsX6_isOverNow := goodIn_r _ [6, 7, 8, 9, 10, 11, 5, 12, 13, 14, 15, 16, 17, 18, 19, 20, 21, 22, 23, 24, 25, 26, 27, 28, 29, 30, 31, 32, 33, 34, 35, 36, 37, 38, 39, 40, 41, 42, 43, 44, 45, 63, 64, 65, 66, 67, 68, 69, 70, 71, 72, 73, 74, 75, 76, 77, 78, 79, 80, 81, 82, 83, 84] (by decide +kernel) (by decide +kernel)
set_option maxRecDepth 20000 in
theorem gX6_least_X6_isOverNow : GoodIn wsX6_least (wsV RX6 110 RX6 yX6_isOverNow wsX6_isOverNow) := goodIn_app (goodIn_of _ (by decide +kernel)) ggX6_least_X6_isOverNow
set_option maxRecDepth 20000 in
theorem ggX6_least_X6_extreme : GoodIn wsX6_least wsX6_extreme := goodIn_r _ [49, 7, 18, 50, 51, 52, 5, 53, 9, 10, 11, 12, 13, 14, 15, 16, 8, 17, 19, 20, 21, 22, 23, 24, 25, 26, 27, 28, 29, 30, 31, 32, 33, 34, 35, 36, 37, 38, 39, 40, 41, 42, 43, 44, 45, 54, 55, 56, 57, 2, 3, 4, 6, 58, 59, 60, 61, 62, 63, 64, 65, 66, 67, 68, 69, 70, 71, 72, 73, 74, 75, 76, 77, 78, 79, 80, 81, 82, 83, 84] (by decide +kernel) (by decide +kernel)
set_option maxRecDepth 20000 in
theorem gX6_least_X6_extreme : GoodIn wsX6_least (wsV RX6 127 RX6 yX6_extreme wsX6_extreme) := goodIn_app (goodIn_of _ (by decide +kernel)) ggX6_least_X6_extreme
theorem dX6_least_0 : decode cX6_least 0 = .ok (.aload_n 0, 1) := by decide +kernel
theorem dX6_least_1 : decode cX6_least 1 = .ok (.iconst 0, 1) := by decide +kernel
theorem dX6_least_2 : decode cX6_least 2 = .ok (.putfield 49, 3) := by decide +kernel
theorem dX6_least_5 : decode cX6_least 5 = .ok (.aload_n 0, 1) := by decide +kernel
theorem dX6_least_6 : decode cX6_least 6 = .ok (.invokevirtual 110, 3) := by decide +kernel
theorem dX6_least_9 : decode cX6_least 9 = .ok (.ifCond .eq 7, 3) := by decide +kernel
theorem dX6_least_12 : decode cX6_least 12 = .ok (.iconst 0, 1) := by decide +kernel
theorem dX6_least_13 : decode cX6_least 13 = .ok (.goto 8, 3) := by decide +kernel
theorem dX6_least_16 : decode cX6_least 16 = .ok (.aload_n 0, 1) := by decide +kernel
theorem dX6_least_17 : decode cX6_least 17 = .ok (.iconst 0, 1) := by decide +kernel
theorem dX6_least_18 : decode cX6_least 18 = .ok (.invokevirtual 127, 3) := by decide +kernel
theorem dX6_least_21 : decode cX6_least 21 = .ok (.ireturn, 1) := by decide +kernel
set_option maxRecDepth 20000 in
theorem ggX6_most_X6_isOverNow : GoodIn wsX6_most wsX6_isOverNow := goodIn_r _ [6, 7, 8, 9, 10, 11, 5, 12, 13, 14, 15, 16, 17, 18, 19, 20, 21, 22, 23, 24, 25, 26, 27, 28, 29, 30, 31, 32, 33, 34, 35, 36, 37, 38, 39, 40, 41, 42, 43, 44, 45, 63, 64, 65, 66, 67, 68, 69, 70, 71, 72, 73, 74, 75, 76, 77, 78, 79, 80, 81, 82, 83, 84] (by decide +kernel) (by decide +kernel)
set_option maxRecDepth 20000 in
theorem gX6_most_X6_isOverNow : GoodIn wsX6_most (wsV RX6 110 RX6 yX6_isOverNow wsX6_isOverNow) := goodIn_app (goodIn_of _ (by decide +kernel)) ggX6_most_X6_isOverNow
set_option maxRecDepth 20000 in
theorem ggX6_most_X6_extreme : GoodIn wsX6_most wsX6_extreme := goodIn_r _ [49, 7, 18, 50, 51, 52, 5, 53, 9, 10, 11, 12, 13, 14, 15, 16, 8, 17, 19, 20, 21, 22, 23, 24, 25, 26, 27, 28, 29, 30, 31, 32, 33, 34, 35, 36, 37, 38, 39, 40, 41, 42, 43, 44, 45, 54, 55, 56, 57, 2, 3, 4, 6, 58, 59, 60, 61, 62, 63, 64, 65, 66, 67, 68, 69, 70, 71, 72, 73, 74, 75, 76, 77, 78, 79, 80, 81, 82, 83, 84] (by decide +kernel) (by decide +kernel)
set_option maxRecDepth 20000 in
theorem gX6_most_X6_extreme : GoodIn wsX6_most (wsV RX6 127 RX6 yX6_extreme wsX6_extreme) := goodIn_app (goodIn_of _ (by decide +kernel)) ggX6_most_X6_extreme
theorem dX6_most_0 : decode cX6_most 0 = .ok (.aload_n 0, 1) := by decide +kernel
theorem dX6_most_1 : decode cX6_most 1 = .ok (.iconst 0, 1) := by decide +kernel
theorem dX6_most_2 : decode cX6_most 2 = .ok (.putfield 49, 3) := by decide +kernel
theorem dX6_most_5 : decode cX6_most 5 = .ok (.aload_n 0, 1) := by decide +kernel
theorem dX6_most_6 : decode cX6_most 6 = .ok (.invokevirtual 110, 3) := by decide +kernel
theorem dX6_most_9 : decode cX6_most 9 = .ok (.ifCond .eq 7, 3) := by decide +kernel
theorem dX6_most_12 : decode cX6_most 12 = .ok (.iconst 0, 1) := by decide +kernel
theorem dX6_most_13 : decode cX6_most 13 = .ok (.goto 8, 3) := by decide +kernel
theorem dX6_most_16 : decode cX6_most 16 = .ok (.aload_n 0, 1) := by decide +kernel
theorem dX6_most_17 : decode cX6_most 17 = .ok (.iconst 1, 1) := by decide +kernel
theorem dX6_most_18 : decode cX6_most 18 = .ok (.invokevirtual 127, 3) := by decide +kernel
theorem dX6_most_21 : decode cX6_most 21 = .ok (.ireturn, 1) := by decide +kernel
set_option maxRecDepth 20000 in
theorem ggX6_endsIn_X6_isIn : GoodIn wsX6_endsIn wsX6_isIn := goodIn_r _ [7] (by decide +kernel) (by decide +kernel)
set_option maxRecDepth 20000 in
theorem gX6_endsIn_X6_isIn : GoodIn wsX6_endsIn (va_wsS RX6 52 yX6_isIn wsX6_isIn) := goodIn_app (goodIn_of _ (by decide +kernel)) ggX6_endsIn_X6_isIn
set_option maxRecDepth 20000 in
theorem ggX6_endsIn_X6_goes : GoodIn wsX6_endsIn wsX6_goes := goodIn_r _ [11, 12, 62, 63, 64, 65, 66, 67, 68, 69, 70, 71, 72, 73, 74, 75, 76, 77, 78, 79, 80, 81, 82, 83] (by decide +kernel) (by decide +kernel)
set_option maxRecDepth 20000 in
theorem gX6_endsIn_X6_goes : GoodIn wsX6_endsIn (wsV RX6 56 RX6 yX6_goes wsX6_goes) := goodIn_app (goodIn_of _ (by decide +kernel)) ggX6_endsIn_X6_goes
set_option maxRecDepth 20000 in
theorem ggX6_endsIn_X6_rows : GoodIn wsX6_endsIn wsX6_rows := goodIn_r _ [16, 1, 2, 17, 18, 19, 6, 20, 21, 22, 23, 24, 25, 26, 27, 28, 29, 3, 30, 31, 32, 33, 34, 35, 36, 37, 38, 39, 40, 41, 42, 43, 44, 45, 46, 47, 48, 49, 50, 51, 52, 53, 54, 55, 56, 62, 63, 64, 65, 66, 67, 68, 69, 70, 71, 72, 73, 74, 75, 76, 77, 78, 79, 80, 81, 82, 83] (by decide +kernel) (by decide +kernel)
set_option maxRecDepth 20000 in
theorem gX6_endsIn_X6_rows : GoodIn wsX6_endsIn (wsV RX6 114 RX6 yX6_rows wsX6_rows) := goodIn_app (goodIn_of _ (by decide +kernel)) ggX6_endsIn_X6_rows
set_option maxRecDepth 20000 in
theorem ggX6_endsIn_X6_isOverNow : GoodIn wsX6_endsIn wsX6_isOverNow := goodIn_r _ [20, 2, 21, 22, 23, 24, 6, 25, 26, 27, 28, 29, 3, 30, 31, 32, 33, 34, 35, 36, 1, 37, 38, 39, 40, 41, 42, 43, 44, 45, 46, 47, 48, 49, 50, 51, 52, 53, 54, 55, 56, 62, 63, 64, 65, 66, 67, 68, 69, 70, 71, 72, 73, 74, 75, 76, 77, 78, 79, 80, 81, 82, 83] (by decide +kernel) (by decide +kernel)
set_option maxRecDepth 20000 in
theorem gX6_endsIn_X6_isOverNow : GoodIn wsX6_endsIn (wsV RX6 110 RX6 yX6_isOverNow wsX6_isOverNow) := goodIn_app (goodIn_of _ (by decide +kernel)) ggX6_endsIn_X6_isOverNow
set_option maxRecDepth 20000 in
theorem ggX6_endsIn_X6_weight : GoodIn wsX6_endsIn wsX6_weight := goodIn_r _ [60, 2, 1, 31, 61, 22, 23, 24, 6, 25, 26, 27, 28, 29, 21, 3, 30, 32, 33, 34, 35, 36, 37, 38, 39, 40, 41, 42, 43, 44, 45, 46, 47, 48, 49, 50, 51, 52, 53, 54, 55, 56, 62, 63, 64, 65, 66, 67, 68, 69, 70, 71, 72, 73, 74, 75, 76, 77, 78, 79, 80, 81, 82, 83] (by decide +kernel) (by decide +kernel)
set_option maxRecDepth 20000 in
theorem gX6_endsIn_X6_weight : GoodIn wsX6_endsIn (wsV RX6 117 RX6 yX6_weight wsX6_weight) := goodIn_app (goodIn_of _ (by decide +kernel)) ggX6_endsIn_X6_weight
theorem dX6_endsIn_0 : decode cX6_endsIn 0 = .ok (.aload_n 0, 1) := by decide +kernel
theorem dX6_endsIn_1 : decode cX6_endsIn 1 = .ok (.iload_n 1, 1) := by decide +kernel
theorem dX6_endsIn_2 : decode cX6_endsIn 2 = .ok (.iconst 1, 1) := by decide +kernel
theorem dX6_endsIn_3 : decode cX6_endsIn 3 = .ok (.aload_n 0, 1) := by decide +kernel
theorem dX6_endsIn_4 : decode cX6_endsIn 4 = .ok (.getfield 23, 3) := by decide +kernel
theorem dX6_endsIn_7 : decode cX6_endsIn 7 = .ok (.invokestatic 52, 3) := by decide +kernel
theorem dX6_endsIn_10 : decode cX6_endsIn 10 = .ok (.ifCond .eq 7, 3) := by decide +kernel
theorem dX6_endsIn_13 : decode cX6_endsIn 13 = .ok (.iconst 0, 1) := by decide +kernel
theorem dX6_endsIn_14 : decode cX6_endsIn 14 = .ok (.goto 4, 3) := by decide +kernel
theorem dX6_endsIn_17 : decode cX6_endsIn 17 = .ok (.iconst 1, 1) := by decide +kernel
theorem dX6_endsIn_18 : decode cX6_endsIn 18 = .ok (.invokevirtual 56, 3) := by decide +kernel
theorem dX6_endsIn_21 : decode cX6_endsIn 21 = .ok (.ifCond .ne 5, 3) := by decide +kernel
theorem dX6_endsIn_24 : decode cX6_endsIn 24 = .ok (.lconst 0, 1) := by decide +kernel
theorem dX6_endsIn_25 : decode cX6_endsIn 25 = .ok (.lreturn, 1) := by decide +kernel
theorem dX6_endsIn_26 : decode cX6_endsIn 26 = .ok (.lconst 0, 1) := by decide +kernel
theorem dX6_endsIn_27 : decode cX6_endsIn 27 = .ok (.lstore_n 2, 1) := by decide +kernel
theorem dX6_endsIn_28 : decode cX6_endsIn 28 = .ok (.iconst 0, 1) := by decide +kernel
theorem dX6_endsIn_29 : decode cX6_endsIn 29 = .ok (.istore 4, 2) := by decide +kernel
theorem dX6_endsIn_31 : decode cX6_endsIn 31 = .ok (.iload 4, 2) := by decide +kernel
theorem dX6_endsIn_33 : decode cX6_endsIn 33 = .ok (.aload_n 0, 1) := by decide +kernel
theorem dX6_endsIn_34 : decode cX6_endsIn 34 = .ok (.invokevirtual 114, 3) := by decide +kernel
theorem dX6_endsIn_37 : decode cX6_endsIn 37 = .ok (.if_icmp .ge 49, 3) := by decide +kernel
theorem dX6_endsIn_40 : decode cX6_endsIn 40 = .ok (.iload_n 1, 1) := by decide +kernel
theorem dX6_endsIn_41 : decode cX6_endsIn 41 = .ok (.aload_n 0, 1) := by decide +kernel
theorem dX6_endsIn_42 : decode cX6_endsIn 42 = .ok (.getfield 60, 3) := by decide +kernel
theorem dX6_endsIn_45 : decode cX6_endsIn 45 = .ok (.if_icmp .le 41, 3) := by decide +kernel
theorem dX6_endsIn_48 : decode cX6_endsIn 48 = .ok (.aload_n 0, 1) := by decide +kernel
theorem dX6_endsIn_49 : decode cX6_endsIn 49 = .ok (.invokevirtual 110, 3) := by decide +kernel
theorem dX6_endsIn_52 : decode cX6_endsIn 52 = .ok (.ifCond .ne 34, 3) := by decide +kernel
theorem dX6_endsIn_55 : decode cX6_endsIn 55 = .ok (.aload_n 0, 1) := by decide +kernel
theorem dX6_endsIn_56 : decode cX6_endsIn 56 = .ok (.iload 4, 2) := by decide +kernel
theorem dX6_endsIn_58 : decode cX6_endsIn 58 = .ok (.invokevirtual 117, 3) := by decide +kernel
theorem dX6_endsIn_61 : decode cX6_endsIn 61 = .ok (.lstore 5, 2) := by decide +kernel
theorem dX6_endsIn_63 : decode cX6_endsIn 63 = .ok (.lload_n 2, 1) := by decide +kernel
theorem dX6_endsIn_64 : decode cX6_endsIn 64 = .ok (.aload_n 0, 1) := by decide +kernel
theorem dX6_endsIn_65 : decode cX6_endsIn 65 = .ok (.getfield 80, 3) := by decide +kernel
theorem dX6_endsIn_68 : decode cX6_endsIn 68 = .ok (.iload_n 1, 1) := by decide +kernel
theorem dX6_endsIn_69 : decode cX6_endsIn 69 = .ok (.if_icmp .ne 8, 3) := by decide +kernel
theorem dX6_endsIn_72 : decode cX6_endsIn 72 = .ok (.lload 5, 2) := by decide +kernel
theorem dX6_endsIn_74 : decode cX6_endsIn 74 = .ok (.goto 4, 3) := by decide +kernel
theorem dX6_endsIn_77 : decode cX6_endsIn 77 = .ok (.lconst 0, 1) := by decide +kernel
theorem dX6_endsIn_78 : decode cX6_endsIn 78 = .ok (.ladd, 1) := by decide +kernel
theorem dX6_endsIn_79 : decode cX6_endsIn 79 = .ok (.lstore_n 2, 1) := by decide +kernel
theorem dX6_endsIn_80 : decode cX6_endsIn 80 = .ok (.iinc 4 1, 3) := by decide +kernel
theorem dX6_endsIn_83 : decode cX6_endsIn 83 = .ok (.goto (-52), 3) := by decide +kernel
theorem dX6_endsIn_86 : decode cX6_endsIn 86 = .ok (.lload_n 2, 1) := by decide +kernel
theorem dX6_endsIn_87 : decode cX6_endsIn 87 = .ok (.lreturn, 1) := by decide +kernel
set_option maxRecDepth 20000 in
theorem ggX6_knocks_X6_isOverNow : GoodIn wsX6_knocks wsX6_isOverNow := goodIn_r _ [7, 8, 9, 10, 11, 12, 6, 13, 14, 15, 16, 2, 17, 18, 19, 20, 21, 22, 23, 24, 25, 26, 27, 28, 29, 30, 31, 32, 33, 34, 35, 36, 37, 38, 39, 40, 41, 42, 43, 44, 45, 55, 56, 57, 58, 59, 60, 61, 62, 63, 64, 65, 66, 67, 68, 69, 70, 71, 72, 73, 74, 75, 76] (by decide +kernel) (by decide +kernel)
set_option maxRecDepth 20000 in
theorem gX6_knocks_X6_isOverNow : GoodIn wsX6_knocks (wsV RX6 110 RX6 yX6_isOverNow wsX6_isOverNow) := goodIn_app (goodIn_of _ (by decide +kernel)) ggX6_knocks_X6_isOverNow
set_option maxRecDepth 20000 in
theorem ggX6_knocks_X6_rows : GoodIn wsX6_knocks wsX6_rows := goodIn_r _ [49, 25, 8, 3, 4, 5, 6, 7, 9, 10, 11, 12, 13, 14, 15, 16, 2, 17, 18, 19, 20, 21, 22, 23, 24, 26, 27, 28, 29, 30, 31, 32, 33, 34, 35, 36, 37, 38, 39, 40, 41, 42, 43, 44, 45, 55, 56, 57, 58, 59, 60, 61, 62, 63, 64, 65, 66, 67, 68, 69, 70, 71, 72, 73, 74, 75, 76] (by decide +kernel) (by decide +kernel)
set_option maxRecDepth 20000 in
theorem gX6_knocks_X6_rows : GoodIn wsX6_knocks (wsV RX6 114 RX6 yX6_rows wsX6_rows) := goodIn_app (goodIn_of _ (by decide +kernel)) ggX6_knocks_X6_rows
set_option maxRecDepth 20000 in
theorem ggX6_knocks_X6_weight : GoodIn wsX6_knocks wsX6_weight := goodIn_r _ [53, 8, 25, 19, 54, 10, 11, 12, 6, 13, 14, 15, 16, 2, 9, 17, 18, 20, 21, 22, 23, 24, 26, 27, 28, 29, 30, 31, 32, 33, 34, 35, 36, 37, 38, 39, 40, 41, 42, 43, 44, 45, 55, 56, 57, 58, 59, 60, 61, 62, 63, 64, 65, 66, 67, 68, 69, 70, 71, 72, 73, 74, 75, 76] (by decide +kernel) (by decide +kernel)
set_option maxRecDepth 20000 in
theorem gX6_knocks_X6_weight : GoodIn wsX6_knocks (wsV RX6 117 RX6 yX6_weight wsX6_weight) := goodIn_app (goodIn_of _ (by decide +kernel)) ggX6_knocks_X6_weight
theorem dX6_knocks_0 : decode cX6_knocks 0 = .ok (.aload_n 0, 1) := by decide +kernel
theorem dX6_knocks_1 : decode cX6_knocks 1 = .ok (.iconst 0, 1) := by decide +kernel
theorem dX6_knocks_2 : decode cX6_knocks 2 = .ok (.putfield 49, 3) := by decide +kernel
theorem dX6_knocks_5 : decode cX6_knocks 5 = .ok (.aload_n 0, 1) := by decide +kernel
theorem dX6_knocks_6 : decode cX6_knocks 6 = .ok (.invokevirtual 110, 3) := by decide +kernel
theorem dX6_knocks_9 : decode cX6_knocks 9 = .ok (.ifCond .eq 16, 3) := by decide +kernel
theorem dX6_knocks_12 : decode cX6_knocks 12 = .ok (.aload_n 0, 1) := by decide +kernel
theorem dX6_knocks_13 : decode cX6_knocks 13 = .ok (.getfield 87, 3) := by decide +kernel
theorem dX6_knocks_16 : decode cX6_knocks 16 = .ok (.ifCond .eq 7, 3) := by decide +kernel
theorem dX6_knocks_19 : decode cX6_knocks 19 = .ok (.lconst 1, 1) := by decide +kernel
theorem dX6_knocks_20 : decode cX6_knocks 20 = .ok (.goto 4, 3) := by decide +kernel
theorem dX6_knocks_23 : decode cX6_knocks 23 = .ok (.lconst 0, 1) := by decide +kernel
theorem dX6_knocks_24 : decode cX6_knocks 24 = .ok (.lreturn, 1) := by decide +kernel
theorem dX6_knocks_25 : decode cX6_knocks 25 = .ok (.lconst 0, 1) := by decide +kernel
theorem dX6_knocks_26 : decode cX6_knocks 26 = .ok (.lstore_n 1, 1) := by decide +kernel
theorem dX6_knocks_27 : decode cX6_knocks 27 = .ok (.iconst 0, 1) := by decide +kernel
theorem dX6_knocks_28 : decode cX6_knocks 28 = .ok (.istore_n 3, 1) := by decide +kernel
theorem dX6_knocks_29 : decode cX6_knocks 29 = .ok (.iload_n 3, 1) := by decide +kernel
theorem dX6_knocks_30 : decode cX6_knocks 30 = .ok (.aload_n 0, 1) := by decide +kernel
theorem dX6_knocks_31 : decode cX6_knocks 31 = .ok (.invokevirtual 114, 3) := by decide +kernel
theorem dX6_knocks_34 : decode cX6_knocks 34 = .ok (.if_icmp .ge 32, 3) := by decide +kernel
theorem dX6_knocks_37 : decode cX6_knocks 37 = .ok (.aload_n 0, 1) := by decide +kernel
theorem dX6_knocks_38 : decode cX6_knocks 38 = .ok (.iload_n 3, 1) := by decide +kernel
theorem dX6_knocks_39 : decode cX6_knocks 39 = .ok (.invokevirtual 117, 3) := by decide +kernel
theorem dX6_knocks_42 : decode cX6_knocks 42 = .ok (.lstore 4, 2) := by decide +kernel
theorem dX6_knocks_44 : decode cX6_knocks 44 = .ok (.lload_n 1, 1) := by decide +kernel
theorem dX6_knocks_45 : decode cX6_knocks 45 = .ok (.aload_n 0, 1) := by decide +kernel
theorem dX6_knocks_46 : decode cX6_knocks 46 = .ok (.getfield 87, 3) := by decide +kernel
theorem dX6_knocks_49 : decode cX6_knocks 49 = .ok (.ifCond .eq 8, 3) := by decide +kernel
theorem dX6_knocks_52 : decode cX6_knocks 52 = .ok (.lload 4, 2) := by decide +kernel
theorem dX6_knocks_54 : decode cX6_knocks 54 = .ok (.goto 4, 3) := by decide +kernel
theorem dX6_knocks_57 : decode cX6_knocks 57 = .ok (.lconst 0, 1) := by decide +kernel
theorem dX6_knocks_58 : decode cX6_knocks 58 = .ok (.ladd, 1) := by decide +kernel
theorem dX6_knocks_59 : decode cX6_knocks 59 = .ok (.lstore_n 1, 1) := by decide +kernel
theorem dX6_knocks_60 : decode cX6_knocks 60 = .ok (.iinc 3 1, 3) := by decide +kernel
theorem dX6_knocks_63 : decode cX6_knocks 63 = .ok (.goto (-34), 3) := by decide +kernel
theorem dX6_knocks_66 : decode cX6_knocks 66 = .ok (.lload_n 1, 1) := by decide +kernel
theorem dX6_knocks_67 : decode cX6_knocks 67 = .ok (.lreturn, 1) := by decide +kernel
theorem dJ9_max_7cf53_0 : decode cJ9_max_7cf53 0 = .ok (.iload_n 0, 1) := by decide +kernel
theorem dJ9_max_7cf53_1 : decode cJ9_max_7cf53 1 = .ok (.iload_n 1, 1) := by decide +kernel
theorem dJ9_max_7cf53_2 : decode cJ9_max_7cf53 2 = .ok (.if_icmp .lt 7, 3) := by decide +kernel
theorem dJ9_max_7cf53_5 : decode cJ9_max_7cf53 5 = .ok (.iload_n 0, 1) := by decide +kernel
theorem dJ9_max_7cf53_6 : decode cJ9_max_7cf53 6 = .ok (.goto 4, 3) := by decide +kernel
theorem dJ9_max_7cf53_9 : decode cJ9_max_7cf53 9 = .ok (.iload_n 1, 1) := by decide +kernel
theorem dJ9_max_7cf53_10 : decode cJ9_max_7cf53 10 = .ok (.ireturn, 1) := by decide +kernel
theorem dJ9_min_7cf53_0 : decode cJ9_min_7cf53 0 = .ok (.iload_n 0, 1) := by decide +kernel
theorem dJ9_min_7cf53_1 : decode cJ9_min_7cf53 1 = .ok (.iload_n 1, 1) := by decide +kernel
theorem dJ9_min_7cf53_2 : decode cJ9_min_7cf53 2 = .ok (.if_icmp .gt 7, 3) := by decide +kernel
theorem dJ9_min_7cf53_5 : decode cJ9_min_7cf53 5 = .ok (.iload_n 0, 1) := by decide +kernel
theorem dJ9_min_7cf53_6 : decode cJ9_min_7cf53 6 = .ok (.goto 4, 3) := by decide +kernel
theorem dJ9_min_7cf53_9 : decode cJ9_min_7cf53 9 = .ok (.iload_n 1, 1) := by decide +kernel
theorem dJ9_min_7cf53_10 : decode cJ9_min_7cf53 10 = .ok (.ireturn, 1) := by decide +kernel
set_option maxRecDepth 20000 in
theorem ggL_setAsset_X5_setAsset : GoodIn wsL_setAsset wsX5_setAsset := goodIn_ca (goodIn_ca (goodIn_r _ [7, 8, 9, 10, 11, 12, 13, 14, 15, 16, 17, 18, 19, 20, 6, 21, 22, 23, 24, 25, 26, 27, 28, 29, 30, 31, 32, 33, 34, 35, 36, 37, 38, 39, 40, 41, 42, 43, 44, 45, 46, 47, 48, 49, 50, 51, 52, 53, 54, 55, 56, 57, 58, 59, 60, 61, 62, 63, 64, 65, 66, 67] (by decide +kernel) (by decide +kernel)) (goodIn_sub (fun _ h => List.mem_cons_of_mem _ (List.mem_append_left _ (List.mem_append_right _ h))) (by decide +kernel))) (goodIn_sub (fun _ h => List.mem_cons_of_mem _ (List.mem_append_right _ h)) (by decide +kernel))
set_option maxRecDepth 20000 in
theorem gL_setAsset_X5_setAsset : GoodIn wsL_setAsset (wsV RL 7 RX5 yX5_setAsset wsX5_setAsset) := goodIn_app (goodIn_of _ (by decide +kernel)) ggL_setAsset_X5_setAsset
theorem dL_setAsset_0 : decode cL_setAsset 0 = .ok (.aload_n 0, 1) := by decide +kernel
theorem dL_setAsset_1 : decode cL_setAsset 1 = .ok (.iload_n 1, 1) := by decide +kernel
theorem dL_setAsset_2 : decode cL_setAsset 2 = .ok (.iload_n 2, 1) := by decide +kernel
theorem dL_setAsset_3 : decode cL_setAsset 3 = .ok (.iload_n 3, 1) := by decide +kernel
theorem dL_setAsset_4 : decode cL_setAsset 4 = .ok (.iload 4, 2) := by decide +kernel
theorem dL_setAsset_6 : decode cL_setAsset 6 = .ok (.invokevirtual 7, 3) := by decide +kernel
theorem dL_setAsset_9 : decode cL_setAsset 9 = .ok (.goto 11, 3) := by decide +kernel
theorem dL_setAsset_12 : decode cL_setAsset 12 = .ok (.astore 5, 2) := by decide +kernel
theorem dL_setAsset_14 : decode cL_setAsset 14 = .ok (.iconst 1, 1) := by decide +kernel
theorem dL_setAsset_15 : decode cL_setAsset 15 = .ok (.ireturn, 1) := by decide +kernel
theorem dL_setAsset_16 : decode cL_setAsset 16 = .ok (.astore 5, 2) := by decide +kernel
theorem dL_setAsset_18 : decode cL_setAsset 18 = .ok (.iconst 2, 1) := by decide +kernel
theorem dL_setAsset_19 : decode cL_setAsset 19 = .ok (.ireturn, 1) := by decide +kernel
theorem dL_setAsset_20 : decode cL_setAsset 20 = .ok (.iconst 0, 1) := by decide +kernel
theorem dL_setAsset_21 : decode cL_setAsset 21 = .ok (.ireturn, 1) := by decide +kernel
set_option maxRecDepth 20000 in
theorem ggL_setMoves_X5_setMoves : GoodIn wsL_setMoves wsX5_setMoves := goodIn_ca (goodIn_r _ [6, 7, 8, 9, 10, 11, 12, 13, 14, 5, 15, 16, 17, 18, 19, 20, 21, 22, 23, 24, 25, 26, 27, 28, 29, 30, 31, 32, 33, 34, 35, 36, 37, 38, 39, 40, 41, 42, 43, 44, 45, 46, 47, 48, 49, 50, 51, 52, 53, 54, 55, 56, 57, 58] (by decide +kernel) (by decide +kernel)) (goodIn_sub (fun _ h => List.mem_cons_of_mem _ (List.mem_append_right _ h)) (by decide +kernel))
set_option maxRecDepth 20000 in
theorem gL_setMoves_X5_setMoves : GoodIn wsL_setMoves (wsV RL 17 RX5 yX5_setMoves wsX5_setMoves) := goodIn_app (goodIn_of _ (by decide +kernel)) ggL_setMoves_X5_setMoves
theorem dL_setMoves_0 : decode cL_setMoves 0 = .ok (.aload_n 0, 1) := by decide +kernel
theorem dL_setMoves_1 : decode cL_setMoves 1 = .ok (.iload_n 1, 1) := by decide +kernel
theorem dL_setMoves_2 : decode cL_setMoves 2 = .ok (.iload_n 2, 1) := by decide +kernel
theorem dL_setMoves_3 : decode cL_setMoves 3 = .ok (.invokevirtual 17, 3) := by decide +kernel
theorem dL_setMoves_6 : decode cL_setMoves 6 = .ok (.goto 6, 3) := by decide +kernel
theorem dL_setMoves_9 : decode cL_setMoves 9 = .ok (.astore_n 3, 1) := by decide +kernel
theorem dL_setMoves_10 : decode cL_setMoves 10 = .ok (.iconst 1, 1) := by decide +kernel
theorem dL_setMoves_11 : decode cL_setMoves 11 = .ok (.ireturn, 1) := by decide +kernel
theorem dL_setMoves_12 : decode cL_setMoves 12 = .ok (.iconst 0, 1) := by decide +kernel
theorem dL_setMoves_13 : decode cL_setMoves 13 = .ok (.ireturn, 1) := by decide +kernel
set_option maxRecDepth 20000 in
theorem ggL_setNote_X5_setNote : GoodIn wsL_setNote wsX5_setNote := goodIn_ca (goodIn_r _ [6, 7, 8, 9, 10, 11, 12, 13, 14, 15, 16, 17, 5, 18, 19, 20, 21, 22, 23, 24, 25, 26, 27, 28, 29, 30, 31, 32, 33, 34, 35, 36, 37, 38, 39, 40, 41, 42, 43, 44, 45, 46, 47, 48, 49, 50, 51, 52, 53, 54, 55, 56, 57, 58, 59, 60, 61] (by decide +kernel) (by decide +kernel)) (goodIn_sub (fun _ h => List.mem_cons_of_mem _ (List.mem_append_right _ h)) (by decide +kernel))
set_option maxRecDepth 20000 in
theorem gL_setNote_X5_setNote : GoodIn wsL_setNote (wsV RL 21 RX5 yX5_setNote wsX5_setNote) := goodIn_app (goodIn_of _ (by decide +kernel)) ggL_setNote_X5_setNote
theorem dL_setNote_0 : decode cL_setNote 0 = .ok (.aload_n 0, 1) := by decide +kernel
theorem dL_setNote_1 : decode cL_setNote 1 = .ok (.iload_n 1, 1) := by decide +kernel
theorem dL_setNote_2 : decode cL_setNote 2 = .ok (.iload_n 2, 1) := by decide +kernel
theorem dL_setNote_3 : decode cL_setNote 3 = .ok (.iload_n 3, 1) := by decide +kernel
theorem dL_setNote_4 : decode cL_setNote 4 = .ok (.iload 4, 2) := by decide +kernel
theorem dL_setNote_6 : decode cL_setNote 6 = .ok (.iload 5, 2) := by decide +kernel
theorem dL_setNote_8 : decode cL_setNote 8 = .ok (.invokevirtual 21, 3) := by decide +kernel
theorem dL_setNote_11 : decode cL_setNote 11 = .ok (.goto 7, 3) := by decide +kernel
theorem dL_setNote_14 : decode cL_setNote 14 = .ok (.astore 6, 2) := by decide +kernel
theorem dL_setNote_16 : decode cL_setNote 16 = .ok (.iconst 1, 1) := by decide +kernel
theorem dL_setNote_17 : decode cL_setNote 17 = .ok (.ireturn, 1) := by decide +kernel
theorem dL_setNote_18 : decode cL_setNote 18 = .ok (.iconst 0, 1) := by decide +kernel
theorem dL_setNote_19 : decode cL_setNote 19 = .ok (.ireturn, 1) := by decide +kernel
set_option maxRecDepth 20000 in
theorem ggL_tell_X5_tell : GoodIn wsL_tell wsX5_tell := goodIn_ca (goodIn_r _ [6, 7, 8, 9, 10, 11, 12, 13, 14, 15, 16, 17, 18, 19, 20, 21, 22, 23, 24, 25, 26, 27, 28, 29, 30, 31, 32, 33, 34, 35, 36, 37, 38, 39, 40, 41, 42, 43, 44, 45, 46, 47, 48, 49, 50, 51, 52, 53, 54, 55, 56, 57, 58, 59, 60, 61, 62, 63, 64, 65, 66, 67, 68, 69, 70, 71, 72, 73, 74, 75, 76, 77, 78, 79, 80, 81, 82, 83, 84, 85, 86, 87, 88, 89, 90, 91, 92, 93, 94, 95] (by decide +kernel) (by decide +kernel)) (goodIn_sub (fun _ h => List.mem_cons_of_mem _ (List.mem_append_right _ h)) (by decide +kernel))
set_option maxRecDepth 20000 in
theorem gL_tell_X5_tell : GoodIn wsL_tell (wsV RL 25 RX5 yX5_tell wsX5_tell) := goodIn_app (goodIn_of _ (by decide +kernel)) ggL_tell_X5_tell
theorem dL_tell_0 : decode cL_tell 0 = .ok (.aload_n 2, 1) := by decide +kernel
theorem dL_tell_1 : decode cL_tell 1 = .ok (.iconst 0, 1) := by decide +kernel
theorem dL_tell_2 : decode cL_tell 2 = .ok (.aload_n 0, 1) := by decide +kernel
theorem dL_tell_3 : decode cL_tell 3 = .ok (.iload_n 1, 1) := by decide +kernel
theorem dL_tell_4 : decode cL_tell 4 = .ok (.invokevirtual 25, 3) := by decide +kernel
theorem dL_tell_7 : decode cL_tell 7 = .ok (.i2l, 1) := by decide +kernel
theorem dL_tell_8 : decode cL_tell 8 = .ok (.lastore, 1) := by decide +kernel
theorem dL_tell_9 : decode cL_tell 9 = .ok (.goto 6, 3) := by decide +kernel
theorem dL_tell_12 : decode cL_tell 12 = .ok (.astore_n 3, 1) := by decide +kernel
theorem dL_tell_13 : decode cL_tell 13 = .ok (.iconst 1, 1) := by decide +kernel
theorem dL_tell_14 : decode cL_tell 14 = .ok (.ireturn, 1) := by decide +kernel
theorem dL_tell_15 : decode cL_tell 15 = .ok (.iconst 0, 1) := by decide +kernel
theorem dL_tell_16 : decode cL_tell 16 = .ok (.ireturn, 1) := by decide +kernel
set_option maxRecDepth 20000 in
theorem ggL_takeBack_X5_takeBack : GoodIn wsL_takeBack wsX5_takeBack := goodIn_ca (goodIn_r _ [6, 7, 8, 9, 10, 11, 12, 13, 14, 15, 16, 17, 18, 19, 20, 21, 22, 23, 24, 25, 26, 27, 28, 29, 30, 31, 5, 32, 33, 34, 35, 36, 37, 38, 39, 40, 41, 42, 43, 44, 45, 46, 47, 48, 49, 50, 51, 52, 53, 54, 55, 56, 57, 58, 59, 60, 61, 62, 63, 64, 65, 66, 67, 68, 69, 70, 71, 72, 73, 74, 75, 76, 77, 78, 79, 80, 81, 82, 83, 84, 85, 86, 87, 88, 89, 90, 91, 92, 93, 94, 95, 96, 97, 98, 99, 100, 101, 102] (by decide +kernel) (by decide +kernel)) (goodIn_sub (fun _ h => List.mem_cons_of_mem _ (List.mem_append_right _ h)) (by decide +kernel))
set_option maxRecDepth 20000 in
theorem gL_takeBack_X5_takeBack : GoodIn wsL_takeBack (wsV RL 31 RX5 yX5_takeBack wsX5_takeBack) := goodIn_app (goodIn_of _ (by decide +kernel)) ggL_takeBack_X5_takeBack
theorem dL_takeBack_0 : decode cL_takeBack 0 = .ok (.aload_n 1, 1) := by decide +kernel
theorem dL_takeBack_1 : decode cL_takeBack 1 = .ok (.iconst 0, 1) := by decide +kernel
theorem dL_takeBack_2 : decode cL_takeBack 2 = .ok (.aload_n 0, 1) := by decide +kernel
theorem dL_takeBack_3 : decode cL_takeBack 3 = .ok (.invokevirtual 31, 3) := by decide +kernel
theorem dL_takeBack_6 : decode cL_takeBack 6 = .ok (.i2l, 1) := by decide +kernel
theorem dL_takeBack_7 : decode cL_takeBack 7 = .ok (.lastore, 1) := by decide +kernel
theorem dL_takeBack_8 : decode cL_takeBack 8 = .ok (.goto 6, 3) := by decide +kernel
theorem dL_takeBack_11 : decode cL_takeBack 11 = .ok (.astore_n 2, 1) := by decide +kernel
theorem dL_takeBack_12 : decode cL_takeBack 12 = .ok (.iconst 1, 1) := by decide +kernel
theorem dL_takeBack_13 : decode cL_takeBack 13 = .ok (.ireturn, 1) := by decide +kernel
theorem dL_takeBack_14 : decode cL_takeBack 14 = .ok (.iconst 0, 1) := by decide +kernel
theorem dL_takeBack_15 : decode cL_takeBack 15 = .ok (.ireturn, 1) := by decide +kernel
set_option maxRecDepth 20000 in
theorem ggL_price_X5_price : GoodIn wsL_price wsX5_price := goodIn_ca (goodIn_r _ [6, 7, 8, 9, 10, 11, 12, 13, 5, 14, 15, 16, 17, 18, 19, 20, 21, 22, 23, 24, 25, 26, 27] (by decide +kernel) (by decide +kernel)) (goodIn_sub (fun _ h => List.mem_cons_of_mem _ (List.mem_append_right _ h)) (by decide +kernel))
set_option maxRecDepth 20000 in
theorem gL_price_X5_price : GoodIn wsL_price (wsV RL 35 RX5 yX5_price wsX5_price) := goodIn_app (goodIn_of _ (by decide +kernel)) ggL_price_X5_price
theorem dL_price_0 : decode cL_price 0 = .ok (.aload_n 2, 1) := by decide +kernel
theorem dL_price_1 : decode cL_price 1 = .ok (.iconst 0, 1) := by decide +kernel
theorem dL_price_2 : decode cL_price 2 = .ok (.aload_n 0, 1) := by decide +kernel
theorem dL_price_3 : decode cL_price 3 = .ok (.iload_n 1, 1) := by decide +kernel
theorem dL_price_4 : decode cL_price 4 = .ok (.invokevirtual 35, 3) := by decide +kernel
theorem dL_price_7 : decode cL_price 7 = .ok (.i2l, 1) := by decide +kernel
theorem dL_price_8 : decode cL_price 8 = .ok (.lastore, 1) := by decide +kernel
theorem dL_price_9 : decode cL_price 9 = .ok (.goto 6, 3) := by decide +kernel
theorem dL_price_12 : decode cL_price 12 = .ok (.astore_n 3, 1) := by decide +kernel
theorem dL_price_13 : decode cL_price 13 = .ok (.iconst 1, 1) := by decide +kernel
theorem dL_price_14 : decode cL_price 14 = .ok (.ireturn, 1) := by decide +kernel
theorem dL_price_15 : decode cL_price 15 = .ok (.iconst 0, 1) := by decide +kernel
theorem dL_price_16 : decode cL_price 16 = .ok (.ireturn, 1) := by decide +kernel
set_option maxRecDepth 20000 in
theorem ggL_endsIn_X5_endsIn : GoodIn wsL_endsIn wsX5_endsIn := goodIn_ca (goodIn_r _ [6, 7, 8, 9, 10, 11, 12, 13, 14, 5, 15, 16, 17, 18, 19, 20, 21, 22, 23, 24, 25, 26, 27, 28, 29, 30, 31, 32, 33, 34, 35, 36, 37, 38, 39, 40, 41, 42, 43, 44, 45, 46, 47, 48, 49, 50, 51, 52, 53, 54, 55, 56, 57, 58, 59, 60, 61, 62, 63, 64, 65, 66, 67, 68, 69, 70, 71, 72, 73, 74, 75, 76, 77, 78, 79, 80, 81, 82, 83, 84, 85, 86, 87, 88, 89, 90, 91, 92, 93, 94, 95, 96, 97, 98, 99, 100, 101, 102, 103, 104, 105, 106, 107, 108, 109, 110, 111, 112, 113, 114, 115, 116, 117, 118, 119, 120, 121, 122, 123, 124, 125, 126, 127, 128, 129, 130, 131, 132, 133, 134, 135, 136, 137, 138, 139, 140, 141, 142, 143, 144, 145, 146, 147, 148, 149, 150, 151, 152, 153, 154, 155, 156, 157, 158, 159, 160, 161, 162, 163, 164, 165, 166, 167, 168, 169, 170, 171, 172, 173, 174, 175, 176, 177, 178, 179, 180, 181, 182, 183, 184, 185, 186, 187, 188, 189, 190, 191, 192, 193, 194, 195, 196, 197, 198, 199, 200, 201, 202, 203, 204] (by decide +kernel) (by decide +kernel)) (goodIn_sub (fun _ h => List.mem_cons_of_mem _ (List.mem_append_right _ h)) (by decide +kernel))
set_option maxRecDepth 20000 in
theorem gL_endsIn_X5_endsIn : GoodIn wsL_endsIn (wsV RL 39 RX5 yX5_endsIn wsX5_endsIn) := goodIn_app (goodIn_of _ (by decide +kernel)) ggL_endsIn_X5_endsIn
theorem dL_endsIn_0 : decode cL_endsIn 0 = .ok (.aload_n 2, 1) := by decide +kernel
theorem dL_endsIn_1 : decode cL_endsIn 1 = .ok (.iconst 0, 1) := by decide +kernel
theorem dL_endsIn_2 : decode cL_endsIn 2 = .ok (.aload_n 0, 1) := by decide +kernel
theorem dL_endsIn_3 : decode cL_endsIn 3 = .ok (.iload_n 1, 1) := by decide +kernel
theorem dL_endsIn_4 : decode cL_endsIn 4 = .ok (.invokevirtual 39, 3) := by decide +kernel
theorem dL_endsIn_7 : decode cL_endsIn 7 = .ok (.lastore, 1) := by decide +kernel
theorem dL_endsIn_8 : decode cL_endsIn 8 = .ok (.goto 6, 3) := by decide +kernel
theorem dL_endsIn_11 : decode cL_endsIn 11 = .ok (.astore_n 3, 1) := by decide +kernel
theorem dL_endsIn_12 : decode cL_endsIn 12 = .ok (.iconst 1, 1) := by decide +kernel
theorem dL_endsIn_13 : decode cL_endsIn 13 = .ok (.ireturn, 1) := by decide +kernel
theorem dL_endsIn_14 : decode cL_endsIn 14 = .ok (.iconst 0, 1) := by decide +kernel
theorem dL_endsIn_15 : decode cL_endsIn 15 = .ok (.ireturn, 1) := by decide +kernel
set_option maxRecDepth 20000 in
theorem ggL_law_X5_init : GoodIn wsL_law wsX5_init := goodIn_r _ [9, 10, 11, 12, 13, 14, 15, 16, 17, 18, 19, 20, 21, 22, 23, 24, 25, 26, 27, 28, 29, 30, 31, 32, 33, 34, 35, 36, 37, 38, 39, 40, 41, 42, 43, 44, 45, 46, 47, 48, 49, 50, 51, 52, 53, 54, 55, 56, 57, 58, 59, 60, 61, 62, 63, 64, 65, 6, 66, 67, 68, 69, 70, 71, 72, 73, 74, 75, 76, 77, 78, 79, 80, 81, 82, 83, 84, 85, 86, 87, 88, 89, 562, 563, 564, 565, 566, 567, 568, 569, 570, 571, 572, 535, 536, 537, 538, 539, 573, 574, 575, 576, 577, 578, 579, 580, 581, 582, 583, 584, 585, 586, 587, 588, 589, 590, 591, 592, 593, 594, 595, 596, 597, 598, 599, 600] (by decide +kernel) (by decide +kernel)
set_option maxRecDepth 20000 in
theorem gL_law_X5_init : GoodIn wsL_law (wsX5_init) := ggL_law_X5_init
set_option maxRecDepth 20000 in
theorem ggL_law_X6_init : GoodIn wsL_law wsX6_init := goodIn_r _ [92, 93, 11, 12, 80, 94, 95, 96, 97, 98, 99, 100, 101, 102, 84, 103, 104, 6, 105, 540, 541, 542, 543, 544, 545, 546, 547, 548, 549, 550, 551, 552, 553, 554, 555, 556, 557, 558, 559, 560, 561] (by decide +kernel) (by decide +kernel)
set_option maxRecDepth 20000 in
theorem gL_law_X6_init : GoodIn wsL_law (wsX6_init) := ggL_law_X6_init
set_option maxRecDepth 20000 in
theorem ggL_law_L_setAsset : GoodIn wsL_law wsL_setAsset := goodIn_ca (goodIn_ca (goodIn_r _ [109, 110, 111, 112, 113, 114, 2, 115, 116, 117, 118, 119, 16, 120, 121, 122, 123, 124, 20, 125, 126, 127, 128, 129, 130, 131, 132, 133, 19, 134, 53, 135, 136, 54, 137, 55, 56, 57, 58, 59, 60, 535, 536, 537, 538, 539, 562, 563, 564, 565, 566, 567, 568, 569, 570, 571, 572, 590, 591, 592, 573, 574, 575, 576, 577, 578, 579, 580] (by decide +kernel) (by decide +kernel)) (goodIn_sub (fun _ h => List.mem_append_left _ (List.mem_append_left _ (List.mem_append_right _ h))) (by decide +kernel))) (goodIn_sub (fun _ h => List.mem_append_left _ (List.mem_append_right _ h)) (by decide +kernel))
set_option maxRecDepth 20000 in
theorem gL_law_L_setAsset : GoodIn wsL_law (va_wsS RL 47 yL_setAsset wsL_setAsset) := goodIn_app (goodIn_of _ (by decide +kernel)) ggL_law_L_setAsset
set_option maxRecDepth 20000 in
theorem ggL_law_X6_setAsset : GoodIn wsL_law wsX6_setAsset := goodIn_r _ [141, 94, 95, 96, 142, 143, 144, 5, 145, 146, 147, 148, 149, 150, 540, 541, 542, 543, 544, 545, 546, 547, 548, 549, 550, 551, 552, 553, 554, 555, 556, 557, 558, 559, 560, 561] (by decide +kernel) (by decide +kernel)
set_option maxRecDepth 20000 in
theorem gL_law_X6_setAsset : GoodIn wsL_law (wsV RL 52 RX6 yX6_setAsset wsX6_setAsset) := goodIn_app (goodIn_of _ (by decide +kernel)) ggL_law_X6_setAsset
set_option maxRecDepth 20000 in
theorem ggL_law_X6_thrown : GoodIn wsL_law wsX6_thrown := goodIn_r _ [154, 150, 540, 541, 542, 543, 544, 545, 546, 547, 548, 549, 550, 551, 552, 553, 554, 555, 556, 557, 558, 559, 560, 561] (by decide +kernel) (by decide +kernel)
set_option maxRecDepth 20000 in
theorem gL_law_X6_thrown : GoodIn wsL_law (wsV RL 53 RX6 yX6_thrown wsX6_thrown) := goodIn_app (goodIn_of _ (by decide +kernel)) ggL_law_X6_thrown
set_option maxRecDepth 20000 in
theorem ggL_law_L_setMoves : GoodIn wsL_law wsL_setMoves := goodIn_ca (goodIn_r _ [157, 111, 158, 159, 160, 2, 161, 118, 119, 16, 162, 163, 20, 128, 129, 130, 131, 132, 133, 19, 134, 53, 135, 136, 54, 137, 55, 56, 57, 58, 59, 60, 535, 536, 537, 538, 539, 562, 563, 564, 565, 566, 567, 568, 569, 570, 571, 572, 573, 574, 575, 576, 577, 578, 579, 580, 590, 591, 592] (by decide +kernel) (by decide +kernel)) (goodIn_sub (fun _ h => List.mem_append_left _ (List.mem_append_right _ h)) (by decide +kernel))
set_option maxRecDepth 20000 in
theorem gL_law_L_setMoves : GoodIn wsL_law (va_wsS RL 56 yL_setMoves wsL_setMoves) := goodIn_app (goodIn_of _ (by decide +kernel)) ggL_law_L_setMoves
set_option maxRecDepth 20000 in
theorem ggL_law_X6_setMoves : GoodIn wsL_law wsX6_setMoves := goodIn_r _ [167, 168, 97, 142, 143, 144, 5, 145, 146, 147, 148, 149, 150, 540, 541, 542, 543, 544, 545, 546, 547, 548, 549, 550, 551, 552, 553, 554, 555, 556, 557, 558, 559, 560, 561] (by decide +kernel) (by decide +kernel)
set_option maxRecDepth 20000 in
theorem gL_law_X6_setMoves : GoodIn wsL_law (wsV RL 59 RX6 yX6_setMoves wsX6_setMoves) := goodIn_app (goodIn_of _ (by decide +kernel)) ggL_law_X6_setMoves
set_option maxRecDepth 20000 in
theorem ggL_law_L_setNote : GoodIn wsL_law wsL_setNote := goodIn_ca (goodIn_r _ [171, 111, 172, 173, 174, 2, 175, 118, 119, 16, 176, 177, 178, 179, 180, 20, 128, 129, 130, 131, 132, 133, 19, 134, 53, 135, 136, 54, 137, 55, 56, 57, 58, 59, 60, 535, 536, 537, 538, 539, 562, 563, 564, 565, 566, 567, 568, 569, 570, 571, 572, 573, 574, 575, 576, 577, 578, 579, 580, 590, 591, 592] (by decide +kernel) (by decide +kernel)) (goodIn_sub (fun _ h => List.mem_append_left _ (List.mem_append_right _ h)) (by decide +kernel))
set_option maxRecDepth 20000 in
theorem gL_law_L_setNote : GoodIn wsL_law (va_wsS RL 60 yL_setNote wsL_setNote) := goodIn_app (goodIn_of _ (by decide +kernel)) ggL_law_L_setNote
set_option maxRecDepth 20000 in
theorem ggL_law_X6_setNote : GoodIn wsL_law wsX6_setNote := goodIn_r _ [184, 98, 99, 100, 101, 102, 142, 143, 144, 5, 145, 146, 147, 148, 149, 150, 540, 541, 542, 543, 544, 545, 546, 547, 548, 549, 550, 551, 552, 553, 554, 555, 556, 557, 558, 559, 560, 561] (by decide +kernel) (by decide +kernel)
set_option maxRecDepth 20000 in
theorem gL_law_X6_setNote : GoodIn wsL_law (wsV RL 63 RX6 yX6_setNote wsX6_setNote) := goodIn_app (goodIn_of _ (by decide +kernel)) ggL_law_X6_setNote
set_option maxRecDepth 20000 in
theorem ggL_law_X5_setKind : GoodIn wsL_law wsX5_setKind := goodIn_r _ [188, 16, 189, 190, 20, 131, 132, 133, 19, 134, 53, 135, 136, 54, 137, 55, 56, 57, 58, 59, 60, 535, 536, 537, 538, 539, 562, 563, 564, 565, 566, 567, 568, 569, 570, 571, 572, 573, 574, 575, 576, 577, 578, 579, 580, 590, 591, 592] (by decide +kernel) (by decide +kernel)
set_option maxRecDepth 20000 in
theorem gL_law_X5_setKind : GoodIn wsL_law (wsV RL 64 RX5 yX5_setKind wsX5_setKind) := goodIn_app (goodIn_of _ (by decide +kernel)) ggL_law_X5_setKind
set_option maxRecDepth 20000 in
theorem ggL_law_X6_setKind : GoodIn wsL_law wsX6_setKind := goodIn_r _ [194, 150, 195, 196, 142, 540, 541, 542, 543, 544, 545, 546, 547, 548, 549, 550, 551, 552, 553, 554, 555, 556, 557, 558, 559, 560, 561] (by decide +kernel) (by decide +kernel)
set_option maxRecDepth 20000 in
theorem gL_law_X6_setKind : GoodIn wsL_law (wsV RL 68 RX6 yX6_setKind wsX6_setKind) := goodIn_app (goodIn_of _ (by decide +kernel)) ggL_law_X6_setKind
set_option maxRecDepth 20000 in
theorem ggL_law_L_tell : GoodIn wsL_law wsL_tell := goodIn_ca (goodIn_r _ [199, 200, 201, 202, 203, 2, 204, 205, 206, 20, 207, 208, 26, 16, 209, 210, 211, 212, 19, 213, 53, 135, 54, 137, 55, 214, 215, 216, 217, 57, 59, 218, 58, 60, 219, 220, 221, 32, 222, 48, 49, 223, 224, 225, 226, 227, 228, 229, 230, 231, 232, 233, 234, 235, 236, 237, 47, 238, 239, 240, 241, 242, 56, 243, 244, 245, 246, 247, 248, 535, 536, 537, 538, 539, 573, 574, 575, 576, 577, 578, 579, 580, 562, 563, 564, 565, 566, 567, 568, 569, 570, 571, 572, 590, 591, 592] (by decide +kernel) (by decide +kernel)) (goodIn_sub (fun _ h => List.mem_append_right _ h) (by decide +kernel))
set_option maxRecDepth 20000 in
theorem gL_law_L_tell : GoodIn wsL_law (va_wsS RL 69 yL_tell wsL_tell) := goodIn_app (goodIn_of _ (by decide +kernel)) ggL_law_L_tell
set_option maxRecDepth 20000 in
theorem ggL_law_X6_tell : GoodIn wsL_law wsX6_tell := goodIn_r _ [252, 142, 253, 103, 254, 255, 256, 5, 257, 258, 259, 260, 261, 262, 104, 94, 263, 264, 265, 266, 267, 268, 269, 168, 98, 99, 195, 100, 102, 196, 101, 270, 271, 272, 273, 95, 96, 274, 275, 276, 277, 278, 279, 280, 281, 146, 147, 148, 149, 150, 540, 541, 542, 543, 544, 545, 546, 547, 548, 549, 550, 551, 552, 553, 554, 555, 556, 557, 558, 559, 560, 561] (by decide +kernel) (by decide +kernel)
set_option maxRecDepth 20000 in
theorem gL_law_X6_tell : GoodIn wsL_law (wsV RL 72 RX6 yX6_tell wsX6_tell) := goodIn_app (goodIn_of _ (by decide +kernel)) ggL_law_X6_tell
set_option maxRecDepth 20000 in
theorem ggL_law_L_takeBack : GoodIn wsL_law wsL_takeBack := goodIn_ca (goodIn_r _ [284, 200, 285, 286, 287, 2, 288, 205, 206, 20, 208, 209, 16, 26, 131, 132, 133, 19, 134, 53, 135, 136, 54, 137, 55, 56, 57, 58, 59, 60, 289, 290, 291, 210, 211, 212, 213, 214, 215, 216, 217, 218, 219, 220, 221, 32, 222, 48, 49, 223, 224, 225, 226, 227, 228, 229, 230, 231, 232, 233, 234, 235, 236, 237, 47, 238, 239, 240, 241, 242, 243, 244, 245, 246, 247, 248, 535, 536, 537, 538, 539, 573, 574, 575, 576, 577, 578, 579, 580, 562, 563, 564, 565, 566, 567, 568, 569, 570, 571, 572, 590, 591, 592] (by decide +kernel) (by decide +kernel)) (goodIn_sub (fun _ h => List.mem_append_right _ h) (by decide +kernel))
set_option maxRecDepth 20000 in
theorem gL_law_L_takeBack : GoodIn wsL_law (va_wsS RL 73 yL_takeBack wsL_takeBack) := goodIn_app (goodIn_of _ (by decide +kernel)) ggL_law_L_takeBack
set_option maxRecDepth 20000 in
theorem ggL_law_X6_takeBack : GoodIn wsL_law wsX6_takeBack := goodIn_r _ [295, 142, 146, 147, 148, 5, 149, 150, 254, 255, 256, 257, 258, 259, 260, 261, 262, 104, 94, 263, 264, 253, 265, 103, 266, 267, 268, 269, 168, 98, 99, 195, 100, 102, 196, 101, 270, 271, 272, 273, 95, 96, 274, 275, 276, 277, 278, 279, 280, 281, 540, 541, 542, 543, 544, 545, 546, 547, 548, 549, 550, 551, 552, 553, 554, 555, 556, 557, 558, 559, 560, 561] (by decide +kernel) (by decide +kernel)
set_option maxRecDepth 20000 in
theorem gL_law_X6_takeBack : GoodIn wsL_law (wsV RL 76 RX6 yX6_takeBack wsX6_takeBack) := goodIn_app (goodIn_of _ (by decide +kernel)) ggL_law_X6_takeBack
set_option maxRecDepth 20000 in
theorem ggL_law_X5_told : GoodIn wsL_law wsX5_told := goodIn_r _ [299, 20, 208, 535, 536, 537, 538, 539, 573, 574, 575, 576, 577, 578, 579, 580] (by decide +kernel) (by decide +kernel)
set_option maxRecDepth 20000 in
theorem gL_law_X5_told : GoodIn wsL_law (wsV RL 77 RX5 yX5_told wsX5_told) := goodIn_app (goodIn_of _ (by decide +kernel)) ggL_law_X5_told
set_option maxRecDepth 20000 in
theorem ggL_law_X6_told : GoodIn wsL_law wsX6_told := goodIn_r _ [303, 150, 142, 540, 541, 542, 543, 544, 545, 546, 547, 548, 549, 550, 551, 552, 553, 554, 555, 556, 557, 558, 559, 560, 561] (by decide +kernel) (by decide +kernel)
set_option maxRecDepth 20000 in
theorem gL_law_X6_told : GoodIn wsL_law (wsV RL 80 RX6 yX6_told wsX6_told) := goodIn_app (goodIn_of _ (by decide +kernel)) ggL_law_X6_told
set_option maxRecDepth 20000 in
theorem ggL_law_L_price : GoodIn wsL_law wsL_price := goodIn_ca (goodIn_r _ [306, 110, 307, 308, 309, 2, 310, 116, 117, 20, 311, 312, 125, 126, 127, 535, 536, 537, 538, 539, 573, 574, 575, 576, 577, 578, 579, 580] (by decide +kernel) (by decide +kernel)) (goodIn_sub (fun _ h => List.mem_append_left _ (List.mem_append_left _ (List.mem_append_right _ h))) (by decide +kernel))
set_option maxRecDepth 20000 in
theorem gL_law_L_price : GoodIn wsL_law (va_wsS RL 81 yL_price wsL_price) := goodIn_app (goodIn_of _ (by decide +kernel)) ggL_law_L_price
set_option maxRecDepth 20000 in
theorem ggL_law_X6_price : GoodIn wsL_law wsX6_price := goodIn_r _ [316, 142, 104, 259, 260, 261, 5, 262, 94, 263, 264, 253, 265, 258, 103, 266, 267, 268, 269, 168, 98, 99, 195, 100, 102, 196, 101, 270, 271, 272, 273, 95, 96, 274, 275, 276, 277, 278, 279, 280, 281, 143, 144, 145, 146, 147, 148, 149, 150, 540, 541, 542, 543, 544, 545, 546, 547, 548, 549, 550, 551, 552, 553, 554, 555, 556, 557, 558, 559, 560, 561] (by decide +kernel) (by decide +kernel)
set_option maxRecDepth 20000 in
theorem gL_law_X6_price : GoodIn wsL_law (wsV RL 84 RX6 yX6_price wsX6_price) := goodIn_app (goodIn_of _ (by decide +kernel)) ggL_law_X6_price
set_option maxRecDepth 20000 in
theorem ggL_law_X5_worst : GoodIn wsL_law wsX5_worst := goodIn_r _ [320, 20, 16, 321, 228, 229, 19, 230, 135, 54, 137, 55, 231, 232, 225, 233, 234, 235, 236, 32, 237, 47, 535, 536, 537, 538, 539, 562, 563, 564, 565, 566, 567, 568, 569, 570, 571, 572, 573, 574, 575, 576, 577, 578, 579, 580, 590, 591, 592] (by decide +kernel) (by decide +kernel)
set_option maxRecDepth 20000 in
theorem gL_law_X5_worst : GoodIn wsL_law (wsV RL 85 RX5 yX5_worst wsX5_worst) := goodIn_app (goodIn_of _ (by decide +kernel)) ggL_law_X5_worst
set_option maxRecDepth 20000 in
theorem ggL_law_X6_worst : GoodIn wsL_law wsX6_worst := goodIn_r _ [325, 150, 142, 259, 260, 261, 5, 262, 104, 94, 263, 264, 253, 265, 258, 103, 266, 267, 268, 269, 168, 98, 99, 195, 100, 102, 196, 101, 270, 271, 272, 273, 95, 96, 274, 275, 276, 277, 278, 279, 280, 281, 540, 541, 542, 543, 544, 545, 546, 547, 548, 549, 550, 551, 552, 553, 554, 555, 556, 557, 558, 559, 560, 561] (by decide +kernel) (by decide +kernel)
set_option maxRecDepth 20000 in
theorem gL_law_X6_worst : GoodIn wsL_law (wsV RL 88 RX6 yX6_worst wsX6_worst) := goodIn_app (goodIn_of _ (by decide +kernel)) ggL_law_X6_worst
set_option maxRecDepth 20000 in
theorem ggL_law_X5_isKnocked : GoodIn wsL_law wsX5_isKnocked := goodIn_r _ [329, 20, 330, 535, 536, 537, 538, 539, 573, 574, 575, 576, 577, 578, 579, 580] (by decide +kernel) (by decide +kernel)
set_option maxRecDepth 20000 in
theorem gL_law_X5_isKnocked : GoodIn wsL_law (wsV RL 89 RX5 yX5_isKnocked wsX5_isKnocked) := goodIn_app (goodIn_of _ (by decide +kernel)) ggL_law_X5_isKnocked
set_option maxRecDepth 20000 in
theorem ggL_law_X6_isKnocked : GoodIn wsL_law wsX6_isKnocked := goodIn_r _ [334, 150, 142, 264, 259, 260, 261, 5, 262, 104, 94, 263, 253, 265, 258, 103, 266, 267, 268, 269, 168, 98, 99, 195, 100, 102, 196, 101, 270, 271, 272, 273, 95, 96, 274, 275, 276, 277, 278, 279, 280, 281, 540, 541, 542, 543, 544, 545, 546, 547, 548, 549, 550, 551, 552, 553, 554, 555, 556, 557, 558, 559, 560, 561] (by decide +kernel) (by decide +kernel)
set_option maxRecDepth 20000 in
theorem gL_law_X6_isKnocked : GoodIn wsL_law (wsV RL 93 RX6 yX6_isKnocked wsX6_isKnocked) := goodIn_app (goodIn_of _ (by decide +kernel)) ggL_law_X6_isKnocked
set_option maxRecDepth 20000 in
theorem ggL_law_X5_missed : GoodIn wsL_law wsX5_missed := goodIn_r _ [338, 20, 339, 535, 536, 537, 538, 539, 573, 574, 575, 576, 577, 578, 579, 580] (by decide +kernel) (by decide +kernel)
set_option maxRecDepth 20000 in
theorem gL_law_X5_missed : GoodIn wsL_law (wsV RL 94 RX5 yX5_missed wsX5_missed) := goodIn_app (goodIn_of _ (by decide +kernel)) ggL_law_X5_missed
set_option maxRecDepth 20000 in
theorem ggL_law_X6_missed : GoodIn wsL_law wsX6_missed := goodIn_r _ [343, 150, 142, 263, 259, 260, 261, 5, 262, 104, 94, 264, 253, 265, 258, 103, 266, 267, 268, 269, 168, 98, 99, 195, 100, 102, 196, 101, 270, 271, 272, 273, 95, 96, 274, 275, 276, 277, 278, 279, 280, 281, 540, 541, 542, 543, 544, 545, 546, 547, 548, 549, 550, 551, 552, 553, 554, 555, 556, 557, 558, 559, 560, 561] (by decide +kernel) (by decide +kernel)
set_option maxRecDepth 20000 in
theorem gL_law_X6_missed : GoodIn wsL_law (wsV RL 97 RX6 yX6_missed wsX6_missed) := goodIn_app (goodIn_of _ (by decide +kernel)) ggL_law_X6_missed
set_option maxRecDepth 20000 in
theorem ggL_law_X5_paid : GoodIn wsL_law wsX5_paid := goodIn_r _ [347, 20, 348, 535, 536, 537, 538, 539, 573, 574, 575, 576, 577, 578, 579, 580] (by decide +kernel) (by decide +kernel)
set_option maxRecDepth 20000 in
theorem gL_law_X5_paid : GoodIn wsL_law (wsV RL 98 RX5 yX5_paid wsX5_paid) := goodIn_app (goodIn_of _ (by decide +kernel)) ggL_law_X5_paid
set_option maxRecDepth 20000 in
theorem ggL_law_X6_paid : GoodIn wsL_law wsX6_paid := goodIn_r _ [352, 150, 142, 254, 255, 256, 5, 257, 258, 259, 260, 261, 262, 104, 94, 263, 264, 253, 265, 103, 266, 267, 268, 269, 168, 98, 99, 195, 100, 102, 196, 101, 270, 271, 272, 273, 95, 96, 274, 275, 276, 277, 278, 279, 280, 281, 540, 541, 542, 543, 544, 545, 546, 547, 548, 549, 550, 551, 552, 553, 554, 555, 556, 557, 558, 559, 560, 561] (by decide +kernel) (by decide +kernel)
set_option maxRecDepth 20000 in
theorem gL_law_X6_paid : GoodIn wsL_law (wsV RL 101 RX6 yX6_paid wsX6_paid) := goodIn_app (goodIn_of _ (by decide +kernel)) ggL_law_X6_paid
set_option maxRecDepth 20000 in
theorem ggL_law_X5_isOver : GoodIn wsL_law wsX5_isOver := goodIn_r _ [356, 20, 207, 535, 536, 537, 538, 539, 573, 574, 575, 576, 577, 578, 579, 580] (by decide +kernel) (by decide +kernel)
set_option maxRecDepth 20000 in
theorem gL_law_X5_isOver : GoodIn wsL_law (wsV RL 102 RX5 yX5_isOver wsX5_isOver) := goodIn_app (goodIn_of _ (by decide +kernel)) ggL_law_X5_isOver
set_option maxRecDepth 20000 in
theorem ggL_law_X6_isOver : GoodIn wsL_law wsX6_isOver := goodIn_r _ [360, 150, 361, 362, 363, 5, 364, 142, 253, 259, 260, 261, 262, 104, 94, 263, 264, 265, 258, 103, 266, 267, 268, 269, 168, 98, 99, 195, 100, 102, 196, 101, 270, 271, 272, 273, 95, 96, 274, 275, 276, 277, 278, 279, 280, 281, 540, 541, 542, 543, 544, 545, 546, 547, 548, 549, 550, 551, 552, 553, 554, 555, 556, 557, 558, 559, 560, 561] (by decide +kernel) (by decide +kernel)
set_option maxRecDepth 20000 in
theorem gL_law_X6_isOver : GoodIn wsL_law (wsV RL 105 RX6 yX6_isOver wsX6_isOver) := goodIn_app (goodIn_of _ (by decide +kernel)) ggL_law_X6_isOver
set_option maxRecDepth 20000 in
theorem ggL_law_X5_worth : GoodIn wsL_law wsX5_worth := goodIn_r _ [368, 25, 16, 20, 369, 370, 371, 372, 24, 373, 374, 375, 73, 74, 75, 70, 376, 377, 378, 379, 380, 381, 382, 66, 72, 383, 76, 384, 385, 386, 69, 387, 86, 87, 388, 232, 225, 233, 88, 389, 224, 226, 89, 81, 390, 82, 391, 83, 392, 85, 393, 394, 395, 396, 397, 398, 399, 400, 401, 71, 402, 403, 404, 405, 65, 406, 407, 408, 409, 410, 411, 412, 413, 414, 415, 416, 417, 418, 419, 420, 421, 422, 423, 211, 212, 19, 213, 53, 135, 54, 137, 55, 214, 215, 216, 217, 57, 59, 218, 58, 60, 219, 220, 221, 32, 222, 48, 49, 223, 227, 228, 229, 230, 231, 234, 235, 236, 237, 47, 238, 239, 240, 241, 242, 56, 243, 244, 245, 246, 247, 248, 424, 425, 426, 15, 427, 36, 428, 2, 429, 430, 431, 432, 433, 434, 435, 436, 535, 536, 537, 538, 539, 581, 582, 583, 584, 585, 586, 587, 588, 589, 573, 574, 575, 576, 577, 578, 579, 580, 593, 594, 595, 596, 597, 598, 599, 600, 562, 563, 564, 565, 566, 567, 568, 569, 570, 571, 572, 590, 591, 592] (by decide +kernel) (by decide +kernel)
set_option maxRecDepth 20000 in
theorem gL_law_X5_worth : GoodIn wsL_law (wsV RL 106 RX5 yX5_worth wsX5_worth) := goodIn_app (goodIn_of _ (by decide +kernel)) ggL_law_X5_worth
set_option maxRecDepth 20000 in
theorem ggL_law_X6_worth : GoodIn wsL_law wsX6_worth := goodIn_r _ [440, 150, 361, 362, 363, 5, 364, 142, 253, 259, 260, 261, 262, 104, 94, 263, 264, 265, 258, 103, 266, 267, 268, 269, 168, 98, 99, 195, 100, 102, 196, 101, 270, 271, 272, 273, 95, 96, 274, 275, 276, 277, 278, 279, 280, 281, 441, 442, 443, 444, 254, 255, 256, 257, 445, 446, 447, 448, 449, 450, 451, 452, 97, 540, 541, 542, 543, 544, 545, 546, 547, 548, 549, 550, 551, 552, 553, 554, 555, 556, 557, 558, 559, 560, 561] (by decide +kernel) (by decide +kernel)
set_option maxRecDepth 20000 in
theorem gL_law_X6_worth : GoodIn wsL_law (wsV RL 110 RX6 yX6_worth wsX6_worth) := goodIn_app (goodIn_of _ (by decide +kernel)) ggL_law_X6_worth
set_option maxRecDepth 20000 in
theorem ggL_law_X5_worthByPaths : GoodIn wsL_law wsX5_worthByPaths := goodIn_r _ [456, 20, 207, 16, 176, 208, 457, 458, 459, 2, 460, 21, 430, 348, 461, 462, 463, 19, 464, 53, 54, 55, 56, 57, 58, 59, 60, 289, 290, 291, 465, 425, 426, 15, 427, 36, 210, 211, 212, 213, 135, 137, 214, 215, 216, 217, 218, 219, 220, 221, 32, 222, 48, 49, 223, 224, 225, 226, 227, 228, 229, 230, 231, 232, 233, 234, 235, 236, 237, 47, 238, 239, 240, 241, 242, 243, 244, 245, 246, 247, 248, 535, 536, 537, 538, 539, 573, 574, 575, 576, 577, 578, 579, 580, 562, 563, 564, 565, 566, 567, 568, 569, 570, 571, 572, 590, 591, 592] (by decide +kernel) (by decide +kernel)
set_option maxRecDepth 20000 in
theorem gL_law_X5_worthByPaths : GoodIn wsL_law (wsV RL 111 RX5 yX5_worthByPaths wsX5_worthByPaths) := goodIn_app (goodIn_of _ (by decide +kernel)) ggL_law_X5_worthByPaths
set_option maxRecDepth 20000 in
theorem ggL_law_X6_worthByPaths : GoodIn wsL_law wsX6_worthByPaths := goodIn_r _ [469, 150, 361, 362, 363, 5, 364, 142, 253, 259, 260, 261, 262, 104, 94, 263, 264, 265, 258, 103, 266, 267, 268, 269, 168, 98, 99, 195, 100, 102, 196, 101, 270, 271, 272, 273, 95, 96, 274, 275, 276, 277, 278, 279, 280, 281, 441, 442, 443, 444, 254, 255, 256, 257, 445, 446, 447, 448, 449, 450, 451, 452, 97, 540, 541, 542, 543, 544, 545, 546, 547, 548, 549, 550, 551, 552, 553, 554, 555, 556, 557, 558, 559, 560, 561] (by decide +kernel) (by decide +kernel)
set_option maxRecDepth 20000 in
theorem gL_law_X6_worthByPaths : GoodIn wsL_law (wsV RL 114 RX6 yX6_worthByPaths wsX6_worthByPaths) := goodIn_app (goodIn_of _ (by decide +kernel)) ggL_law_X6_worthByPaths
set_option maxRecDepth 20000 in
theorem ggL_law_X5_divisor : GoodIn wsL_law wsX5_divisor := goodIn_r _ [473, 20, 207, 16, 176, 208, 474, 428, 2, 429, 430, 535, 536, 537, 538, 539, 573, 574, 575, 576, 577, 578, 579, 580, 562, 563, 564, 565, 566, 567, 568, 569, 570, 571, 572] (by decide +kernel) (by decide +kernel)
set_option maxRecDepth 20000 in
theorem gL_law_X5_divisor : GoodIn wsL_law (wsV RL 115 RX5 yX5_divisor wsX5_divisor) := goodIn_app (goodIn_of _ (by decide +kernel)) ggL_law_X5_divisor
set_option maxRecDepth 20000 in
theorem ggL_law_X6_divisor : GoodIn wsL_law wsX6_divisor := goodIn_r _ [478, 150, 142, 98, 479, 361, 362, 363, 5, 364, 253, 259, 260, 261, 262, 104, 94, 263, 264, 265, 258, 103, 266, 267, 268, 269, 168, 99, 195, 100, 102, 196, 101, 270, 271, 272, 273, 95, 96, 274, 275, 276, 277, 278, 279, 280, 281, 540, 541, 542, 543, 544, 545, 546, 547, 548, 549, 550, 551, 552, 553, 554, 555, 556, 557, 558, 559, 560, 561] (by decide +kernel) (by decide +kernel)
set_option maxRecDepth 20000 in
theorem gL_law_X6_divisor : GoodIn wsL_law (wsV RL 118 RX6 yX6_divisor wsX6_divisor) := goodIn_app (goodIn_of _ (by decide +kernel)) ggL_law_X6_divisor
set_option maxRecDepth 20000 in
theorem ggL_law_X5_states : GoodIn wsL_law wsX5_states := goodIn_r _ [483, 25, 16, 20, 484, 370, 371, 372, 24, 373, 374, 375, 73, 74, 75, 70, 376, 377, 378, 379, 380, 381, 382, 66, 72, 383, 76, 384, 385, 386, 69, 387, 86, 87, 388, 232, 225, 233, 88, 389, 224, 226, 89, 81, 390, 82, 391, 83, 392, 85, 393, 394, 395, 396, 397, 398, 399, 400, 401, 71, 402, 403, 404, 405, 65, 406, 407, 408, 409, 410, 411, 412, 413, 414, 415, 416, 417, 418, 419, 420, 421, 422, 423, 211, 212, 19, 213, 53, 135, 54, 137, 55, 214, 215, 216, 217, 57, 59, 218, 58, 60, 219, 220, 221, 32, 222, 48, 49, 223, 227, 228, 229, 230, 231, 234, 235, 236, 237, 47, 238, 239, 240, 241, 242, 56, 243, 244, 245, 246, 247, 248, 424, 425, 426, 15, 427, 36, 428, 2, 429, 430, 431, 432, 433, 434, 435, 436, 535, 536, 537, 538, 539, 581, 582, 583, 584, 585, 586, 587, 588, 589, 573, 574, 575, 576, 577, 578, 579, 580, 593, 594, 595, 596, 597, 598, 599, 600, 562, 563, 564, 565, 566, 567, 568, 569, 570, 571, 572, 590, 591, 592] (by decide +kernel) (by decide +kernel)
set_option maxRecDepth 20000 in
theorem gL_law_X5_states : GoodIn wsL_law (wsV RL 119 RX5 yX5_states wsX5_states) := goodIn_app (goodIn_of _ (by decide +kernel)) ggL_law_X5_states
set_option maxRecDepth 20000 in
theorem ggL_law_X6_states : GoodIn wsL_law wsX6_states := goodIn_r _ [488, 150, 104, 263, 264, 265, 98, 105, 361, 362, 363, 5, 364, 142, 253, 259, 260, 261, 262, 94, 258, 103, 266, 267, 268, 269, 168, 99, 195, 100, 102, 196, 101, 270, 271, 272, 273, 95, 96, 274, 275, 276, 277, 278, 279, 280, 281, 445, 446, 447, 448, 449, 450, 451, 452, 97, 540, 541, 542, 543, 544, 545, 546, 547, 548, 549, 550, 551, 552, 553, 554, 555, 556, 557, 558, 559, 560, 561] (by decide +kernel) (by decide +kernel)
set_option maxRecDepth 20000 in
theorem gL_law_X6_states : GoodIn wsL_law (wsV RL 122 RX6 yX6_states wsX6_states) := goodIn_app (goodIn_of _ (by decide +kernel)) ggL_law_X6_states
set_option maxRecDepth 20000 in
theorem ggL_law_X5_least : GoodIn wsL_law wsX5_least := goodIn_r _ [492, 25, 16, 20, 493, 370, 371, 372, 24, 373, 374, 375, 73, 74, 75, 70, 376, 377, 378, 379, 380, 381, 382, 66, 72, 383, 76, 384, 385, 386, 69, 387, 86, 87, 388, 232, 225, 233, 88, 389, 224, 226, 89, 81, 390, 82, 391, 83, 392, 85, 393, 394, 395, 396, 397, 398, 399, 400, 401, 71, 402, 403, 404, 405, 65, 406, 407, 408, 409, 410, 411, 412, 413, 414, 415, 416, 417, 418, 419, 420, 421, 422, 423, 211, 212, 19, 213, 53, 135, 54, 137, 55, 214, 215, 216, 217, 57, 59, 218, 58, 60, 219, 220, 221, 32, 222, 48, 49, 223, 227, 228, 229, 230, 231, 234, 235, 236, 237, 47, 238, 239, 240, 241, 242, 56, 243, 244, 245, 246, 247, 248, 424, 425, 426, 15, 427, 36, 428, 2, 429, 430, 431, 432, 433, 434, 435, 436, 535, 536, 537, 538, 539, 581, 582, 583, 584, 585, 586, 587, 588, 589, 573, 574, 575, 576, 577, 578, 579, 580, 593, 594, 595, 596, 597, 598, 599, 600, 562, 563, 564, 565, 566, 567, 568, 569, 570, 571, 572, 590, 591, 592] (by decide +kernel) (by decide +kernel)
set_option maxRecDepth 20000 in
theorem gL_law_X5_least : GoodIn wsL_law (wsV RL 123 RX5 yX5_least wsX5_least) := goodIn_app (goodIn_of _ (by decide +kernel)) ggL_law_X5_least
set_option maxRecDepth 20000 in
theorem ggL_law_X6_least : GoodIn wsL_law wsX6_least := goodIn_r _ [497, 150, 361, 362, 363, 5, 364, 142, 253, 259, 260, 261, 262, 104, 94, 263, 264, 265, 258, 103, 266, 267, 268, 269, 168, 98, 99, 195, 100, 102, 196, 101, 270, 271, 272, 273, 95, 96, 274, 275, 276, 277, 278, 279, 280, 281, 498, 499, 500, 501, 254, 255, 256, 257, 445, 446, 447, 448, 449, 450, 451, 452, 97, 540, 541, 542, 543, 544, 545, 546, 547, 548, 549, 550, 551, 552, 553, 554, 555, 556, 557, 558, 559, 560, 561] (by decide +kernel) (by decide +kernel)
set_option maxRecDepth 20000 in
theorem gL_law_X6_least : GoodIn wsL_law (wsV RL 126 RX6 yX6_least wsX6_least) := goodIn_app (goodIn_of _ (by decide +kernel)) ggL_law_X6_least
set_option maxRecDepth 20000 in
theorem ggL_law_X5_most : GoodIn wsL_law wsX5_most := goodIn_r _ [505, 25, 16, 20, 506, 370, 371, 372, 24, 373, 374, 375, 73, 74, 75, 70, 376, 377, 378, 379, 380, 381, 382, 66, 72, 383, 76, 384, 385, 386, 69, 387, 86, 87, 388, 232, 225, 233, 88, 389, 224, 226, 89, 81, 390, 82, 391, 83, 392, 85, 393, 394, 395, 396, 397, 398, 399, 400, 401, 71, 402, 403, 404, 405, 65, 406, 407, 408, 409, 410, 411, 412, 413, 414, 415, 416, 417, 418, 419, 420, 421, 422, 423, 211, 212, 19, 213, 53, 135, 54, 137, 55, 214, 215, 216, 217, 57, 59, 218, 58, 60, 219, 220, 221, 32, 222, 48, 49, 223, 227, 228, 229, 230, 231, 234, 235, 236, 237, 47, 238, 239, 240, 241, 242, 56, 243, 244, 245, 246, 247, 248, 424, 425, 426, 15, 427, 36, 428, 2, 429, 430, 431, 432, 433, 434, 435, 436, 535, 536, 537, 538, 539, 581, 582, 583, 584, 585, 586, 587, 588, 589, 573, 574, 575, 576, 577, 578, 579, 580, 593, 594, 595, 596, 597, 598, 599, 600, 562, 563, 564, 565, 566, 567, 568, 569, 570, 571, 572, 590, 591, 592] (by decide +kernel) (by decide +kernel)
set_option maxRecDepth 20000 in
theorem gL_law_X5_most : GoodIn wsL_law (wsV RL 127 RX5 yX5_most wsX5_most) := goodIn_app (goodIn_of _ (by decide +kernel)) ggL_law_X5_most
set_option maxRecDepth 20000 in
theorem ggL_law_X6_most : GoodIn wsL_law wsX6_most := goodIn_r _ [510, 150, 361, 362, 363, 5, 364, 142, 253, 259, 260, 261, 262, 104, 94, 263, 264, 265, 258, 103, 266, 267, 268, 269, 168, 98, 99, 195, 100, 102, 196, 101, 270, 271, 272, 273, 95, 96, 274, 275, 276, 277, 278, 279, 280, 281, 498, 499, 500, 501, 254, 255, 256, 257, 445, 446, 447, 448, 449, 450, 451, 452, 97, 540, 541, 542, 543, 544, 545, 546, 547, 548, 549, 550, 551, 552, 553, 554, 555, 556, 557, 558, 559, 560, 561] (by decide +kernel) (by decide +kernel)
set_option maxRecDepth 20000 in
theorem gL_law_X6_most : GoodIn wsL_law (wsV RL 130 RX6 yX6_most wsX6_most) := goodIn_app (goodIn_of _ (by decide +kernel)) ggL_law_X6_most
set_option maxRecDepth 20000 in
theorem ggL_law_L_endsIn : GoodIn wsL_law wsL_endsIn := goodIn_ca (goodIn_r _ [513, 111, 514, 515, 516, 2, 517, 118, 119, 16, 176, 25, 20, 128, 129, 130, 370, 371, 372, 24, 373, 374, 375, 73, 74, 75, 70, 376, 377, 378, 379, 380, 381, 382, 66, 72, 383, 76, 384, 385, 386, 69, 387, 86, 87, 388, 232, 225, 233, 88, 389, 224, 226, 89, 81, 390, 82, 391, 83, 392, 85, 393, 394, 395, 396, 397, 398, 399, 400, 401, 71, 402, 403, 404, 405, 65, 406, 407, 408, 409, 410, 411, 412, 413, 414, 415, 416, 417, 418, 419, 420, 421, 422, 423, 211, 212, 19, 213, 53, 135, 54, 137, 55, 214, 215, 216, 217, 57, 59, 218, 58, 60, 219, 220, 221, 32, 222, 48, 49, 223, 227, 228, 229, 230, 231, 234, 235, 236, 237, 47, 238, 239, 240, 241, 242, 56, 243, 244, 245, 246, 247, 248, 424, 425, 426, 15, 427, 36, 428, 429, 430, 431, 432, 433, 434, 435, 436, 518, 519, 520, 521, 535, 536, 537, 538, 539, 562, 563, 564, 565, 566, 567, 568, 569, 570, 571, 572, 573, 574, 575, 576, 577, 578, 579, 580, 581, 582, 583, 584, 585, 586, 587, 588, 589, 593, 594, 595, 596, 597, 598, 599, 600, 590, 591, 592] (by decide +kernel) (by decide +kernel)) (goodIn_sub (fun _ h => List.mem_append_left _ (List.mem_append_right _ h)) (by decide +kernel))
set_option maxRecDepth 20000 in
theorem gL_law_L_endsIn : GoodIn wsL_law (va_wsS RL 131 yL_endsIn wsL_endsIn) := goodIn_app (goodIn_of _ (by decide +kernel)) ggL_law_L_endsIn
set_option maxRecDepth 20000 in
theorem ggL_law_X6_endsIn : GoodIn wsL_law wsX6_endsIn := goodIn_r _ [525, 98, 142, 265, 143, 144, 5, 145, 146, 147, 148, 149, 150, 445, 446, 447, 448, 361, 362, 363, 364, 253, 259, 260, 261, 262, 104, 94, 263, 264, 258, 103, 266, 267, 268, 269, 168, 99, 195, 100, 102, 196, 101, 270, 271, 272, 273, 95, 96, 274, 275, 276, 277, 278, 279, 280, 281, 449, 450, 451, 452, 97, 540, 541, 542, 543, 544, 545, 546, 547, 548, 549, 550, 551, 552, 553, 554, 555, 556, 557, 558, 559, 560, 561] (by decide +kernel) (by decide +kernel)
set_option maxRecDepth 20000 in
theorem gL_law_X6_endsIn : GoodIn wsL_law (wsV RL 133 RX6 yX6_endsIn wsX6_endsIn) := goodIn_app (goodIn_of _ (by decide +kernel)) ggL_law_X6_endsIn
set_option maxRecDepth 20000 in
theorem ggL_law_X5_knocks : GoodIn wsL_law wsX5_knocks := goodIn_r _ [529, 25, 16, 20, 530, 370, 371, 372, 24, 373, 374, 375, 73, 74, 75, 70, 376, 377, 378, 379, 380, 381, 382, 66, 72, 383, 76, 384, 385, 386, 69, 387, 86, 87, 388, 232, 225, 233, 88, 389, 224, 226, 89, 81, 390, 82, 391, 83, 392, 85, 393, 394, 395, 396, 397, 398, 399, 400, 401, 71, 402, 403, 404, 405, 65, 406, 407, 408, 409, 410, 411, 412, 413, 414, 415, 416, 417, 418, 419, 420, 421, 422, 423, 211, 212, 19, 213, 53, 135, 54, 137, 55, 214, 215, 216, 217, 57, 59, 218, 58, 60, 219, 220, 221, 32, 222, 48, 49, 223, 227, 228, 229, 230, 231, 234, 235, 236, 237, 47, 238, 239, 240, 241, 242, 56, 243, 244, 245, 246, 247, 248, 424, 425, 426, 15, 427, 36, 428, 2, 429, 430, 431, 432, 433, 434, 435, 436, 535, 536, 537, 538, 539, 581, 582, 583, 584, 585, 586, 587, 588, 589, 573, 574, 575, 576, 577, 578, 579, 580, 593, 594, 595, 596, 597, 598, 599, 600, 562, 563, 564, 565, 566, 567, 568, 569, 570, 571, 572, 590, 591, 592] (by decide +kernel) (by decide +kernel)
set_option maxRecDepth 20000 in
theorem gL_law_X5_knocks : GoodIn wsL_law (wsV RL 134 RX5 yX5_knocks wsX5_knocks) := goodIn_app (goodIn_of _ (by decide +kernel)) ggL_law_X5_knocks
set_option maxRecDepth 20000 in
theorem ggL_law_X6_knocks : GoodIn wsL_law wsX6_knocks := goodIn_r _ [534, 150, 264, 361, 362, 363, 5, 364, 142, 253, 259, 260, 261, 262, 104, 94, 263, 265, 258, 103, 266, 267, 268, 269, 168, 98, 99, 195, 100, 102, 196, 101, 270, 271, 272, 273, 95, 96, 274, 275, 276, 277, 278, 279, 280, 281, 445, 446, 447, 448, 449, 450, 451, 452, 97, 540, 541, 542, 543, 544, 545, 546, 547, 548, 549, 550, 551, 552, 553, 554, 555, 556, 557, 558, 559, 560, 561] (by decide +kernel) (by decide +kernel)
set_option maxRecDepth 20000 in
theorem gL_law_X6_knocks : GoodIn wsL_law (wsV RL 137 RX6 yX6_knocks wsX6_knocks) := goodIn_app (goodIn_of _ (by decide +kernel)) ggL_law_X6_knocks
theorem dL_law_0 : decode cL_law 0 = .ok (.new 8, 3) := by decide +kernel
theorem dL_law_3 : decode cL_law 3 = .ok (.dup, 1) := by decide +kernel
theorem dL_law_4 : decode cL_law 4 = .ok (.invokespecial 43, 3) := by decide +kernel
theorem dL_law_7 : decode cL_law 7 = .ok (.astore_n 1, 1) := by decide +kernel
theorem dL_law_8 : decode cL_law 8 = .ok (.new 44, 3) := by decide +kernel
theorem dL_law_11 : decode cL_law 11 = .ok (.dup, 1) := by decide +kernel
theorem dL_law_12 : decode cL_law 12 = .ok (.invokespecial 46, 3) := by decide +kernel
theorem dL_law_15 : decode cL_law 15 = .ok (.astore_n 2, 1) := by decide +kernel
theorem dL_law_16 : decode cL_law 16 = .ok (.iconst 1, 1) := by decide +kernel
theorem dL_law_17 : decode cL_law 17 = .ok (.newarray .long, 2) := by decide +kernel
theorem dL_law_19 : decode cL_law 19 = .ok (.astore_n 3, 1) := by decide +kernel
theorem dL_law_20 : decode cL_law 20 = .ok (.iconst 0, 1) := by decide +kernel
theorem dL_law_21 : decode cL_law 21 = .ok (.istore 4, 2) := by decide +kernel
theorem dL_law_23 : decode cL_law 23 = .ok (.iload 4, 2) := by decide +kernel
theorem dL_law_25 : decode cL_law 25 = .ok (.aload_n 0, 1) := by decide +kernel
theorem dL_law_26 : decode cL_law 26 = .ok (.arraylength, 1) := by decide +kernel
theorem dL_law_27 : decode cL_law 27 = .ok (.bipush 6, 2) := by decide +kernel
theorem dL_law_29 : decode cL_law 29 = .ok (.isub, 1) := by decide +kernel
theorem dL_law_30 : decode cL_law 30 = .ok (.if_icmp .gt 803, 3) := by decide +kernel
theorem dL_law_33 : decode cL_law 33 = .ok (.aload_n 0, 1) := by decide +kernel
theorem dL_law_34 : decode cL_law 34 = .ok (.iload 4, 2) := by decide +kernel
theorem dL_law_36 : decode cL_law 36 = .ok (.iaload, 1) := by decide +kernel
theorem dL_law_37 : decode cL_law 37 = .ok (.bipush 31, 2) := by decide +kernel
theorem dL_law_39 : decode cL_law 39 = .ok (.iand, 1) := by decide +kernel
theorem dL_law_40 : decode cL_law 40 = .ok (.tableswitch 787 0 20 #[100, 172, 236, 320, 387, 459, 503, 516, 572, 585, 598, 611, 624, 637, 651, 665, 679, 692, 705, 718, 773], 100) := by decide +kernel
theorem dL_law_140 : decode cL_law 140 = .ok (.aload_n 1, 1) := by decide +kernel
theorem dL_law_141 : decode cL_law 141 = .ok (.aload_n 0, 1) := by decide +kernel
theorem dL_law_142 : decode cL_law 142 = .ok (.iload 4, 2) := by decide +kernel
theorem dL_law_144 : decode cL_law 144 = .ok (.iconst 1, 1) := by decide +kernel
theorem dL_law_145 : decode cL_law 145 = .ok (.iadd, 1) := by decide +kernel
theorem dL_law_146 : decode cL_law 146 = .ok (.iaload, 1) := by decide +kernel
theorem dL_law_147 : decode cL_law 147 = .ok (.aload_n 0, 1) := by decide +kernel
theorem dL_law_148 : decode cL_law 148 = .ok (.iload 4, 2) := by decide +kernel
theorem dL_law_150 : decode cL_law 150 = .ok (.iconst 2, 1) := by decide +kernel
theorem dL_law_151 : decode cL_law 151 = .ok (.iadd, 1) := by decide +kernel
theorem dL_law_152 : decode cL_law 152 = .ok (.iaload, 1) := by decide +kernel
theorem dL_law_153 : decode cL_law 153 = .ok (.aload_n 0, 1) := by decide +kernel
theorem dL_law_154 : decode cL_law 154 = .ok (.iload 4, 2) := by decide +kernel
theorem dL_law_156 : decode cL_law 156 = .ok (.iconst 3, 1) := by decide +kernel
theorem dL_law_157 : decode cL_law 157 = .ok (.iadd, 1) := by decide +kernel
theorem dL_law_158 : decode cL_law 158 = .ok (.iaload, 1) := by decide +kernel
theorem dL_law_159 : decode cL_law 159 = .ok (.aload_n 0, 1) := by decide +kernel
theorem dL_law_160 : decode cL_law 160 = .ok (.iload 4, 2) := by decide +kernel
theorem dL_law_162 : decode cL_law 162 = .ok (.iconst 4, 1) := by decide +kernel
theorem dL_law_163 : decode cL_law 163 = .ok (.iadd, 1) := by decide +kernel
theorem dL_law_164 : decode cL_law 164 = .ok (.iaload, 1) := by decide +kernel
theorem dL_law_165 : decode cL_law 165 = .ok (.invokestatic 47, 3) := by decide +kernel
theorem dL_law_168 : decode cL_law 168 = .ok (.istore 5, 2) := by decide +kernel
theorem dL_law_170 : decode cL_law 170 = .ok (.aload_n 2, 1) := by decide +kernel
theorem dL_law_171 : decode cL_law 171 = .ok (.aload_n 0, 1) := by decide +kernel
theorem dL_law_172 : decode cL_law 172 = .ok (.iload 4, 2) := by decide +kernel
theorem dL_law_174 : decode cL_law 174 = .ok (.iconst 1, 1) := by decide +kernel
theorem dL_law_175 : decode cL_law 175 = .ok (.iadd, 1) := by decide +kernel
theorem dL_law_176 : decode cL_law 176 = .ok (.iaload, 1) := by decide +kernel
theorem dL_law_177 : decode cL_law 177 = .ok (.aload_n 0, 1) := by decide +kernel
theorem dL_law_178 : decode cL_law 178 = .ok (.iload 4, 2) := by decide +kernel
theorem dL_law_180 : decode cL_law 180 = .ok (.iconst 2, 1) := by decide +kernel
theorem dL_law_181 : decode cL_law 181 = .ok (.iadd, 1) := by decide +kernel
theorem dL_law_182 : decode cL_law 182 = .ok (.iaload, 1) := by decide +kernel
theorem dL_law_183 : decode cL_law 183 = .ok (.aload_n 0, 1) := by decide +kernel
theorem dL_law_184 : decode cL_law 184 = .ok (.iload 4, 2) := by decide +kernel
theorem dL_law_186 : decode cL_law 186 = .ok (.iconst 3, 1) := by decide +kernel
theorem dL_law_187 : decode cL_law 187 = .ok (.iadd, 1) := by decide +kernel
theorem dL_law_188 : decode cL_law 188 = .ok (.iaload, 1) := by decide +kernel
theorem dL_law_189 : decode cL_law 189 = .ok (.aload_n 0, 1) := by decide +kernel
theorem dL_law_190 : decode cL_law 190 = .ok (.iload 4, 2) := by decide +kernel
theorem dL_law_192 : decode cL_law 192 = .ok (.iconst 4, 1) := by decide +kernel
theorem dL_law_193 : decode cL_law 193 = .ok (.iadd, 1) := by decide +kernel
theorem dL_law_194 : decode cL_law 194 = .ok (.iaload, 1) := by decide +kernel
theorem dL_law_195 : decode cL_law 195 = .ok (.invokevirtual 52, 3) := by decide +kernel
theorem dL_law_198 : decode cL_law 198 = .ok (.aload_n 2, 1) := by decide +kernel
theorem dL_law_199 : decode cL_law 199 = .ok (.invokevirtual 53, 3) := by decide +kernel
theorem dL_law_202 : decode cL_law 202 = .ok (.iload 5, 2) := by decide +kernel
theorem dL_law_204 : decode cL_law 204 = .ok (.if_icmp .eq 5, 3) := by decide +kernel
theorem dL_law_207 : decode cL_law 207 = .ok (.iconst 0, 1) := by decide +kernel
theorem dL_law_208 : decode cL_law 208 = .ok (.ireturn, 1) := by decide +kernel
theorem dL_law_209 : decode cL_law 209 = .ok (.goto 618, 3) := by decide +kernel
theorem dL_law_212 : decode cL_law 212 = .ok (.aload_n 1, 1) := by decide +kernel
theorem dL_law_213 : decode cL_law 213 = .ok (.aload_n 0, 1) := by decide +kernel
theorem dL_law_214 : decode cL_law 214 = .ok (.iload 4, 2) := by decide +kernel
theorem dL_law_216 : decode cL_law 216 = .ok (.iconst 1, 1) := by decide +kernel
theorem dL_law_217 : decode cL_law 217 = .ok (.iadd, 1) := by decide +kernel
theorem dL_law_218 : decode cL_law 218 = .ok (.iaload, 1) := by decide +kernel
theorem dL_law_219 : decode cL_law 219 = .ok (.ifCond .eq 7, 3) := by decide +kernel
theorem dL_law_222 : decode cL_law 222 = .ok (.iconst 1, 1) := by decide +kernel
theorem dL_law_223 : decode cL_law 223 = .ok (.goto 4, 3) := by decide +kernel
theorem dL_law_226 : decode cL_law 226 = .ok (.iconst 0, 1) := by decide +kernel
theorem dL_law_227 : decode cL_law 227 = .ok (.aload_n 0, 1) := by decide +kernel
theorem dL_law_228 : decode cL_law 228 = .ok (.iload 4, 2) := by decide +kernel
theorem dL_law_230 : decode cL_law 230 = .ok (.iconst 2, 1) := by decide +kernel
theorem dL_law_231 : decode cL_law 231 = .ok (.iadd, 1) := by decide +kernel
theorem dL_law_232 : decode cL_law 232 = .ok (.iaload, 1) := by decide +kernel
theorem dL_law_233 : decode cL_law 233 = .ok (.invokestatic 56, 3) := by decide +kernel
theorem dL_law_236 : decode cL_law 236 = .ok (.istore 5, 2) := by decide +kernel
theorem dL_law_238 : decode cL_law 238 = .ok (.aload_n 2, 1) := by decide +kernel
theorem dL_law_239 : decode cL_law 239 = .ok (.aload_n 0, 1) := by decide +kernel
theorem dL_law_240 : decode cL_law 240 = .ok (.iload 4, 2) := by decide +kernel
theorem dL_law_242 : decode cL_law 242 = .ok (.iconst 1, 1) := by decide +kernel
theorem dL_law_243 : decode cL_law 243 = .ok (.iadd, 1) := by decide +kernel
theorem dL_law_244 : decode cL_law 244 = .ok (.iaload, 1) := by decide +kernel
theorem dL_law_245 : decode cL_law 245 = .ok (.ifCond .eq 7, 3) := by decide +kernel
theorem dL_law_248 : decode cL_law 248 = .ok (.iconst 1, 1) := by decide +kernel
theorem dL_law_249 : decode cL_law 249 = .ok (.goto 4, 3) := by decide +kernel
theorem dL_law_252 : decode cL_law 252 = .ok (.iconst 0, 1) := by decide +kernel
theorem dL_law_253 : decode cL_law 253 = .ok (.aload_n 0, 1) := by decide +kernel
theorem dL_law_254 : decode cL_law 254 = .ok (.iload 4, 2) := by decide +kernel
theorem dL_law_256 : decode cL_law 256 = .ok (.iconst 2, 1) := by decide +kernel
theorem dL_law_257 : decode cL_law 257 = .ok (.iadd, 1) := by decide +kernel
theorem dL_law_258 : decode cL_law 258 = .ok (.iaload, 1) := by decide +kernel
theorem dL_law_259 : decode cL_law 259 = .ok (.invokevirtual 59, 3) := by decide +kernel
theorem dL_law_262 : decode cL_law 262 = .ok (.aload_n 2, 1) := by decide +kernel
theorem dL_law_263 : decode cL_law 263 = .ok (.invokevirtual 53, 3) := by decide +kernel
theorem dL_law_266 : decode cL_law 266 = .ok (.iload 5, 2) := by decide +kernel
theorem dL_law_268 : decode cL_law 268 = .ok (.if_icmp .eq 5, 3) := by decide +kernel
theorem dL_law_271 : decode cL_law 271 = .ok (.iconst 0, 1) := by decide +kernel
theorem dL_law_272 : decode cL_law 272 = .ok (.ireturn, 1) := by decide +kernel
theorem dL_law_273 : decode cL_law 273 = .ok (.goto 554, 3) := by decide +kernel
theorem dL_law_276 : decode cL_law 276 = .ok (.aload_n 1, 1) := by decide +kernel
theorem dL_law_277 : decode cL_law 277 = .ok (.aload_n 0, 1) := by decide +kernel
theorem dL_law_278 : decode cL_law 278 = .ok (.iload 4, 2) := by decide +kernel
theorem dL_law_280 : decode cL_law 280 = .ok (.iconst 1, 1) := by decide +kernel
theorem dL_law_281 : decode cL_law 281 = .ok (.iadd, 1) := by decide +kernel
theorem dL_law_282 : decode cL_law 282 = .ok (.iaload, 1) := by decide +kernel
theorem dL_law_283 : decode cL_law 283 = .ok (.aload_n 0, 1) := by decide +kernel
theorem dL_law_284 : decode cL_law 284 = .ok (.iload 4, 2) := by decide +kernel
theorem dL_law_286 : decode cL_law 286 = .ok (.iconst 2, 1) := by decide +kernel
theorem dL_law_287 : decode cL_law 287 = .ok (.iadd, 1) := by decide +kernel
theorem dL_law_288 : decode cL_law 288 = .ok (.iaload, 1) := by decide +kernel
theorem dL_law_289 : decode cL_law 289 = .ok (.aload_n 0, 1) := by decide +kernel
theorem dL_law_290 : decode cL_law 290 = .ok (.iload 4, 2) := by decide +kernel
theorem dL_law_292 : decode cL_law 292 = .ok (.iconst 3, 1) := by decide +kernel
theorem dL_law_293 : decode cL_law 293 = .ok (.iadd, 1) := by decide +kernel
theorem dL_law_294 : decode cL_law 294 = .ok (.iaload, 1) := by decide +kernel
theorem dL_law_295 : decode cL_law 295 = .ok (.aload_n 0, 1) := by decide +kernel
theorem dL_law_296 : decode cL_law 296 = .ok (.iload 4, 2) := by decide +kernel
theorem dL_law_298 : decode cL_law 298 = .ok (.iconst 4, 1) := by decide +kernel
theorem dL_law_299 : decode cL_law 299 = .ok (.iadd, 1) := by decide +kernel
theorem dL_law_300 : decode cL_law 300 = .ok (.iaload, 1) := by decide +kernel
theorem dL_law_301 : decode cL_law 301 = .ok (.aload_n 0, 1) := by decide +kernel
theorem dL_law_302 : decode cL_law 302 = .ok (.iload 4, 2) := by decide +kernel
theorem dL_law_304 : decode cL_law 304 = .ok (.iconst 5, 1) := by decide +kernel
theorem dL_law_305 : decode cL_law 305 = .ok (.iadd, 1) := by decide +kernel
theorem dL_law_306 : decode cL_law 306 = .ok (.iaload, 1) := by decide +kernel
theorem dL_law_307 : decode cL_law 307 = .ok (.invokestatic 60, 3) := by decide +kernel
theorem dL_law_310 : decode cL_law 310 = .ok (.istore 5, 2) := by decide +kernel
theorem dL_law_312 : decode cL_law 312 = .ok (.aload_n 2, 1) := by decide +kernel
theorem dL_law_313 : decode cL_law 313 = .ok (.aload_n 0, 1) := by decide +kernel
theorem dL_law_314 : decode cL_law 314 = .ok (.iload 4, 2) := by decide +kernel
theorem dL_law_316 : decode cL_law 316 = .ok (.iconst 1, 1) := by decide +kernel
theorem dL_law_317 : decode cL_law 317 = .ok (.iadd, 1) := by decide +kernel
theorem dL_law_318 : decode cL_law 318 = .ok (.iaload, 1) := by decide +kernel
theorem dL_law_319 : decode cL_law 319 = .ok (.aload_n 0, 1) := by decide +kernel
theorem dL_law_320 : decode cL_law 320 = .ok (.iload 4, 2) := by decide +kernel
theorem dL_law_322 : decode cL_law 322 = .ok (.iconst 2, 1) := by decide +kernel
theorem dL_law_323 : decode cL_law 323 = .ok (.iadd, 1) := by decide +kernel
theorem dL_law_324 : decode cL_law 324 = .ok (.iaload, 1) := by decide +kernel
theorem dL_law_325 : decode cL_law 325 = .ok (.aload_n 0, 1) := by decide +kernel
theorem dL_law_326 : decode cL_law 326 = .ok (.iload 4, 2) := by decide +kernel
theorem dL_law_328 : decode cL_law 328 = .ok (.iconst 3, 1) := by decide +kernel
theorem dL_law_329 : decode cL_law 329 = .ok (.iadd, 1) := by decide +kernel
theorem dL_law_330 : decode cL_law 330 = .ok (.iaload, 1) := by decide +kernel
theorem dL_law_331 : decode cL_law 331 = .ok (.aload_n 0, 1) := by decide +kernel
theorem dL_law_332 : decode cL_law 332 = .ok (.iload 4, 2) := by decide +kernel
theorem dL_law_334 : decode cL_law 334 = .ok (.iconst 4, 1) := by decide +kernel
theorem dL_law_335 : decode cL_law 335 = .ok (.iadd, 1) := by decide +kernel
theorem dL_law_336 : decode cL_law 336 = .ok (.iaload, 1) := by decide +kernel
theorem dL_law_337 : decode cL_law 337 = .ok (.aload_n 0, 1) := by decide +kernel
theorem dL_law_338 : decode cL_law 338 = .ok (.iload 4, 2) := by decide +kernel
theorem dL_law_340 : decode cL_law 340 = .ok (.iconst 5, 1) := by decide +kernel
theorem dL_law_341 : decode cL_law 341 = .ok (.iadd, 1) := by decide +kernel
theorem dL_law_342 : decode cL_law 342 = .ok (.iaload, 1) := by decide +kernel
theorem dL_law_343 : decode cL_law 343 = .ok (.invokevirtual 63, 3) := by decide +kernel
theorem dL_law_346 : decode cL_law 346 = .ok (.aload_n 2, 1) := by decide +kernel
theorem dL_law_347 : decode cL_law 347 = .ok (.invokevirtual 53, 3) := by decide +kernel
theorem dL_law_350 : decode cL_law 350 = .ok (.iload 5, 2) := by decide +kernel
theorem dL_law_352 : decode cL_law 352 = .ok (.if_icmp .eq 5, 3) := by decide +kernel
theorem dL_law_355 : decode cL_law 355 = .ok (.iconst 0, 1) := by decide +kernel
theorem dL_law_356 : decode cL_law 356 = .ok (.ireturn, 1) := by decide +kernel
theorem dL_law_357 : decode cL_law 357 = .ok (.goto 470, 3) := by decide +kernel
theorem dL_law_360 : decode cL_law 360 = .ok (.aload_n 1, 1) := by decide +kernel
theorem dL_law_361 : decode cL_law 361 = .ok (.aload_n 0, 1) := by decide +kernel
theorem dL_law_362 : decode cL_law 362 = .ok (.iload 4, 2) := by decide +kernel
theorem dL_law_364 : decode cL_law 364 = .ok (.iconst 1, 1) := by decide +kernel
theorem dL_law_365 : decode cL_law 365 = .ok (.iadd, 1) := by decide +kernel
theorem dL_law_366 : decode cL_law 366 = .ok (.iaload, 1) := by decide +kernel
theorem dL_law_367 : decode cL_law 367 = .ok (.ifCond .eq 7, 3) := by decide +kernel
theorem dL_law_370 : decode cL_law 370 = .ok (.iconst 1, 1) := by decide +kernel
theorem dL_law_371 : decode cL_law 371 = .ok (.goto 4, 3) := by decide +kernel
theorem dL_law_374 : decode cL_law 374 = .ok (.iconst 0, 1) := by decide +kernel
theorem dL_law_375 : decode cL_law 375 = .ok (.aload_n 0, 1) := by decide +kernel
theorem dL_law_376 : decode cL_law 376 = .ok (.iload 4, 2) := by decide +kernel
theorem dL_law_378 : decode cL_law 378 = .ok (.iconst 2, 1) := by decide +kernel
theorem dL_law_379 : decode cL_law 379 = .ok (.iadd, 1) := by decide +kernel
theorem dL_law_380 : decode cL_law 380 = .ok (.iaload, 1) := by decide +kernel
theorem dL_law_381 : decode cL_law 381 = .ok (.ifCond .eq 7, 3) := by decide +kernel
theorem dL_law_384 : decode cL_law 384 = .ok (.iconst 1, 1) := by decide +kernel
theorem dL_law_385 : decode cL_law 385 = .ok (.goto 4, 3) := by decide +kernel
theorem dL_law_388 : decode cL_law 388 = .ok (.iconst 0, 1) := by decide +kernel
theorem dL_law_389 : decode cL_law 389 = .ok (.invokevirtual 64, 3) := by decide +kernel
theorem dL_law_392 : decode cL_law 392 = .ok (.aload_n 2, 1) := by decide +kernel
theorem dL_law_393 : decode cL_law 393 = .ok (.aload_n 0, 1) := by decide +kernel
theorem dL_law_394 : decode cL_law 394 = .ok (.iload 4, 2) := by decide +kernel
theorem dL_law_396 : decode cL_law 396 = .ok (.iconst 1, 1) := by decide +kernel
theorem dL_law_397 : decode cL_law 397 = .ok (.iadd, 1) := by decide +kernel
theorem dL_law_398 : decode cL_law 398 = .ok (.iaload, 1) := by decide +kernel
theorem dL_law_399 : decode cL_law 399 = .ok (.ifCond .eq 7, 3) := by decide +kernel
theorem dL_law_402 : decode cL_law 402 = .ok (.iconst 1, 1) := by decide +kernel
theorem dL_law_403 : decode cL_law 403 = .ok (.goto 4, 3) := by decide +kernel
theorem dL_law_406 : decode cL_law 406 = .ok (.iconst 0, 1) := by decide +kernel
theorem dL_law_407 : decode cL_law 407 = .ok (.aload_n 0, 1) := by decide +kernel
theorem dL_law_408 : decode cL_law 408 = .ok (.iload 4, 2) := by decide +kernel
theorem dL_law_410 : decode cL_law 410 = .ok (.iconst 2, 1) := by decide +kernel
theorem dL_law_411 : decode cL_law 411 = .ok (.iadd, 1) := by decide +kernel
theorem dL_law_412 : decode cL_law 412 = .ok (.iaload, 1) := by decide +kernel
theorem dL_law_413 : decode cL_law 413 = .ok (.ifCond .eq 7, 3) := by decide +kernel
theorem dL_law_416 : decode cL_law 416 = .ok (.iconst 1, 1) := by decide +kernel
theorem dL_law_417 : decode cL_law 417 = .ok (.goto 4, 3) := by decide +kernel
theorem dL_law_420 : decode cL_law 420 = .ok (.iconst 0, 1) := by decide +kernel
theorem dL_law_421 : decode cL_law 421 = .ok (.invokevirtual 68, 3) := by decide +kernel
theorem dL_law_424 : decode cL_law 424 = .ok (.goto 403, 3) := by decide +kernel
theorem dL_law_427 : decode cL_law 427 = .ok (.aload_n 1, 1) := by decide +kernel
theorem dL_law_428 : decode cL_law 428 = .ok (.aload_n 0, 1) := by decide +kernel
theorem dL_law_429 : decode cL_law 429 = .ok (.iload 4, 2) := by decide +kernel
theorem dL_law_431 : decode cL_law 431 = .ok (.iconst 1, 1) := by decide +kernel
theorem dL_law_432 : decode cL_law 432 = .ok (.iadd, 1) := by decide +kernel
theorem dL_law_433 : decode cL_law 433 = .ok (.iaload, 1) := by decide +kernel
theorem dL_law_434 : decode cL_law 434 = .ok (.ifCond .eq 7, 3) := by decide +kernel
theorem dL_law_437 : decode cL_law 437 = .ok (.iconst 1, 1) := by decide +kernel
theorem dL_law_438 : decode cL_law 438 = .ok (.goto 4, 3) := by decide +kernel
theorem dL_law_441 : decode cL_law 441 = .ok (.iconst 0, 1) := by decide +kernel
theorem dL_law_442 : decode cL_law 442 = .ok (.aload_n 3, 1) := by decide +kernel
theorem dL_law_443 : decode cL_law 443 = .ok (.invokestatic 69, 3) := by decide +kernel
theorem dL_law_446 : decode cL_law 446 = .ok (.istore 5, 2) := by decide +kernel
theorem dL_law_448 : decode cL_law 448 = .ok (.aload_n 2, 1) := by decide +kernel
theorem dL_law_449 : decode cL_law 449 = .ok (.aload_n 0, 1) := by decide +kernel
theorem dL_law_450 : decode cL_law 450 = .ok (.iload 4, 2) := by decide +kernel
theorem dL_law_452 : decode cL_law 452 = .ok (.iconst 1, 1) := by decide +kernel
theorem dL_law_453 : decode cL_law 453 = .ok (.iadd, 1) := by decide +kernel
theorem dL_law_454 : decode cL_law 454 = .ok (.iaload, 1) := by decide +kernel
theorem dL_law_455 : decode cL_law 455 = .ok (.ifCond .eq 7, 3) := by decide +kernel
theorem dL_law_458 : decode cL_law 458 = .ok (.iconst 1, 1) := by decide +kernel
theorem dL_law_459 : decode cL_law 459 = .ok (.goto 4, 3) := by decide +kernel
theorem dL_law_462 : decode cL_law 462 = .ok (.iconst 0, 1) := by decide +kernel
theorem dL_law_463 : decode cL_law 463 = .ok (.invokevirtual 72, 3) := by decide +kernel
theorem dL_law_466 : decode cL_law 466 = .ok (.istore 6, 2) := by decide +kernel
theorem dL_law_468 : decode cL_law 468 = .ok (.aload_n 2, 1) := by decide +kernel
theorem dL_law_469 : decode cL_law 469 = .ok (.invokevirtual 53, 3) := by decide +kernel
theorem dL_law_472 : decode cL_law 472 = .ok (.iload 5, 2) := by decide +kernel
theorem dL_law_474 : decode cL_law 474 = .ok (.if_icmp .eq 5, 3) := by decide +kernel
theorem dL_law_477 : decode cL_law 477 = .ok (.iconst 0, 1) := by decide +kernel
theorem dL_law_478 : decode cL_law 478 = .ok (.ireturn, 1) := by decide +kernel
theorem dL_law_479 : decode cL_law 479 = .ok (.iload 5, 2) := by decide +kernel
theorem dL_law_481 : decode cL_law 481 = .ok (.ifCond .ne 15, 3) := by decide +kernel
theorem dL_law_484 : decode cL_law 484 = .ok (.aload_n 3, 1) := by decide +kernel
theorem dL_law_485 : decode cL_law 485 = .ok (.iconst 0, 1) := by decide +kernel
theorem dL_law_486 : decode cL_law 486 = .ok (.laload, 1) := by decide +kernel
theorem dL_law_487 : decode cL_law 487 = .ok (.iload 6, 2) := by decide +kernel
theorem dL_law_489 : decode cL_law 489 = .ok (.i2l, 1) := by decide +kernel
theorem dL_law_490 : decode cL_law 490 = .ok (.lcmp, 1) := by decide +kernel
theorem dL_law_491 : decode cL_law 491 = .ok (.ifCond .eq 5, 3) := by decide +kernel
theorem dL_law_494 : decode cL_law 494 = .ok (.iconst 0, 1) := by decide +kernel
theorem dL_law_495 : decode cL_law 495 = .ok (.ireturn, 1) := by decide +kernel
theorem dL_law_496 : decode cL_law 496 = .ok (.goto 331, 3) := by decide +kernel
theorem dL_law_499 : decode cL_law 499 = .ok (.aload_n 1, 1) := by decide +kernel
theorem dL_law_500 : decode cL_law 500 = .ok (.aload_n 3, 1) := by decide +kernel
theorem dL_law_501 : decode cL_law 501 = .ok (.invokestatic 73, 3) := by decide +kernel
theorem dL_law_504 : decode cL_law 504 = .ok (.istore 5, 2) := by decide +kernel
theorem dL_law_506 : decode cL_law 506 = .ok (.aload_n 2, 1) := by decide +kernel
theorem dL_law_507 : decode cL_law 507 = .ok (.invokevirtual 76, 3) := by decide +kernel
theorem dL_law_510 : decode cL_law 510 = .ok (.istore 6, 2) := by decide +kernel
theorem dL_law_512 : decode cL_law 512 = .ok (.aload_n 2, 1) := by decide +kernel
theorem dL_law_513 : decode cL_law 513 = .ok (.invokevirtual 53, 3) := by decide +kernel
theorem dL_law_516 : decode cL_law 516 = .ok (.iload 5, 2) := by decide +kernel
theorem dL_law_518 : decode cL_law 518 = .ok (.if_icmp .eq 5, 3) := by decide +kernel
theorem dL_law_521 : decode cL_law 521 = .ok (.iconst 0, 1) := by decide +kernel
theorem dL_law_522 : decode cL_law 522 = .ok (.ireturn, 1) := by decide +kernel
theorem dL_law_523 : decode cL_law 523 = .ok (.iload 5, 2) := by decide +kernel
theorem dL_law_525 : decode cL_law 525 = .ok (.ifCond .ne 15, 3) := by decide +kernel
theorem dL_law_528 : decode cL_law 528 = .ok (.aload_n 3, 1) := by decide +kernel
theorem dL_law_529 : decode cL_law 529 = .ok (.iconst 0, 1) := by decide +kernel
theorem dL_law_530 : decode cL_law 530 = .ok (.laload, 1) := by decide +kernel
theorem dL_law_531 : decode cL_law 531 = .ok (.iload 6, 2) := by decide +kernel
theorem dL_law_533 : decode cL_law 533 = .ok (.i2l, 1) := by decide +kernel
theorem dL_law_534 : decode cL_law 534 = .ok (.lcmp, 1) := by decide +kernel
theorem dL_law_535 : decode cL_law 535 = .ok (.ifCond .eq 5, 3) := by decide +kernel
theorem dL_law_538 : decode cL_law 538 = .ok (.iconst 0, 1) := by decide +kernel
theorem dL_law_539 : decode cL_law 539 = .ok (.ireturn, 1) := by decide +kernel
theorem dL_law_540 : decode cL_law 540 = .ok (.goto 287, 3) := by decide +kernel
theorem dL_law_543 : decode cL_law 543 = .ok (.aload_n 1, 1) := by decide +kernel
theorem dL_law_544 : decode cL_law 544 = .ok (.invokevirtual 77, 3) := by decide +kernel
theorem dL_law_547 : decode cL_law 547 = .ok (.aload_n 2, 1) := by decide +kernel
theorem dL_law_548 : decode cL_law 548 = .ok (.invokevirtual 80, 3) := by decide +kernel
theorem dL_law_551 : decode cL_law 551 = .ok (.if_icmp .eq 276, 3) := by decide +kernel
theorem dL_law_554 : decode cL_law 554 = .ok (.iconst 0, 1) := by decide +kernel
theorem dL_law_555 : decode cL_law 555 = .ok (.ireturn, 1) := by decide +kernel
theorem dL_law_556 : decode cL_law 556 = .ok (.aload_n 1, 1) := by decide +kernel
theorem dL_law_557 : decode cL_law 557 = .ok (.aload_n 0, 1) := by decide +kernel
theorem dL_law_558 : decode cL_law 558 = .ok (.iload 4, 2) := by decide +kernel
theorem dL_law_560 : decode cL_law 560 = .ok (.iconst 1, 1) := by decide +kernel
theorem dL_law_561 : decode cL_law 561 = .ok (.iadd, 1) := by decide +kernel
theorem dL_law_562 : decode cL_law 562 = .ok (.iaload, 1) := by decide +kernel
theorem dL_law_563 : decode cL_law 563 = .ok (.aload_n 3, 1) := by decide +kernel
theorem dL_law_564 : decode cL_law 564 = .ok (.invokestatic 81, 3) := by decide +kernel
theorem dL_law_567 : decode cL_law 567 = .ok (.istore 5, 2) := by decide +kernel
theorem dL_law_569 : decode cL_law 569 = .ok (.aload_n 2, 1) := by decide +kernel
theorem dL_law_570 : decode cL_law 570 = .ok (.aload_n 0, 1) := by decide +kernel
theorem dL_law_571 : decode cL_law 571 = .ok (.iload 4, 2) := by decide +kernel
theorem dL_law_573 : decode cL_law 573 = .ok (.iconst 1, 1) := by decide +kernel
theorem dL_law_574 : decode cL_law 574 = .ok (.iadd, 1) := by decide +kernel
theorem dL_law_575 : decode cL_law 575 = .ok (.iaload, 1) := by decide +kernel
theorem dL_law_576 : decode cL_law 576 = .ok (.invokevirtual 84, 3) := by decide +kernel
theorem dL_law_579 : decode cL_law 579 = .ok (.istore 6, 2) := by decide +kernel
theorem dL_law_581 : decode cL_law 581 = .ok (.aload_n 2, 1) := by decide +kernel
theorem dL_law_582 : decode cL_law 582 = .ok (.invokevirtual 53, 3) := by decide +kernel
theorem dL_law_585 : decode cL_law 585 = .ok (.iload 5, 2) := by decide +kernel
theorem dL_law_587 : decode cL_law 587 = .ok (.if_icmp .eq 5, 3) := by decide +kernel
theorem dL_law_590 : decode cL_law 590 = .ok (.iconst 0, 1) := by decide +kernel
theorem dL_law_591 : decode cL_law 591 = .ok (.ireturn, 1) := by decide +kernel
theorem dL_law_592 : decode cL_law 592 = .ok (.iload 5, 2) := by decide +kernel
theorem dL_law_594 : decode cL_law 594 = .ok (.ifCond .ne 15, 3) := by decide +kernel
theorem dL_law_597 : decode cL_law 597 = .ok (.aload_n 3, 1) := by decide +kernel
theorem dL_law_598 : decode cL_law 598 = .ok (.iconst 0, 1) := by decide +kernel
theorem dL_law_599 : decode cL_law 599 = .ok (.laload, 1) := by decide +kernel
theorem dL_law_600 : decode cL_law 600 = .ok (.iload 6, 2) := by decide +kernel
theorem dL_law_602 : decode cL_law 602 = .ok (.i2l, 1) := by decide +kernel
theorem dL_law_603 : decode cL_law 603 = .ok (.lcmp, 1) := by decide +kernel
theorem dL_law_604 : decode cL_law 604 = .ok (.ifCond .eq 5, 3) := by decide +kernel
theorem dL_law_607 : decode cL_law 607 = .ok (.iconst 0, 1) := by decide +kernel
theorem dL_law_608 : decode cL_law 608 = .ok (.ireturn, 1) := by decide +kernel
theorem dL_law_609 : decode cL_law 609 = .ok (.goto 218, 3) := by decide +kernel
theorem dL_law_612 : decode cL_law 612 = .ok (.aload_n 1, 1) := by decide +kernel
theorem dL_law_613 : decode cL_law 613 = .ok (.invokevirtual 85, 3) := by decide +kernel
theorem dL_law_616 : decode cL_law 616 = .ok (.aload_n 2, 1) := by decide +kernel
theorem dL_law_617 : decode cL_law 617 = .ok (.invokevirtual 88, 3) := by decide +kernel
theorem dL_law_620 : decode cL_law 620 = .ok (.if_icmp .eq 207, 3) := by decide +kernel
theorem dL_law_623 : decode cL_law 623 = .ok (.iconst 0, 1) := by decide +kernel
theorem dL_law_624 : decode cL_law 624 = .ok (.ireturn, 1) := by decide +kernel
theorem dL_law_625 : decode cL_law 625 = .ok (.aload_n 1, 1) := by decide +kernel
theorem dL_law_626 : decode cL_law 626 = .ok (.invokevirtual 89, 3) := by decide +kernel
theorem dL_law_629 : decode cL_law 629 = .ok (.aload_n 2, 1) := by decide +kernel
theorem dL_law_630 : decode cL_law 630 = .ok (.invokevirtual 93, 3) := by decide +kernel
theorem dL_law_633 : decode cL_law 633 = .ok (.if_icmp .eq 194, 3) := by decide +kernel
theorem dL_law_636 : decode cL_law 636 = .ok (.iconst 0, 1) := by decide +kernel
theorem dL_law_637 : decode cL_law 637 = .ok (.ireturn, 1) := by decide +kernel
theorem dL_law_638 : decode cL_law 638 = .ok (.aload_n 1, 1) := by decide +kernel
theorem dL_law_639 : decode cL_law 639 = .ok (.invokevirtual 94, 3) := by decide +kernel
theorem dL_law_642 : decode cL_law 642 = .ok (.aload_n 2, 1) := by decide +kernel
theorem dL_law_643 : decode cL_law 643 = .ok (.invokevirtual 97, 3) := by decide +kernel
theorem dL_law_646 : decode cL_law 646 = .ok (.if_icmp .eq 181, 3) := by decide +kernel
theorem dL_law_649 : decode cL_law 649 = .ok (.iconst 0, 1) := by decide +kernel
theorem dL_law_650 : decode cL_law 650 = .ok (.ireturn, 1) := by decide +kernel
theorem dL_law_651 : decode cL_law 651 = .ok (.aload_n 1, 1) := by decide +kernel
theorem dL_law_652 : decode cL_law 652 = .ok (.invokevirtual 98, 3) := by decide +kernel
theorem dL_law_655 : decode cL_law 655 = .ok (.aload_n 2, 1) := by decide +kernel
theorem dL_law_656 : decode cL_law 656 = .ok (.invokevirtual 101, 3) := by decide +kernel
theorem dL_law_659 : decode cL_law 659 = .ok (.if_icmp .eq 168, 3) := by decide +kernel
theorem dL_law_662 : decode cL_law 662 = .ok (.iconst 0, 1) := by decide +kernel
theorem dL_law_663 : decode cL_law 663 = .ok (.ireturn, 1) := by decide +kernel
theorem dL_law_664 : decode cL_law 664 = .ok (.aload_n 1, 1) := by decide +kernel
theorem dL_law_665 : decode cL_law 665 = .ok (.invokevirtual 102, 3) := by decide +kernel
theorem dL_law_668 : decode cL_law 668 = .ok (.aload_n 2, 1) := by decide +kernel
theorem dL_law_669 : decode cL_law 669 = .ok (.invokevirtual 105, 3) := by decide +kernel
theorem dL_law_672 : decode cL_law 672 = .ok (.if_icmp .eq 155, 3) := by decide +kernel
theorem dL_law_675 : decode cL_law 675 = .ok (.iconst 0, 1) := by decide +kernel
theorem dL_law_676 : decode cL_law 676 = .ok (.ireturn, 1) := by decide +kernel
theorem dL_law_677 : decode cL_law 677 = .ok (.aload_n 1, 1) := by decide +kernel
theorem dL_law_678 : decode cL_law 678 = .ok (.invokevirtual 106, 3) := by decide +kernel
theorem dL_law_681 : decode cL_law 681 = .ok (.aload_n 2, 1) := by decide +kernel
theorem dL_law_682 : decode cL_law 682 = .ok (.invokevirtual 110, 3) := by decide +kernel
theorem dL_law_685 : decode cL_law 685 = .ok (.lcmp, 1) := by decide +kernel
theorem dL_law_686 : decode cL_law 686 = .ok (.ifCond .eq 141, 3) := by decide +kernel
theorem dL_law_689 : decode cL_law 689 = .ok (.iconst 0, 1) := by decide +kernel
theorem dL_law_690 : decode cL_law 690 = .ok (.ireturn, 1) := by decide +kernel
theorem dL_law_691 : decode cL_law 691 = .ok (.aload_n 1, 1) := by decide +kernel
theorem dL_law_692 : decode cL_law 692 = .ok (.invokevirtual 111, 3) := by decide +kernel
theorem dL_law_695 : decode cL_law 695 = .ok (.aload_n 2, 1) := by decide +kernel
theorem dL_law_696 : decode cL_law 696 = .ok (.invokevirtual 114, 3) := by decide +kernel
theorem dL_law_699 : decode cL_law 699 = .ok (.lcmp, 1) := by decide +kernel
theorem dL_law_700 : decode cL_law 700 = .ok (.ifCond .eq 127, 3) := by decide +kernel
theorem dL_law_703 : decode cL_law 703 = .ok (.iconst 0, 1) := by decide +kernel
theorem dL_law_704 : decode cL_law 704 = .ok (.ireturn, 1) := by decide +kernel
theorem dL_law_705 : decode cL_law 705 = .ok (.aload_n 1, 1) := by decide +kernel
theorem dL_law_706 : decode cL_law 706 = .ok (.invokevirtual 115, 3) := by decide +kernel
theorem dL_law_709 : decode cL_law 709 = .ok (.aload_n 2, 1) := by decide +kernel
theorem dL_law_710 : decode cL_law 710 = .ok (.invokevirtual 118, 3) := by decide +kernel
theorem dL_law_713 : decode cL_law 713 = .ok (.lcmp, 1) := by decide +kernel
theorem dL_law_714 : decode cL_law 714 = .ok (.ifCond .eq 113, 3) := by decide +kernel
theorem dL_law_717 : decode cL_law 717 = .ok (.iconst 0, 1) := by decide +kernel
theorem dL_law_718 : decode cL_law 718 = .ok (.ireturn, 1) := by decide +kernel
theorem dL_law_719 : decode cL_law 719 = .ok (.aload_n 1, 1) := by decide +kernel
theorem dL_law_720 : decode cL_law 720 = .ok (.invokevirtual 119, 3) := by decide +kernel
theorem dL_law_723 : decode cL_law 723 = .ok (.aload_n 2, 1) := by decide +kernel
theorem dL_law_724 : decode cL_law 724 = .ok (.invokevirtual 122, 3) := by decide +kernel
theorem dL_law_727 : decode cL_law 727 = .ok (.if_icmp .eq 100, 3) := by decide +kernel
theorem dL_law_730 : decode cL_law 730 = .ok (.iconst 0, 1) := by decide +kernel
theorem dL_law_731 : decode cL_law 731 = .ok (.ireturn, 1) := by decide +kernel
theorem dL_law_732 : decode cL_law 732 = .ok (.aload_n 1, 1) := by decide +kernel
theorem dL_law_733 : decode cL_law 733 = .ok (.invokevirtual 123, 3) := by decide +kernel
theorem dL_law_736 : decode cL_law 736 = .ok (.aload_n 2, 1) := by decide +kernel
theorem dL_law_737 : decode cL_law 737 = .ok (.invokevirtual 126, 3) := by decide +kernel
theorem dL_law_740 : decode cL_law 740 = .ok (.if_icmp .eq 87, 3) := by decide +kernel
theorem dL_law_743 : decode cL_law 743 = .ok (.iconst 0, 1) := by decide +kernel
theorem dL_law_744 : decode cL_law 744 = .ok (.ireturn, 1) := by decide +kernel
theorem dL_law_745 : decode cL_law 745 = .ok (.aload_n 1, 1) := by decide +kernel
theorem dL_law_746 : decode cL_law 746 = .ok (.invokevirtual 127, 3) := by decide +kernel
theorem dL_law_749 : decode cL_law 749 = .ok (.aload_n 2, 1) := by decide +kernel
theorem dL_law_750 : decode cL_law 750 = .ok (.invokevirtual 130, 3) := by decide +kernel
theorem dL_law_753 : decode cL_law 753 = .ok (.if_icmp .eq 74, 3) := by decide +kernel
theorem dL_law_756 : decode cL_law 756 = .ok (.iconst 0, 1) := by decide +kernel
theorem dL_law_757 : decode cL_law 757 = .ok (.ireturn, 1) := by decide +kernel
theorem dL_law_758 : decode cL_law 758 = .ok (.aload_n 1, 1) := by decide +kernel
theorem dL_law_759 : decode cL_law 759 = .ok (.aload_n 0, 1) := by decide +kernel
theorem dL_law_760 : decode cL_law 760 = .ok (.iload 4, 2) := by decide +kernel
theorem dL_law_762 : decode cL_law 762 = .ok (.iconst 1, 1) := by decide +kernel
theorem dL_law_763 : decode cL_law 763 = .ok (.iadd, 1) := by decide +kernel
theorem dL_law_764 : decode cL_law 764 = .ok (.iaload, 1) := by decide +kernel
theorem dL_law_765 : decode cL_law 765 = .ok (.aload_n 3, 1) := by decide +kernel
theorem dL_law_766 : decode cL_law 766 = .ok (.invokestatic 131, 3) := by decide +kernel
theorem dL_law_769 : decode cL_law 769 = .ok (.istore 5, 2) := by decide +kernel
theorem dL_law_771 : decode cL_law 771 = .ok (.aload_n 2, 1) := by decide +kernel
theorem dL_law_772 : decode cL_law 772 = .ok (.aload_n 0, 1) := by decide +kernel
theorem dL_law_773 : decode cL_law 773 = .ok (.iload 4, 2) := by decide +kernel
theorem dL_law_775 : decode cL_law 775 = .ok (.iconst 1, 1) := by decide +kernel
theorem dL_law_776 : decode cL_law 776 = .ok (.iadd, 1) := by decide +kernel
theorem dL_law_777 : decode cL_law 777 = .ok (.iaload, 1) := by decide +kernel
theorem dL_law_778 : decode cL_law 778 = .ok (.invokevirtual 133, 3) := by decide +kernel
theorem dL_law_781 : decode cL_law 781 = .ok (.lstore 6, 2) := by decide +kernel
theorem dL_law_783 : decode cL_law 783 = .ok (.aload_n 2, 1) := by decide +kernel
theorem dL_law_784 : decode cL_law 784 = .ok (.invokevirtual 53, 3) := by decide +kernel
theorem dL_law_787 : decode cL_law 787 = .ok (.iload 5, 2) := by decide +kernel
theorem dL_law_789 : decode cL_law 789 = .ok (.if_icmp .eq 5, 3) := by decide +kernel
theorem dL_law_792 : decode cL_law 792 = .ok (.iconst 0, 1) := by decide +kernel
theorem dL_law_793 : decode cL_law 793 = .ok (.ireturn, 1) := by decide +kernel
theorem dL_law_794 : decode cL_law 794 = .ok (.iload 5, 2) := by decide +kernel
theorem dL_law_796 : decode cL_law 796 = .ok (.ifCond .ne 14, 3) := by decide +kernel
theorem dL_law_799 : decode cL_law 799 = .ok (.aload_n 3, 1) := by decide +kernel
theorem dL_law_800 : decode cL_law 800 = .ok (.iconst 0, 1) := by decide +kernel
theorem dL_law_801 : decode cL_law 801 = .ok (.laload, 1) := by decide +kernel
theorem dL_law_802 : decode cL_law 802 = .ok (.lload 6, 2) := by decide +kernel
theorem dL_law_804 : decode cL_law 804 = .ok (.lcmp, 1) := by decide +kernel
theorem dL_law_805 : decode cL_law 805 = .ok (.ifCond .eq 5, 3) := by decide +kernel
theorem dL_law_808 : decode cL_law 808 = .ok (.iconst 0, 1) := by decide +kernel
theorem dL_law_809 : decode cL_law 809 = .ok (.ireturn, 1) := by decide +kernel
theorem dL_law_810 : decode cL_law 810 = .ok (.goto 17, 3) := by decide +kernel
theorem dL_law_813 : decode cL_law 813 = .ok (.aload_n 1, 1) := by decide +kernel
theorem dL_law_814 : decode cL_law 814 = .ok (.invokevirtual 134, 3) := by decide +kernel
theorem dL_law_817 : decode cL_law 817 = .ok (.aload_n 2, 1) := by decide +kernel
theorem dL_law_818 : decode cL_law 818 = .ok (.invokevirtual 137, 3) := by decide +kernel
theorem dL_law_821 : decode cL_law 821 = .ok (.lcmp, 1) := by decide +kernel
theorem dL_law_822 : decode cL_law 822 = .ok (.ifCond .eq 5, 3) := by decide +kernel
theorem dL_law_825 : decode cL_law 825 = .ok (.iconst 0, 1) := by decide +kernel
theorem dL_law_826 : decode cL_law 826 = .ok (.ireturn, 1) := by decide +kernel
theorem dL_law_827 : decode cL_law 827 = .ok (.iinc 4 6, 3) := by decide +kernel
theorem dL_law_830 : decode cL_law 830 = .ok (.goto (-807), 3) := by decide +kernel
theorem dL_law_833 : decode cL_law 833 = .ok (.iconst 1, 1) := by decide +kernel
theorem dL_law_834 : decode cL_law 834 = .ok (.ireturn, 1) := by decide +kernel
abbrev vwCl : List vw_C := [(RX0, TX0, 3), (RX1, TX1, 8), (RX2, TX2, 11), (RX3, TX3, 8), (RX4, TX4, 9), (RX5, TX5, 5), (RX6, TX6, 22)]
end
section
/-! The standard form of a contract here: a list of cells before (xB), a list of cells after (xA). -/
section XK
/-- eight, twelve numbers as a function of the place -/
abbrev x8f (a b c d e f g h : Int32) : Nat → Int32 := fun k => match k with | 0 => a | 1 => b | 2 => c | 3 => d | 4 => e | 5 => f | 6 => g | _ => h
abbrev x12f (a b c d e f g h i j k l : Int32) : Nat → Int32 := fun z => match z with | 0 => a | 1 => b | 2 => c | 3 => d | 4 => e | 5 => f | 6 => g | 7 => h | 8 => i | 9 => j | 10 => k | _ => l
/-- the array classes that the worlds hold: ints, booleans, longs -/
abbrev xT (cI cZ cJ : ClassId) : List (ClassId × FieldType) := [(cI, .int), (cZ, .boolean), (cJ, .long)]
def xB (D : va_G) (tys : List (ClassId × FieldType)) (ws : va_W) (sz : Nat) (U : State) : Prop := U.heap.size = sz ∧ va_P D vwCl ws U.heap ∧ va_K D vwCl tys U ∧ va_D (fun _ => True) ws
def xA (D : va_G) (tys : List (ClassId × FieldType)) (ws : va_W) (A : Nat → Prop) (t : State) : Prop := va_P D vwCl ws t.heap ∧ va_K D vwCl tys t ∧ va_D A ws
/-- private calls from nest mates that the tables know -/
def xN (U : State) : Prop := va_Nw (.methodLinkNest RX2 11 yX0_init RX5) U ∧ va_Nw (.methodLinkNest RX4 11 yX3_init RX5) U ∧ va_Nw (.methodLinkNest RX4 24 yX1_init RX5) U ∧ va_Nw (.methodLinkNest RX4 104 yX5_wholeWeightOf RX5) U ∧ va_Nw (.methodLinkNest RX5 11 yX2_init RX5) U ∧ va_Nw (.methodLinkNest RX5 18 yX3_init RX5) U ∧ va_Nw (.methodLinkNest RX5 28 yX4_init RX5) U
theorem xN.same {u U : State} (h : u.vm = U.vm) (n : xN u) : xN U := ⟨va_Nw.same rfl h n.1, va_Nw.same rfl h n.2.1, va_Nw.same rfl h n.2.2.1, va_Nw.same rfl h n.2.2.2.1, va_Nw.same rfl h n.2.2.2.2.1, va_Nw.same rfl h n.2.2.2.2.2.1, va_Nw.same rfl h n.2.2.2.2.2.2⟩
theorem xN.warm {s U : State} (h : s.WarmedH U.vm) (n : xN s) : xN U := ⟨va_Nw.warmM h n.1, va_Nw.warmM h n.2.1, va_Nw.warmM h n.2.2.1, va_Nw.warmM h n.2.2.2.1, va_Nw.warmM h n.2.2.2.2.1, va_Nw.warmM h n.2.2.2.2.2.1, va_Nw.warmM h n.2.2.2.2.2.2⟩
theorem xPs {D : va_G} {cl : List vw_C} {ws wc : va_W} {H : Heap} (h : va_P D cl ws H) (is : List Nat) (hC : is.map (fun i => ws[i]?) = wc.map some) : va_P D cl wc H := by
  intro k q hk
  have h1 : (is.map (fun i => ws[i]?))[k]? = some (some q) := by rw [hC, List.getElem?_map, hk]; rfl
  rw [List.getElem?_map] at h1
  obtain ⟨i, -, hi⟩ := Option.map_eq_some_iff.mp h1
  exact h i q hi
theorem xB_calling {D : va_G} {tys : List (ClassId × FieldType)} {ws : va_W} {sz : Nat} (a : Array Value) (U : State) (g : JFrame) (mk : MethodId) (h : xB D tys ws sz U) : xB D tys ws sz (U.calling g mk a) := by
  obtain ⟨e, qP, qK, qD⟩ := h
  exact ⟨e, qP, va_K.moved (u := U) (U := U.calling g mk a) (Vm.Alike.refl U.vm) qK, qD⟩
theorem xB_blind {D : va_G} {tys : List (ClassId × FieldType)} {ws : va_W} {sz : Nat} {av : List Value} : FrameBlind (va_Pc av (xB D tys ws sz)) := fun a U g mk h => ⟨h.1, xB_calling a U g mk h.2⟩
theorem xB_blindN {D : va_G} {tys : List (ClassId × FieldType)} {ws : va_W} {sz : Nat} {av : List Value} : FrameBlind (va_Pc av (fun U => xB D tys ws sz U ∧ xN U)) := fun a U g mk h => ⟨h.1, xB_calling a U g mk h.2.1, xN.same (u := U) (U := U.calling g mk a) rfl h.2.2⟩
theorem xB_at {s U : State} {H : Heap} {D : va_G} {tys : List (ClassId × FieldType)} {ws wc : va_W} {A : Nat → Prop} (hK : va_K D vwCl tys s) (hP : va_P D vwCl ws H) (hD : va_D A ws) (isC : List Nat) (hC : isC.map (fun i => ws[i]?) = wc.map some) (hn : va_nd isC = true) (hU : U.heap = H) (hW : s.WarmedH U.vm) : xB D tys wc H.size U :=
  ⟨by rw [hU], by rw [hU]; exact xPs hP isC hC, va_K.moved hW.alike hK, (hD.sub isC hn hC).weaken (fun _ _ _ _ => trivial)⟩
theorem xPV {s : State} {H : Heap} {D : va_G} {tys : List (ClassId × FieldType)} {ws wc : va_W} {A : Nat → Prop} {b ci : Nat} {fs : List Value} {As : List Value} {qc : vw_C} (hK : va_K D vwCl tys s) (hP : va_P D vwCl ws H) (hD : va_D A ws) (isC : List Nat) (hC : isC.map (fun i => ws[i]?) = wc.map some) (hn : va_nd isC = true) (q0 : Nat) (he : wc[q0]? = some (b, .inr (ci, fs))) (hc : vwCl[ci]? = some qc) : PreV s H qc.1 b (va_Pc (.ref b :: As) (xB D tys wc H.size)) As :=
  ⟨xB_blind, va_recv hK (xPs hP isC hC) hc he, fun _ hU hW => ⟨rfl, xB_at hK hP hD isC hC hn hU hW⟩⟩
theorem xPVN {s : State} {H : Heap} {D : va_G} {tys : List (ClassId × FieldType)} {ws wc : va_W} {A : Nat → Prop} {b ci : Nat} {fs : List Value} {As : List Value} {qc : vw_C} (hN : xN s) (hK : va_K D vwCl tys s) (hP : va_P D vwCl ws H) (hD : va_D A ws) (isC : List Nat) (hC : isC.map (fun i => ws[i]?) = wc.map some) (hn : va_nd isC = true) (q0 : Nat) (he : wc[q0]? = some (b, .inr (ci, fs))) (hc : vwCl[ci]? = some qc) : PreV s H qc.1 b (va_Pc (.ref b :: As) (fun U => xB D tys wc H.size U ∧ xN U)) As :=
  ⟨xB_blindN, va_recv hK (xPs hP isC hC) hc he, fun _ hU hW => ⟨rfl, xB_at hK hP hD isC hC hn hU hW, hN.warm hW⟩⟩
theorem xPS {s : State} {H : Heap} {D : va_G} {tys : List (ClassId × FieldType)} {ws wc : va_W} {A : Nat → Prop} {As : List Value} (hK : va_K D vwCl tys s) (hP : va_P D vwCl ws H) (hD : va_D A ws) (isC : List Nat) (hC : isC.map (fun i => ws[i]?) = wc.map some) (hn : va_nd isC = true) : PreS s H (va_Pc As (xB D tys wc H.size)) As :=
  ⟨xB_blind, fun _ hU hW => ⟨rfl, xB_at hK hP hD isC hC hn hU hW⟩⟩
theorem xPSN {s : State} {H : Heap} {D : va_G} {tys : List (ClassId × FieldType)} {ws wc : va_W} {A : Nat → Prop} {As : List Value} (hN : xN s) (hK : va_K D vwCl tys s) (hP : va_P D vwCl ws H) (hD : va_D A ws) (isC : List Nat) (hC : isC.map (fun i => ws[i]?) = wc.map some) (hn : va_nd isC = true) : PreS s H (va_Pc As (fun U => xB D tys wc H.size U ∧ xN U)) As :=
  ⟨xB_blindN, fun _ hU hW => ⟨rfl, xB_at hK hP hD isC hC hn hU hW, hN.warm hW⟩⟩
section
variable {p : Program} {l : Launch} {e : Env} {R : Room} {s : State} {m : MethodId} {args : Array Value} {below : List Frame} {meth : Method} {c : Code} {H : Heap} {locs : List Loc} {cells slots : Nat} {Q : State → Prop} {pc : Nat} {ls : Array Slot} {st0 rest : List Value} {mc ms : Nat} {a : Array Value} {A : Nat → Prop} {H0 : Heap} {D : va_G} {tys tys' : List (ClassId × FieldType)} {ws wc wr : va_W} {cc : ByteArray}
/-- a call that answers an int: the callee's cells are cut out by their places, what comes back stands behind the rest -/
theorem xci {S : Type} {post : Int32 → S → Prop} {w1 : S → va_W} (hr : va_Run p l e R s m args below meth c H locs cells slots mc ms (F0 m pc ls st0) rest (va_Qi post (fun u t => xA D tys' (w1 u) (va_A wc H.size) t) (va_A wc H.size) a) (va_A wc H.size))
    (hP : va_P D vwCl ws H) (hD : va_D A ws) (hS : va_S A H0 H locs) (hA : ∀ q, H0.size ≤ q → A q) (isC isR : List Nat) (hC : isC.map (fun i => ws[i]?) = wc.map some) (hR : isR.map (fun i => ws[i]?) = wr.map some) (hn : va_nd isR = true) (hdis : ∀ i ∈ isR, i ∉ isC)
    (kk : ∀ (r : Int32) (u : S) (H1 : Heap) (locs1 : List Loc), post r u → va_P D vwCl (wr ++ w1 u) H1 → va_D A (wr ++ w1 u) → va_S A H0 H1 locs1 → W p l e R s m args below meth c H1 locs1 (cells + mc) (slots + ms) Q (F0 m (pc + 3) ls (.int r :: rest))) : W p l e R s m args below meth c H locs cells slots Q (F0 m pc ls st0) := by
  have hF := va_free (wc := wc) hD hS hA isC hC
  refine va_calli hr hS (fun q _ h => hF q h) hF (fun r u t H1 locs1 ht hvm hw hB hz1 hk1 hS1 => ?_)
  obtain ⟨hP1, -, hD1⟩ := hB
  rw [ht] at hP1
  obtain ⟨x1, x2⟩ := va_join hP hD isC isR hC hR hn hdis hk1 hF hP1 hD1
  exact kk r u H1 locs1 hw x1 x2 hS1
theorem xcl {S : Type} {post : Int64 → S → Prop} {w1 : S → va_W} (hr : va_Run p l e R s m args below meth c H locs cells slots mc ms (F0 m pc ls st0) rest (va_Ql post (fun u t => xA D tys' (w1 u) (va_A wc H.size) t) (va_A wc H.size) a) (va_A wc H.size))
    (hP : va_P D vwCl ws H) (hD : va_D A ws) (hS : va_S A H0 H locs) (hA : ∀ q, H0.size ≤ q → A q) (isC isR : List Nat) (hC : isC.map (fun i => ws[i]?) = wc.map some) (hR : isR.map (fun i => ws[i]?) = wr.map some) (hn : va_nd isR = true) (hdis : ∀ i ∈ isR, i ∉ isC)
    (kk : ∀ (r : Int64) (u : S) (H1 : Heap) (locs1 : List Loc), post r u → va_P D vwCl (wr ++ w1 u) H1 → va_D A (wr ++ w1 u) → va_S A H0 H1 locs1 → W p l e R s m args below meth c H1 locs1 (cells + mc) (slots + ms) Q (F0 m (pc + 3) ls (.long r :: rest))) : W p l e R s m args below meth c H locs cells slots Q (F0 m pc ls st0) := by
  have hF := va_free (wc := wc) hD hS hA isC hC
  refine va_calll hr hS (fun q _ h => hF q h) hF (fun r u t H1 locs1 ht hvm hw hB hz1 hk1 hS1 => ?_)
  obtain ⟨hP1, -, hD1⟩ := hB
  rw [ht] at hP1
  obtain ⟨x1, x2⟩ := va_join hP hD isC isR hC hR hn hdis hk1 hF hP1 hD1
  exact kk r u H1 locs1 hw x1 x2 hS1
theorem xcv {S : Type} {post : S → Prop} {w1 : S → va_W} (hr : va_Run p l e R s m args below meth c H locs cells slots mc ms (F0 m pc ls st0) rest (va_Qv post (fun u t => xA D tys' (w1 u) (va_A wc H.size) t) (va_A wc H.size) a) (va_A wc H.size))
    (hP : va_P D vwCl ws H) (hD : va_D A ws) (hS : va_S A H0 H locs) (hA : ∀ q, H0.size ≤ q → A q) (isC isR : List Nat) (hC : isC.map (fun i => ws[i]?) = wc.map some) (hR : isR.map (fun i => ws[i]?) = wr.map some) (hn : va_nd isR = true) (hdis : ∀ i ∈ isR, i ∉ isC)
    (kk : ∀ (u : S) (H1 : Heap) (locs1 : List Loc), post u → va_P D vwCl (wr ++ w1 u) H1 → va_D A (wr ++ w1 u) → va_S A H0 H1 locs1 → W p l e R s m args below meth c H1 locs1 (cells + mc) (slots + ms) Q (F0 m (pc + 3) ls rest)) : W p l e R s m args below meth c H locs cells slots Q (F0 m pc ls st0) := by
  have hF := va_free (wc := wc) hD hS hA isC hC
  refine va_callv hr hS (fun q _ h => hF q h) hF (fun u t H1 locs1 ht hvm hw hB hz1 hk1 hS1 => ?_)
  obtain ⟨hP1, -, hD1⟩ := hB
  rw [ht] at hP1
  obtain ⟨x1, x2⟩ := va_join hP hD isC isR hC hR hn hdis hk1 hF hP1 hD1
  exact kk u H1 locs1 hw x1 x2 hS1
/-- the top of the stack under another name -/
theorem xti {x y : Int32} (h : x = y) (k : W p l e R s m args below meth c H locs cells slots Q (F0 m pc ls (.int y :: rest))) : W p l e R s m args below meth c H locs cells slots Q (F0 m pc ls (.int x :: rest)) := by subst h; exact k
theorem xtl {x y : Int64} (h : x = y) (k : W p l e R s m args below meth c H locs cells slots Q (F0 m pc ls (.long y :: rest))) : W p l e R s m args below meth c H locs cells slots Q (F0 m pc ls (.long x :: rest)) := by subst h; exact k
variable {nL : Nat} {Ts : List Cond} {own : String} {g : JFrame} {a0 : Nat}
/-- two roads meet at J: a walk from there for every x, then the walk that comes there -/
theorem xjoin {X : Type} (P : X → Prop) (w1 : X → va_W) (lv1 : X → List (Nat × Value)) (st1 : X → List Value) (J : Nat)
    (kJ : ∀ (x : X) (H1 : Heap) (locs1 : List Loc) (ls1 : Array Slot), P x → va_P D vwCl (w1 x) H1 → va_D A (w1 x) → va_S A H0 H1 locs1 → lv_has ls1 nL (lv1 x) → W p l e R s m args below meth c H1 locs1 cells slots Q (F0 m J ls1 (st1 x)))
    (k : (∀ (x : X) (H1 : Heap) (locs1 : List Loc) (ls1 : Array Slot), P x → va_P D vwCl (w1 x) H1 → va_D A (w1 x) → va_S A H0 H1 locs1 → lv_has ls1 nL (lv1 x) → W p l e R s m args below meth c H1 locs1 cells slots Q (F0 m J ls1 (st1 x))) → W p l e R s m args below meth c H locs cells slots Q g) : W p l e R s m args below meth c H locs cells slots Q g := k kJ
/-- a loop with its head at J, by a measure -/
theorem xloop {X : Type} (P : X → Prop) (μ : X → Nat) (w1 : X → va_W) (lv1 : X → List (Nat × Value)) (st1 : X → List Value) (J : Nat)
    (step : ∀ (x : X) (H1 : Heap) (locs1 : List Loc) (ls1 : Array Slot), P x → va_P D vwCl (w1 x) H1 → va_D A (w1 x) → va_S A H0 H1 locs1 → lv_has ls1 nL (lv1 x) → (∀ (y : X) (H2 : Heap) (locs2 : List Loc) (ls2 : Array Slot), P y → μ y < μ x → va_P D vwCl (w1 y) H2 → va_D A (w1 y) → va_S A H0 H2 locs2 → lv_has ls2 nL (lv1 y) → W p l e R s m args below meth c H2 locs2 cells slots Q (F0 m J ls2 (st1 y))) → W p l e R s m args below meth c H1 locs1 cells slots Q (F0 m J ls1 (st1 x)))
    (x : X) (H1 : Heap) (locs1 : List Loc) (ls1 : Array Slot) (hx : P x) (hP : va_P D vwCl (w1 x) H1) (hD : va_D A (w1 x)) (hS : va_S A H0 H1 locs1) (hl : lv_has ls1 nL (lv1 x)) : W p l e R s m args below meth c H1 locs1 cells slots Q (F0 m J ls1 (st1 x)) := by
  have key : ∀ (n : Nat) (x : X) (H1 : Heap) (locs1 : List Loc) (ls1 : Array Slot), μ x < n → P x → va_P D vwCl (w1 x) H1 → va_D A (w1 x) → va_S A H0 H1 locs1 → lv_has ls1 nL (lv1 x) → W p l e R s m args below meth c H1 locs1 cells slots Q (F0 m J ls1 (st1 x)) := by
    intro n
    induction n with
    | zero => intro x H1 locs1 ls1 h; exact absurd h (Nat.not_lt_zero _)
    | succ n ih => intro x H1 locs1 ls1 h h1 h2 h3 h4 h5; exact step x H1 locs1 ls1 h1 h2 h3 h4 h5 (fun y H2 locs2 ls2 g1 g2 g3 g4 g5 g6 => ih y H2 locs2 ls2 (Nat.lt_of_lt_of_le g2 (Nat.le_of_lt_succ h)) g1 g3 g4 g5 g6)
  exact key (μ x + 1) x H1 locs1 ls1 (Nat.lt_succ_self _) hx hP hD hS hl
/-- arrays at a known place -/
theorem xiald (hexec : p.tables.exec = Jvm.exec) (hb : c.code = cc) (hK : va_K D vwCl tys s) (hP : va_P D vwCl ws H) (q0 t0 : Nat) {cA : ClassId} {n : Nat} {f : Nat → Int32} (ha : ws[q0]? = some (a0, .inl (cA, n, .inl f))) (ht : tys[t0]? = some (cA, .int)) {k : Nat} (hk : k < n) (hn : n < 1000000) (hdg : decode cc pc = .ok (.iaload, 1))
    (kk : W p l e R s m args below meth c H locs cells slots Q (F0 m (pc + 1) ls (.int (f k) :: rest))) : W p l e R s m args below meth c H locs cells slots Q (F0 m pc ls (.int (nI k) :: .ref a0 :: rest)) :=
  va_iald hexec hb hK hP q0 t0 ha ht (vp_in_nI hk (by omega)) hdg (by rw [nI_clamp (by omega)]; exact kk)
theorem xzald (hexec : p.tables.exec = Jvm.exec) (hb : c.code = cc) (hK : va_K D vwCl tys s) (hP : va_P D vwCl ws H) (q0 t0 : Nat) {cA : ClassId} {n : Nat} {f : Nat → Int32} (ha : ws[q0]? = some (a0, .inl (cA, n, .inl f))) (ht : tys[t0]? = some (cA, .boolean)) {k : Nat} (hk : k < n) (hn : n < 1000000) (hdg : decode cc pc = .ok (.baload, 1))
    (kk : W p l e R s m args below meth c H locs cells slots Q (F0 m (pc + 1) ls (.int (f k) :: rest))) : W p l e R s m args below meth c H locs cells slots Q (F0 m pc ls (.int (nI k) :: .ref a0 :: rest)) :=
  va_zald hexec hb hK hP q0 t0 ha ht (vp_in_nI hk (by omega)) hdg (by rw [nI_clamp (by omega)]; exact kk)
theorem xlald (hexec : p.tables.exec = Jvm.exec) (hb : c.code = cc) (hK : va_K D vwCl tys s) (hP : va_P D vwCl ws H) (q0 t0 : Nat) {cA : ClassId} {n : Nat} {f : Nat → Int64} (ha : ws[q0]? = some (a0, .inl (cA, n, .inr (.inl f)))) (ht : tys[t0]? = some (cA, .long)) {k : Nat} (hk : k < n) (hn : n < 1000000) (hdg : decode cc pc = .ok (.laload, 1))
    (kk : W p l e R s m args below meth c H locs cells slots Q (F0 m (pc + 1) ls (.long (f k) :: rest))) : W p l e R s m args below meth c H locs cells slots Q (F0 m pc ls (.int (nI k) :: .ref a0 :: rest)) :=
  va_lald hexec hb hK hP q0 t0 ha ht (vp_in_nI hk (by omega)) hdg (by rw [nI_clamp (by omega)]; exact kk)
theorem xiast (hexec : p.tables.exec = Jvm.exec) (hb : c.code = cc) (hK : va_K D vwCl tys s) (hP : va_P D vwCl ws H) (hD : va_D A ws) (hS : va_S A H0 H locs) (q0 t0 : Nat) {cA : ClassId} {n : Nat} {f : Nat → Int32} (ha : ws[q0]? = some (a0, .inl (cA, n, .inl f))) (ht : tys[t0]? = some (cA, .int)) {k : Nat} {x : Int32} (hk : k < n) (hn : n < 1000000) (hdg : decode cc pc = .ok (.iastore, 1))
    (kk : ∀ (H1 : Heap) (locs1 : List Loc), va_P D vwCl (ws.set q0 (a0, .inl (cA, n, .inl (upd f k x)))) H1 → va_D A (ws.set q0 (a0, .inl (cA, n, .inl (upd f k x)))) → va_S A H0 H1 locs1 → W p l e R s m args below meth c H1 locs1 cells slots Q (F0 m (pc + 1) ls rest)) : W p l e R s m args below meth c H locs cells slots Q (F0 m pc ls (.int x :: .int (nI k) :: .ref a0 :: rest)) :=
  va_iast hexec hb hK hP hD hS q0 t0 ha ht (vp_in_nI hk (by omega)) hdg (fun H1 locs1 a1 a2 a3 => by rw [nI_clamp (by omega)] at a1 a2; exact kk H1 locs1 a1 a2 a3)
theorem xzast (hexec : p.tables.exec = Jvm.exec) (hb : c.code = cc) (hK : va_K D vwCl tys s) (hP : va_P D vwCl ws H) (hD : va_D A ws) (hS : va_S A H0 H locs) (q0 t0 : Nat) {cA : ClassId} {n : Nat} {f : Nat → Int32} (ha : ws[q0]? = some (a0, .inl (cA, n, .inl f))) (ht : tys[t0]? = some (cA, .boolean)) {k : Nat} {x : Int32} (hk : k < n) (hn : n < 1000000) (hx : x = 0 ∨ x = 1) (hdg : decode cc pc = .ok (.bastore, 1))
    (kk : ∀ (H1 : Heap) (locs1 : List Loc), va_P D vwCl (ws.set q0 (a0, .inl (cA, n, .inl (upd f k x)))) H1 → va_D A (ws.set q0 (a0, .inl (cA, n, .inl (upd f k x)))) → va_S A H0 H1 locs1 → W p l e R s m args below meth c H1 locs1 cells slots Q (F0 m (pc + 1) ls rest)) : W p l e R s m args below meth c H locs cells slots Q (F0 m pc ls (.int x :: .int (nI k) :: .ref a0 :: rest)) :=
  va_zast hexec hb hK hP hD hS q0 t0 ha ht (vp_in_nI hk (by omega)) hdg (fun H1 locs1 a1 a2 a3 => by rw [nI_clamp (by omega), show vp_nar .boolean x = x by rcases hx with rfl | rfl <;> rfl] at a1 a2; exact kk H1 locs1 a1 a2 a3)
theorem xlast (hexec : p.tables.exec = Jvm.exec) (hb : c.code = cc) (hK : va_K D vwCl tys s) (hP : va_P D vwCl ws H) (hD : va_D A ws) (hS : va_S A H0 H locs) (q0 t0 : Nat) {cA : ClassId} {n : Nat} {f : Nat → Int64} (ha : ws[q0]? = some (a0, .inl (cA, n, .inr (.inl f)))) (ht : tys[t0]? = some (cA, .long)) {k : Nat} {x : Int64} (hk : k < n) (hn : n < 1000000) (hdg : decode cc pc = .ok (.lastore, 1))
    (kk : ∀ (H1 : Heap) (locs1 : List Loc), va_P D vwCl (ws.set q0 (a0, .inl (cA, n, .inr (.inl (vp_updL f k x))))) H1 → va_D A (ws.set q0 (a0, .inl (cA, n, .inr (.inl (vp_updL f k x))))) → va_S A H0 H1 locs1 → W p l e R s m args below meth c H1 locs1 cells slots Q (F0 m (pc + 1) ls rest)) : W p l e R s m args below meth c H locs cells slots Q (F0 m pc ls (.long x :: .int (nI k) :: .ref a0 :: rest)) :=
  va_last hexec hb hK hP hD hS q0 t0 ha ht (vp_in_nI hk (by omega)) hdg (fun H1 locs1 a1 a2 a3 => by rw [nI_clamp (by omega)] at a1 a2; exact kk H1 locs1 a1 a2 a3)
theorem xri {v : Int32} {S : Type} {post : Int32 → S → Prop} {w1 : S → va_W} (hf : CallFix p m c cc nL s args Ts own) (hr : meth.sig.returnType = some .int) (hlk : meth.locks = false) (u : S) (hp : post v u) (hP : va_P D vwCl (w1 u) H) (hD : va_D A (w1 u)) (hK : va_K D vwCl tys s) (hS : va_S A s.heap H locs) (d : decode cc pc = .ok (.ireturn, 1)) :
    W p l e R s m args below meth c H locs cells slots (MQ below (va_Qi post (fun u t => xA D tys (w1 u) A t) A) args s cells slots A) (F0 m pc ls [.int v]) :=
  W.iret hf.1 hf.2.1 hr (fun t ht hW => ⟨⟨v, u, rfl, hp, by rw [ht]; exact hP, va_K.moved hW.alike hK, hD⟩, hS.F ht⟩) hS.2.2 d hlk
theorem xrz {v : Int32} {S : Type} {post : Int32 → S → Prop} {w1 : S → va_W} (hf : CallFix p m c cc nL s args Ts own) (hr : meth.sig.returnType = some .boolean) (hlk : meth.locks = false) (u : S) (hz : narrow .boolean (.int v) = .int v) (hp : post v u) (hP : va_P D vwCl (w1 u) H) (hD : va_D A (w1 u)) (hK : va_K D vwCl tys s) (hS : va_S A s.heap H locs) (d : decode cc pc = .ok (.ireturn, 1)) :
    W p l e R s m args below meth c H locs cells slots (MQ below (va_Qi post (fun u t => xA D tys (w1 u) A t) A) args s cells slots A) (F0 m pc ls [.int v]) :=
  W.zret hf.1 hf.2.1 hr hz (fun t ht hW => ⟨⟨v, u, rfl, hp, by rw [ht]; exact hP, va_K.moved hW.alike hK, hD⟩, hS.F ht⟩) hS.2.2 d hlk
theorem xrl {v : Int64} {S : Type} {post : Int64 → S → Prop} {w1 : S → va_W} (hf : CallFix p m c cc nL s args Ts own) (hr : meth.sig.returnType = some .long) (hlk : meth.locks = false) (u : S) (hp : post v u) (hP : va_P D vwCl (w1 u) H) (hD : va_D A (w1 u)) (hK : va_K D vwCl tys s) (hS : va_S A s.heap H locs) (d : decode cc pc = .ok (.lreturn, 1)) :
    W p l e R s m args below meth c H locs cells slots (MQ below (va_Ql post (fun u t => xA D tys (w1 u) A t) A) args s cells slots A) (F0 m pc ls [.long v]) :=
  W.lret hf.1 hf.2.1 hr (fun t ht hW => ⟨⟨v, u, rfl, hp, by rw [ht]; exact hP, va_K.moved hW.alike hK, hD⟩, hS.F ht⟩) hS.2.2 d hlk
theorem xrv {S : Type} {post : S → Prop} {w1 : S → va_W} (hf : CallFix p m c cc nL s args Ts own) (hr : meth.sig.returnType = none) (hlk : meth.locks = false) (u : S) (hp : post u) (hP : va_P D vwCl (w1 u) H) (hD : va_D A (w1 u)) (hK : va_K D vwCl tys s) (hS : va_S A s.heap H locs) (d : decode cc pc = .ok (.return_, 1)) :
    W p l e R s m args below meth c H locs cells slots (MQ below (va_Qv post (fun u t => xA D tys (w1 u) A t) A) args s cells slots A) (F0 m pc ls []) :=
  W.vret hf.1 hf.2.1 hr (fun t ht hW => ⟨⟨u, rfl, hp, by rw [ht]; exact hP, va_K.moved hW.alike hK, hD⟩, hS.F ht⟩) hS.2.2 d hlk
end
/-- a contract in the standard form out of the walk of the body -/
theorem xMet {l : Launch} {y : MethodName} {ws ws' : List Cond} {rm : Room} {av : List Value} {D : va_G} {tys : List (ClassId × FieldType)} {w0 : va_W} {sz : Nat} {QF : (Nat → Prop) → Array Value → State → Outcome → State → Prop} {mc ms : Nat} {cc : ByteArray} {maxL : Nat} {ret : Option FieldType}
    (hy : plainName y.cls = true) (hw : ws = Cond.code y cc maxL ret :: ws') (hv : (lg_sl av).length ≤ maxL)
    (body : ∀ (p : Program) (e : Env) (s : State) (m : MethodId) (below : List Frame) (meth : Method) (c : Code) (ls : Array Slot) (A : Nat → Prop), CallFix p m c cc maxL s av.toArray ws y.cls → meth.sig.returnType = ret → meth.locks = false → meth.name = y.name → va_K D vwCl tys s → va_P D vwCl w0 s.heap → va_D A w0 → (∀ q, s.heap.size ≤ q → A q) → va_S A s.heap s.heap [] → lv_has ls maxL (lv_args 0 av) →
      W p l e rm s m av.toArray below meth c s.heap [] 0 0 (MQ below (QF A) av.toArray s mc ms A) (F0 m 0 ls [])) : Met l y ws rm (va_Pc av (xB D tys w0 sz)) (QF (va_A w0 sz)) mc ms (va_A w0 sz) := by
  refine Met.ofW (cc := cc) (maxL := maxL) (ret := ret) hy hw ?_
  intro p e s m args below meth c s₁ B hml hv'
  obtain ⟨rfl, hsz, hP, hK, hD0⟩ := hv'
  subst hsz
  rw [lg_entry_eq]
  exact body p e s m below meth c _ (va_A w0 s.heap.size) ⟨B.exec, B.bytes, hml, findClass_of_methodNamed B.named, atoms_spec (ws := ws) B.pre⟩ B.returns B.notSynchronized (name_of_methodNamed B.named B.method).1 hK hP hD0.self (fun q h => Or.inr h) va_S.rf (lv_entry av hv)
theorem xMetN {l : Launch} {y : MethodName} {ws ws' : List Cond} {rm : Room} {av : List Value} {D : va_G} {tys : List (ClassId × FieldType)} {w0 : va_W} {sz : Nat} {QF : (Nat → Prop) → Array Value → State → Outcome → State → Prop} {mc ms : Nat} {cc : ByteArray} {maxL : Nat} {ret : Option FieldType}
    (hy : plainName y.cls = true) (hw : ws = Cond.code y cc maxL ret :: ws') (hv : (lg_sl av).length ≤ maxL)
    (body : ∀ (p : Program) (e : Env) (s : State) (m : MethodId) (below : List Frame) (meth : Method) (c : Code) (ls : Array Slot) (A : Nat → Prop), CallFix p m c cc maxL s av.toArray ws y.cls → meth.sig.returnType = ret → meth.locks = false → meth.name = y.name → va_K D vwCl tys s → va_P D vwCl w0 s.heap → va_D A w0 → (∀ q, s.heap.size ≤ q → A q) → va_S A s.heap s.heap [] → lv_has ls maxL (lv_args 0 av) → xN s →
      W p l e rm s m av.toArray below meth c s.heap [] 0 0 (MQ below (QF A) av.toArray s mc ms A) (F0 m 0 ls [])) : Met l y ws rm (va_Pc av (fun U => xB D tys w0 sz U ∧ xN U)) (QF (va_A w0 sz)) mc ms (va_A w0 sz) := by
  refine Met.ofW (cc := cc) (maxL := maxL) (ret := ret) hy hw ?_
  intro p e s m args below meth c s₁ B hml hv'
  obtain ⟨rfl, ⟨hsz, hP, hK, hD0⟩, hN⟩ := hv'
  subst hsz
  rw [lg_entry_eq]
  exact body p e s m below meth c _ (va_A w0 s.heap.size) ⟨B.exec, B.bytes, hml, findClass_of_methodNamed B.named, atoms_spec (ws := ws) B.pre⟩ B.returns B.notSynchronized (name_of_methodNamed B.named B.method).1 hK hP hD0.self (fun q h => Or.inr h) va_S.rf (lv_entry av hv) hN
/-- one array class of a kind -/
theorem xKi {D : va_G} {cl : List vw_C} {tys : List (ClassId × FieldType)} {s : State} {c1 c2 : ClassId} (hK : va_K D cl tys s) (i j : Nat) (h1 : tys[i]? = some (c1, .int)) (h2 : tys[j]? = some (c2, .int)) : c1 = c2 :=
  Option.some.inj ((show s.vm.findClass _ = some c1 from (hK.2 i _ h1).2).symm.trans (show s.vm.findClass _ = some c2 from (hK.2 j _ h2).2))
theorem xKz {D : va_G} {cl : List vw_C} {tys : List (ClassId × FieldType)} {s : State} {c1 c2 : ClassId} (hK : va_K D cl tys s) (i j : Nat) (h1 : tys[i]? = some (c1, .boolean)) (h2 : tys[j]? = some (c2, .boolean)) : c1 = c2 :=
  Option.some.inj ((show s.vm.findClass _ = some c1 from (hK.2 i _ h1).2).symm.trans (show s.vm.findClass _ = some c2 from (hK.2 j _ h2).2))
theorem xKj {D : va_G} {cl : List vw_C} {tys : List (ClassId × FieldType)} {s : State} {c1 c2 : ClassId} (hK : va_K D cl tys s) (i j : Nat) (h1 : tys[i]? = some (c1, .long)) (h2 : tys[j]? = some (c2, .long)) : c1 = c2 :=
  Option.some.inj ((show s.vm.findClass _ = some c1 from (hK.2 i _ h1).2).symm.trans (show s.vm.findClass _ = some c2 from (hK.2 j _ h2).2))
/-- a boolean is 0 or 1 -/
theorem xnz {x : Int32} (h : x = 0 ∨ x = 1) : narrow .boolean (.int x) = .int x := by rcases h with rfl | rfl <;> rfl
theorem xfz {x : Int32} (h : x = 0 ∨ x = 1) : fits .boolean (.int x) = true := by rcases h with rfl | rfl <;> rfl
theorem xvz {x : Int32} (h : x = 0 ∨ x = 1) : vp_nar .boolean x = x := by rcases h with rfl | rfl <;> rfl
end XK
end
section
/-! What the class's small methods answer, in the machine's own ints. a: an asset (first, rise, fall); nt: the note by its slots (2 isAgainst .. 10 remembers); st: a standing by its slots. -/
def kLev (a : Nat → Int32) (p : Int32) : Int32 := if 100 ≤ a 0 then p * 100 / a 0 else 0
def kPri (a : Nat → Int32) (p up : Int32) : Int32 := if up = 0 then (if 1 < p - a 2 then p - a 2 else 1) else p + a 1
def kMin (x y : Int32) : Int32 := if y < x then y else x
def kMax (x y : Int32) : Int32 := if x < y then y else x
def kWl (a b : Nat → Int32) (p q : Int32) : Int32 := kMin (kLev a p) (kLev b q)
def kXor (up ag : Int32) : Int32 := if up = ag then 0 else 1
def kLast (nt : Nat → Int32) (t : Int32) : Int32 := if t < nt 4 then 0 else 1
def kKn (nt : Nat → Int32) (lev last kn : Int32) : Int32 := if nt 5 ≤ lev then kn else if ¬ last = 0 then 1 else if ¬ nt 9 = 0 then kn else 1
def kCp (nt : Nat → Int32) (lev ms : Int32) : Int32 := if nt 6 ≤ lev then (if nt 10 = 0 then 1 else 1 + ms) * nt 8 else 0
def kMs (nt : Nat → Int32) (lev ms : Int32) : Int32 := if nt 6 ≤ lev then 0 else ms + 1
def kEp (lev last kn : Int32) : Int32 := if last = 0 then 1000 else if kn = 0 then 1000 else if 100 ≤ lev then 1000 else 10 * lev
def kOv (nt : Nat → Int32) (lev last ov : Int32) : Int32 := if ¬ last = 0 then 1 else if lev < nt 7 then ov else 1
def kPl (nt : Nat → Int32) (lev last kn cp : Int32) : Int32 := if ¬ last = 0 then cp + kEp lev last kn else if lev < nt 7 then cp else cp + kEp lev last kn
/-- a standing behind one more move -/
def kMv (nt a b st : Nat → Int32) (up : Int32) : Nat → Int32 :=
  x8f (st 0 + 1) (kPri a (st 1) up) (kPri b (st 2) (kXor up (nt 2))) (kMs nt (kWl a b (kPri a (st 1) up) (kPri b (st 2) (kXor up (nt 2)))) (st 3))
    (kKn nt (kWl a b (kPri a (st 1) up) (kPri b (st 2) (kXor up (nt 2)))) (kLast nt (st 0 + 1)) (st 4))
    (kOv nt (kWl a b (kPri a (st 1) up) (kPri b (st 2) (kXor up (nt 2)))) (kLast nt (st 0 + 1)) (st 5))
    (kPl nt (kWl a b (kPri a (st 1) up) (kPri b (st 2) (kXor up (nt 2)))) (kLast nt (st 0 + 1)) (kKn nt (kWl a b (kPri a (st 1) up) (kPri b (st 2) (kXor up (nt 2)))) (kLast nt (st 0 + 1)) (st 4)) (kCp nt (kWl a b (kPri a (st 1) up) (kPri b (st 2) (kXor up (nt 2)))) (st 3)))
    (st 7 + kPl nt (kWl a b (kPri a (st 1) up) (kPri b (st 2) (kXor up (nt 2)))) (kLast nt (st 0 + 1)) (kKn nt (kWl a b (kPri a (st 1) up) (kPri b (st 2) (kXor up (nt 2)))) (kLast nt (st 0 + 1)) (st 4)) (kCp nt (kWl a b (kPri a (st 1) up) (kPri b (st 2) (kXor up (nt 2)))) (st 3)))
def kBit (row i : Int32) : Int32 := if (row >>> (i &&& 31)) &&& 1 = 1 then 1 else 0
def kIn (x lo hi : Int32) : Int32 := if x < lo then 0 else if hi < x then 0 else 1
def kAs (x : Int32) : Int32 := if x = 0 then 1 else if x = 1 then 1 else 0
def kWe (nt : Nat → Int32) (up : Int32) : Int32 := if up = 0 then 10 - nt 3 else nt 3
theorem xkb01 (row i : Int32) : kBit row i = 0 ∨ kBit row i = 1 := by unfold kBit; split <;> simp
theorem kKn01 {nt : Nat → Int32} {lev last kn : Int32} (h : kn = 0 ∨ kn = 1) : kKn nt lev last kn = 0 ∨ kKn nt lev last kn = 1 := by
  unfold kKn; repeat' split
  all_goals first | exact h | exact Or.inr rfl | exact Or.inl rfl
theorem kOv01 {nt : Nat → Int32} {lev last ov : Int32} (h : ov = 0 ∨ ov = 1) : kOv nt lev last ov = 0 ∨ kOv nt lev last ov = 1 := by
  unfold kOv; repeat' split
  all_goals first | exact h | exact Or.inr rfl | exact Or.inl rfl
set_option maxHeartbeats 4000000 in
set_option maxRecDepth 100000 in
/-- Asset(): 500, 50, 40 -/
theorem c_X0_init (l : Launch) (dC : Nat → ClassId) (dI : Nat → Nat → Nat) (cI cZ cJ : ClassId) (sz : Nat) (h0 : Nat) : Met l yX0_init wsX0_init ({ frames := 1, cells := 0, slots := 0, locals := 21 }) (va_Pc [.ref h0] (xB (dC, dI) (xT cI cZ cJ) [(h0, .inr (0, [.int 0, .int 0, .int 0]))] sz)) (va_Qv (fun (u : Unit) => True) (fun (u : Unit) t => xA (dC, dI) (xT cI cZ cJ) [(h0, .inr (0, [.int 500, .int 50, .int 40]))] (va_A [(h0, .inr (0, [.int 0, .int 0, .int 0]))] sz) t) (va_A [(h0, .inr (0, [.int 0, .int 0, .int 0]))] sz)) 0 0 (va_A [(h0, .inr (0, [.int 0, .int 0, .int 0]))] sz) := by
  refine xMet (QF := fun A => va_Qv (fun (u : Unit) => True) (fun (u : Unit) t => xA (dC, dI) (xT cI cZ cJ) [(h0, .inr (0, [.int 500, .int 50, .int 40]))] A t) A) (maxL := 1) (ret := none) (cc := cX0_init) (by decide) rfl (Nat.le_of_ble_eq_true rfl) ?_
  intro p e s m below meth c ls A hf hr hlk hnm hK hP hD hA hS hl
  obtain ⟨hx, hb, hml, hown, hts⟩ := id hf
  have iX0 : ∀ w ∈ wsX00, w ∈ wsX0_init := by decide +kernel
  have hl : lv_has ls 1 [(0, .ref h0)] := hl
  have hP : va_P (dC, dI) vwCl [(h0, .inr (0, [.int 0, .int 0, .int 0]))] s.heap := hP
  refine lv_aload_n hx hb dX0_init_0 rfl (lv_at hl 0 rfl) ?_
  refine W.objInit hx hb hown (hts (.methodLink RX0 3 objectInit) (by decide +kernel)) (hts (.instanceMethod objectInit) (by decide +kernel)) (hts (.code objectInit ⟨#[0xb1]⟩ 1 none) (by decide +kernel)) rfl (by rw [hml]; exact hl.1) rfl dX0_init_1 (Nat.le_of_ble_eq_true rfl) (Nat.le_of_ble_eq_true rfl) ?_
  refine W.eq (g2 := F0 m 4 ls []) rfl ?_
  refine lv_aload_n hx hb dX0_init_4 rfl (lv_at hl 0 rfl) ?_
  refine lv_sipush (v := 500) hx hb dX0_init_5 (by decide +kernel) ?_
  refine va_put (D := (dC, dI)) (ci := 0) (v := .int 500) (ty := .int) (C := RX0) (T := TX0) (N := 3) hx hb hts iX0 tyX0 tyX0_ok nmX0 hown hK hP hD hS 0 rfl rfl 0 (by decide) (hts (.fieldLink RX0 9 "Barrierbook$Asset" "first" "I") (by decide +kernel)) (fun _ h9 => h9) rfl (by decide +kernel) rfl rfl (Nat.le_of_ble_eq_true rfl) dX0_init_8 (fun H locs hP hD hS => ?_)
  have hP : va_P (dC, dI) vwCl [(h0, .inr (0, [.int 500, .int 0, .int 0]))] H := hP
  have hD : va_D A [(h0, .inr (0, [.int 500, .int 0, .int 0]))] := hD
  refine lv_aload_n hx hb dX0_init_11 rfl (lv_at hl 0 rfl) ?_
  refine lv_bipush (v := 50) hx hb dX0_init_12 (by decide) ?_
  refine va_put (D := (dC, dI)) (ci := 0) (v := .int 50) (ty := .int) (C := RX0) (T := TX0) (N := 3) hx hb hts iX0 tyX0 tyX0_ok nmX0 hown hK hP hD hS 0 rfl rfl 1 (by decide) (hts (.fieldLink RX0 15 "Barrierbook$Asset" "rise" "I") (by decide +kernel)) (fun _ h9 => h9) rfl (by decide +kernel) rfl rfl (Nat.le_of_ble_eq_true rfl) dX0_init_14 (fun H locs hP hD hS => ?_)
  have hP : va_P (dC, dI) vwCl [(h0, .inr (0, [.int 500, .int 50, .int 0]))] H := hP
  have hD : va_D A [(h0, .inr (0, [.int 500, .int 50, .int 0]))] := hD
  refine lv_aload_n hx hb dX0_init_17 rfl (lv_at hl 0 rfl) ?_
  refine lv_bipush (v := 40) hx hb dX0_init_18 (by decide) ?_
  refine va_put (D := (dC, dI)) (ci := 0) (v := .int 40) (ty := .int) (C := RX0) (T := TX0) (N := 3) hx hb hts iX0 tyX0 tyX0_ok nmX0 hown hK hP hD hS 0 rfl rfl 2 (by decide) (hts (.fieldLink RX0 18 "Barrierbook$Asset" "fall" "I") (by decide +kernel)) (fun _ h9 => h9) rfl (by decide +kernel) rfl rfl (Nat.le_of_ble_eq_true rfl) dX0_init_20 (fun H locs hP hD hS => ?_)
  have hP : va_P (dC, dI) vwCl [(h0, .inr (0, [.int 500, .int 50, .int 40]))] H := hP
  have hD : va_D A [(h0, .inr (0, [.int 500, .int 50, .int 40]))] := hD
  exact xrv hf hr hlk (()) (trivial) (hP.sub [0] rfl) (hD.sub [0] rfl rfl) hK hS dX0_init_23
set_option maxHeartbeats 4000000 in
set_option maxRecDepth 100000 in
/-- the price behind a move -/
theorem c_X0_priceBehind (l : Launch) (dC : Nat → ClassId) (dI : Nat → Nat → Nat) (cI cZ cJ : ClassId) (sz : Nat) (h0 : Nat) (fa : Nat → Int32) (x up : Int32) : Met l yX0_priceBehind wsX0_priceBehind ({ frames := 1, cells := 0, slots := 0, locals := 21 }) (va_Pc [.ref h0, .int x, .int up] (xB (dC, dI) (xT cI cZ cJ) [(h0, .inr (0, [.int (fa 0), .int (fa 1), .int (fa 2)]))] sz)) (va_Qi (fun (r : Int32) (u : Unit) => r = kPri fa x up) (fun (u : Unit) t => xA (dC, dI) (xT cI cZ cJ) [(h0, .inr (0, [.int (fa 0), .int (fa 1), .int (fa 2)]))] (va_A [(h0, .inr (0, [.int (fa 0), .int (fa 1), .int (fa 2)]))] sz) t) (va_A [(h0, .inr (0, [.int (fa 0), .int (fa 1), .int (fa 2)]))] sz)) 0 0 (va_A [(h0, .inr (0, [.int (fa 0), .int (fa 1), .int (fa 2)]))] sz) := by
  refine xMet (QF := fun A => va_Qi (fun (r : Int32) (u : Unit) => r = kPri fa x up) (fun (u : Unit) t => xA (dC, dI) (xT cI cZ cJ) [(h0, .inr (0, [.int (fa 0), .int (fa 1), .int (fa 2)]))] A t) A) (maxL := 3) (ret := (some .int)) (cc := cX0_priceBehind) (by decide) rfl (Nat.le_of_ble_eq_true rfl) ?_
  intro p e s m below meth c ls A hf hr hlk hnm hK hP hD hA hS hl
  obtain ⟨hx, hb, hml, hown, hts⟩ := id hf
  have iX0 : ∀ w ∈ wsX00, w ∈ wsX0_priceBehind := by decide +kernel
  have hl : lv_has ls 3 [(0, .ref h0), (1, .int x), (2, .int up)] := hl
  have hP : va_P (dC, dI) vwCl [(h0, .inr (0, [.int (fa 0), .int (fa 1), .int (fa 2)]))] s.heap := hP
  refine lv_iload_n hx hb dX0_priceBehind_0 rfl (lv_at hl 2 rfl) ?_
  refine lv_if_eq (tgt := 13) hx hb dX0_priceBehind_1 (by decide) (fun c_1 => ?_) (fun c_1 => ?_)
  · refine lv_iconst (v := 1) hx hb dX0_priceBehind_13 (by decide) ?_
    refine lv_iload_n hx hb dX0_priceBehind_14 rfl (lv_at hl 1 rfl) ?_
    refine lv_aload_n hx hb dX0_priceBehind_15 rfl (lv_at hl 0 rfl) ?_
    refine va_get (D := (dC, dI)) (ci := 0) (v := .int (fa 2)) (C := RX0) (T := TX0) (N := 3) hx hb hts iX0 hown hK hP 0 rfl rfl 2 (by decide) (hts (.fieldLink RX0 18 "Barrierbook$Asset" "fall" "I") (by decide +kernel)) (fun _ h9 => h9) rfl dX0_priceBehind_16 ?_
    refine lv_isub hx hb dX0_priceBehind_19 ?_
    refine lv_topi (fun x_19 e_19 => ?_)
    refine va_mmax hx hb (hml.trans hl.1.symm) hown (hts (.methodLink RX0 21 Lib.Math.max.name) (by decide +kernel)) (hts (.static Lib.Math.max.name) (by decide +kernel)) (hts (.initialized "java/lang/Math") (by decide +kernel)) (hts (.code Lib.Math.max.name Lib.Math.max.code 2 (some .int)) (by decide +kernel)) (Nat.le_of_ble_eq_true rfl) (Nat.le_of_ble_eq_true rfl) (Nat.le_of_ble_eq_true rfl) (Nat.le_of_ble_eq_true rfl) dX0_priceBehind_20 ?_
    refine lv_topi (fun x_20 e_20 => ?_)
    exact xri hf hr hlk (()) (by subst e_19 e_20; simp [kPri, x8f, c_1]) (hP.sub [0] rfl) (hD.sub [0] rfl rfl) hK hS dX0_priceBehind_23
  refine lv_iload_n hx hb dX0_priceBehind_4 rfl (lv_at hl 1 rfl) ?_
  refine lv_aload_n hx hb dX0_priceBehind_5 rfl (lv_at hl 0 rfl) ?_
  refine va_get (D := (dC, dI)) (ci := 0) (v := .int (fa 1)) (C := RX0) (T := TX0) (N := 3) hx hb hts iX0 hown hK hP 0 rfl rfl 1 (by decide) (hts (.fieldLink RX0 15 "Barrierbook$Asset" "rise" "I") (by decide +kernel)) (fun _ h9 => h9) rfl dX0_priceBehind_6 ?_
  refine lv_iadd hx hb dX0_priceBehind_9 ?_
  refine lv_topi (fun x_9 e_9 => ?_)
  refine lv_goto (tgt := 23) hx hb dX0_priceBehind_10 (by decide) ?_
  exact xri hf hr hlk (()) (by subst e_9; simp [kPri, x8f, c_1]) (hP.sub [0] rfl) (hD.sub [0] rfl rfl) hK hS dX0_priceBehind_23
set_option maxHeartbeats 4000000 in
set_option maxRecDepth 100000 in
/-- the level of a price -/
theorem c_X0_levelAt (l : Launch) (dC : Nat → ClassId) (dI : Nat → Nat → Nat) (cI cZ cJ : ClassId) (sz : Nat) (h0 : Nat) (fa : Nat → Int32) (x : Int32) : Met l yX0_levelAt wsX0_levelAt ({ frames := 0, cells := 0, slots := 0, locals := 0 }) (va_Pc [.ref h0, .int x] (xB (dC, dI) (xT cI cZ cJ) [(h0, .inr (0, [.int (fa 0), .int (fa 1), .int (fa 2)]))] sz)) (va_Qi (fun (r : Int32) (u : Unit) => r = kLev fa x) (fun (u : Unit) t => xA (dC, dI) (xT cI cZ cJ) [(h0, .inr (0, [.int (fa 0), .int (fa 1), .int (fa 2)]))] (va_A [(h0, .inr (0, [.int (fa 0), .int (fa 1), .int (fa 2)]))] sz) t) (va_A [(h0, .inr (0, [.int (fa 0), .int (fa 1), .int (fa 2)]))] sz)) 0 0 (va_A [(h0, .inr (0, [.int (fa 0), .int (fa 1), .int (fa 2)]))] sz) := by
  refine xMet (QF := fun A => va_Qi (fun (r : Int32) (u : Unit) => r = kLev fa x) (fun (u : Unit) t => xA (dC, dI) (xT cI cZ cJ) [(h0, .inr (0, [.int (fa 0), .int (fa 1), .int (fa 2)]))] A t) A) (maxL := 2) (ret := (some .int)) (cc := cX0_levelAt) (by decide) rfl (Nat.le_of_ble_eq_true rfl) ?_
  intro p e s m below meth c ls A hf hr hlk hnm hK hP hD hA hS hl
  obtain ⟨hx, hb, hml, hown, hts⟩ := id hf
  have iX0 : ∀ w ∈ wsX00, w ∈ wsX0_levelAt := by decide +kernel
  have hl : lv_has ls 2 [(0, .ref h0), (1, .int x)] := hl
  have hP : va_P (dC, dI) vwCl [(h0, .inr (0, [.int (fa 0), .int (fa 1), .int (fa 2)]))] s.heap := hP
  refine lv_aload_n hx hb dX0_levelAt_0 rfl (lv_at hl 0 rfl) ?_
  refine va_get (D := (dC, dI)) (ci := 0) (v := .int (fa 0)) (C := RX0) (T := TX0) (N := 3) hx hb hts iX0 hown hK hP 0 rfl rfl 0 (by decide) (hts (.fieldLink RX0 9 "Barrierbook$Asset" "first" "I") (by decide +kernel)) (fun _ h9 => h9) rfl dX0_levelAt_1 ?_
  refine lv_bipush (v := 100) hx hb dX0_levelAt_4 (by decide) ?_
  refine lv_icmp_ge (tgt := 13) hx hb dX0_levelAt_6 (by decide) (fun c_6 => ?_) (fun c_6 => ?_)
  · refine lv_iload_n hx hb dX0_levelAt_13 rfl (lv_at hl 1 rfl) ?_
    refine lv_bipush (v := 100) hx hb dX0_levelAt_14 (by decide) ?_
    refine lv_imul hx hb dX0_levelAt_16 ?_
    refine lv_topi (fun x_16 e_16 => ?_)
    refine lv_aload_n hx hb dX0_levelAt_17 rfl (lv_at hl 0 rfl) ?_
    refine va_get (D := (dC, dI)) (ci := 0) (v := .int (fa 0)) (C := RX0) (T := TX0) (N := 3) hx hb hts iX0 hown hK hP 0 rfl rfl 0 (by decide) (hts (.fieldLink RX0 9 "Barrierbook$Asset" "first" "I") (by decide +kernel)) (fun _ h9 => h9) rfl dX0_levelAt_18 ?_
    refine lv_idiv hx hb dX0_levelAt_21 (fun h => absurd c_6 (by rw [h]; decide)) ?_
    refine lv_topi (fun x_21 e_21 => ?_)
    exact xri hf hr hlk (()) (by subst e_16 e_21; simp [kLev, x8f, c_6]) (hP.sub [0] rfl) (hD.sub [0] rfl rfl) hK hS dX0_levelAt_22
  refine lv_iconst (v := 0) hx hb dX0_levelAt_9 (by decide) ?_
  refine lv_goto (tgt := 22) hx hb dX0_levelAt_10 (by decide) ?_
  exact xri hf hr hlk (()) (by simp [kLev, x8f, c_6]) (hP.sub [0] rfl) (hD.sub [0] rfl rfl) hK hS dX0_levelAt_22
set_option maxHeartbeats 4000000 in
set_option maxRecDepth 100000 in
theorem c_X2_weightOf (l : Launch) (dC : Nat → ClassId) (dI : Nat → Nat → Nat) (cI cZ cJ : ClassId) (sz : Nat) (h0 a0 b0 : Nat) (nt : Nat → Int32) (up : Int32) : Met l yX2_weightOf wsX2_weightOf ({ frames := 0, cells := 0, slots := 0, locals := 0 }) (va_Pc [.ref h0, .int up] (xB (dC, dI) (xT cI cZ cJ) [(h0, .inr (2, [.ref a0, .ref b0, .int (nt 2), .int (nt 3), .int (nt 4), .int (nt 5), .int (nt 6), .int (nt 7), .int (nt 8), .int (nt 9), .int (nt 10)]))] sz)) (va_Qi (fun (r : Int32) (u : Unit) => r = kWe nt up) (fun (u : Unit) t => xA (dC, dI) (xT cI cZ cJ) [(h0, .inr (2, [.ref a0, .ref b0, .int (nt 2), .int (nt 3), .int (nt 4), .int (nt 5), .int (nt 6), .int (nt 7), .int (nt 8), .int (nt 9), .int (nt 10)]))] (va_A [(h0, .inr (2, [.ref a0, .ref b0, .int (nt 2), .int (nt 3), .int (nt 4), .int (nt 5), .int (nt 6), .int (nt 7), .int (nt 8), .int (nt 9), .int (nt 10)]))] sz) t) (va_A [(h0, .inr (2, [.ref a0, .ref b0, .int (nt 2), .int (nt 3), .int (nt 4), .int (nt 5), .int (nt 6), .int (nt 7), .int (nt 8), .int (nt 9), .int (nt 10)]))] sz)) 0 0 (va_A [(h0, .inr (2, [.ref a0, .ref b0, .int (nt 2), .int (nt 3), .int (nt 4), .int (nt 5), .int (nt 6), .int (nt 7), .int (nt 8), .int (nt 9), .int (nt 10)]))] sz) := by
  refine xMet (QF := fun A => va_Qi (fun (r : Int32) (u : Unit) => r = kWe nt up) (fun (u : Unit) t => xA (dC, dI) (xT cI cZ cJ) [(h0, .inr (2, [.ref a0, .ref b0, .int (nt 2), .int (nt 3), .int (nt 4), .int (nt 5), .int (nt 6), .int (nt 7), .int (nt 8), .int (nt 9), .int (nt 10)]))] A t) A) (maxL := 2) (ret := (some .int)) (cc := cX2_weightOf) (by decide) rfl (Nat.le_of_ble_eq_true rfl) ?_
  intro p e s m below meth c ls A hf hr hlk hnm hK hP hD hA hS hl
  obtain ⟨hx, hb, hml, hown, hts⟩ := id hf
  have iX2 : ∀ w ∈ wsX20, w ∈ wsX2_weightOf := by decide +kernel
  have hl : lv_has ls 2 [(0, .ref h0), (1, .int up)] := hl
  have hP : va_P (dC, dI) vwCl [(h0, .inr (2, [.ref a0, .ref b0, .int (nt 2), .int (nt 3), .int (nt 4), .int (nt 5), .int (nt 6), .int (nt 7), .int (nt 8), .int (nt 9), .int (nt 10)]))] s.heap := hP
  refine lv_iload_n hx hb dX2_weightOf_0 rfl (lv_at hl 1 rfl) ?_
  refine lv_if_eq (tgt := 11) hx hb dX2_weightOf_1 (by decide) (fun c_1 => ?_) (fun c_1 => ?_)
  · refine lv_bipush (v := 10) hx hb dX2_weightOf_11 (by decide) ?_
    refine lv_aload_n hx hb dX2_weightOf_13 rfl (lv_at hl 0 rfl) ?_
    refine va_get (D := (dC, dI)) (ci := 2) (v := .int (nt 3)) (C := RX2) (T := TX2) (N := 11) hx hb hts iX2 hown hK hP 0 rfl rfl 3 (by decide) (hts (.fieldLink RX2 25 "Barrierbook$Note" "chance" "I") (by decide +kernel)) (fun _ h9 => h9) rfl dX2_weightOf_14 ?_
    refine lv_isub hx hb dX2_weightOf_17 ?_
    refine lv_topi (fun x_17 e_17 => ?_)
    exact xri hf hr hlk (()) (by subst e_17; simp [kWe, x8f, c_1]) (hP.sub [0] rfl) (hD.sub [0] rfl rfl) hK hS dX2_weightOf_18
  refine lv_aload_n hx hb dX2_weightOf_4 rfl (lv_at hl 0 rfl) ?_
  refine va_get (D := (dC, dI)) (ci := 2) (v := .int (nt 3)) (C := RX2) (T := TX2) (N := 11) hx hb hts iX2 hown hK hP 0 rfl rfl 3 (by decide) (hts (.fieldLink RX2 25 "Barrierbook$Note" "chance" "I") (by decide +kernel)) (fun _ h9 => h9) rfl dX2_weightOf_5 ?_
  refine lv_goto (tgt := 18) hx hb dX2_weightOf_8 (by decide) ?_
  exact xri hf hr hlk (()) (by simp [kWe, x8f, c_1]) (hP.sub [0] rfl) (hD.sub [0] rfl rfl) hK hS dX2_weightOf_18
set_option maxHeartbeats 4000000 in
set_option maxRecDepth 100000 in
theorem c_X3_worstLevel (l : Launch) (dC : Nat → ClassId) (dI : Nat → Nat → Nat) (cI cZ cJ : ClassId) (sz : Nat) (h0 n0 a0 b0 : Nat) (st nt fa fb : Nat → Int32) : Met l yX3_worstLevel wsX3_worstLevel ({ frames := 1, cells := 0, slots := 0, locals := 21 }) (va_Pc [.ref h0, .ref n0] (xB (dC, dI) (xT cI cZ cJ) [(h0, .inr (3, [.int (st 0), .int (st 1), .int (st 2), .int (st 3), .int (st 4), .int (st 5), .int (st 6), .int (st 7)])), (n0, .inr (2, [.ref a0, .ref b0, .int (nt 2), .int (nt 3), .int (nt 4), .int (nt 5), .int (nt 6), .int (nt 7), .int (nt 8), .int (nt 9), .int (nt 10)])), (a0, .inr (0, [.int (fa 0), .int (fa 1), .int (fa 2)])), (b0, .inr (0, [.int (fb 0), .int (fb 1), .int (fb 2)]))] sz)) (va_Qi (fun (r : Int32) (u : Unit) => r = kWl fa fb (st 1) (st 2)) (fun (u : Unit) t => xA (dC, dI) (xT cI cZ cJ) [(h0, .inr (3, [.int (st 0), .int (st 1), .int (st 2), .int (st 3), .int (st 4), .int (st 5), .int (st 6), .int (st 7)])), (n0, .inr (2, [.ref a0, .ref b0, .int (nt 2), .int (nt 3), .int (nt 4), .int (nt 5), .int (nt 6), .int (nt 7), .int (nt 8), .int (nt 9), .int (nt 10)])), (a0, .inr (0, [.int (fa 0), .int (fa 1), .int (fa 2)])), (b0, .inr (0, [.int (fb 0), .int (fb 1), .int (fb 2)]))] (va_A [(h0, .inr (3, [.int (st 0), .int (st 1), .int (st 2), .int (st 3), .int (st 4), .int (st 5), .int (st 6), .int (st 7)])), (n0, .inr (2, [.ref a0, .ref b0, .int (nt 2), .int (nt 3), .int (nt 4), .int (nt 5), .int (nt 6), .int (nt 7), .int (nt 8), .int (nt 9), .int (nt 10)])), (a0, .inr (0, [.int (fa 0), .int (fa 1), .int (fa 2)])), (b0, .inr (0, [.int (fb 0), .int (fb 1), .int (fb 2)]))] sz) t) (va_A [(h0, .inr (3, [.int (st 0), .int (st 1), .int (st 2), .int (st 3), .int (st 4), .int (st 5), .int (st 6), .int (st 7)])), (n0, .inr (2, [.ref a0, .ref b0, .int (nt 2), .int (nt 3), .int (nt 4), .int (nt 5), .int (nt 6), .int (nt 7), .int (nt 8), .int (nt 9), .int (nt 10)])), (a0, .inr (0, [.int (fa 0), .int (fa 1), .int (fa 2)])), (b0, .inr (0, [.int (fb 0), .int (fb 1), .int (fb 2)]))] sz)) 0 0 (va_A [(h0, .inr (3, [.int (st 0), .int (st 1), .int (st 2), .int (st 3), .int (st 4), .int (st 5), .int (st 6), .int (st 7)])), (n0, .inr (2, [.ref a0, .ref b0, .int (nt 2), .int (nt 3), .int (nt 4), .int (nt 5), .int (nt 6), .int (nt 7), .int (nt 8), .int (nt 9), .int (nt 10)])), (a0, .inr (0, [.int (fa 0), .int (fa 1), .int (fa 2)])), (b0, .inr (0, [.int (fb 0), .int (fb 1), .int (fb 2)]))] sz) := by
  refine xMet (QF := fun A => va_Qi (fun (r : Int32) (u : Unit) => r = kWl fa fb (st 1) (st 2)) (fun (u : Unit) t => xA (dC, dI) (xT cI cZ cJ) [(h0, .inr (3, [.int (st 0), .int (st 1), .int (st 2), .int (st 3), .int (st 4), .int (st 5), .int (st 6), .int (st 7)])), (n0, .inr (2, [.ref a0, .ref b0, .int (nt 2), .int (nt 3), .int (nt 4), .int (nt 5), .int (nt 6), .int (nt 7), .int (nt 8), .int (nt 9), .int (nt 10)])), (a0, .inr (0, [.int (fa 0), .int (fa 1), .int (fa 2)])), (b0, .inr (0, [.int (fb 0), .int (fb 1), .int (fb 2)]))] A t) A) (maxL := 2) (ret := (some .int)) (cc := cX3_worstLevel) (by decide) rfl (Nat.le_of_ble_eq_true rfl) ?_
  intro p e s m below meth c ls A hf hr hlk hnm hK hP hD hA hS hl
  obtain ⟨hx, hb, hml, hown, hts⟩ := id hf
  have iX2 : ∀ w ∈ wsX20, w ∈ wsX3_worstLevel := by decide +kernel
  have iX3 : ∀ w ∈ wsX30, w ∈ wsX3_worstLevel := by decide +kernel
  have hl : lv_has ls 2 [(0, .ref h0), (1, .ref n0)] := hl
  have hP : va_P (dC, dI) vwCl [(h0, .inr (3, [.int (st 0), .int (st 1), .int (st 2), .int (st 3), .int (st 4), .int (st 5), .int (st 6), .int (st 7)])), (n0, .inr (2, [.ref a0, .ref b0, .int (nt 2), .int (nt 3), .int (nt 4), .int (nt 5), .int (nt 6), .int (nt 7), .int (nt 8), .int (nt 9), .int (nt 10)])), (a0, .inr (0, [.int (fa 0), .int (fa 1), .int (fa 2)])), (b0, .inr (0, [.int (fb 0), .int (fb 1), .int (fb 2)]))] s.heap := hP
  refine lv_aload_n hx hb dX3_worstLevel_0 rfl (lv_at hl 1 rfl) ?_
  refine va_get (D := (dC, dI)) (ci := 2) (v := .ref a0) (C := RX2) (T := TX2) (N := 11) hx hb hts iX2 hown hK hP 1 rfl rfl 0 (by decide) (hts (.fieldLink RX3 37 "Barrierbook$Note" "asset0" "LBarrierbook$Asset;") (by decide +kernel)) (fun _ h9 => h9) rfl dX3_worstLevel_1 ?_
  refine lv_aload_n hx hb dX3_worstLevel_4 rfl (lv_at hl 0 rfl) ?_
  refine va_get (D := (dC, dI)) (ci := 3) (v := .int (st 1)) (C := RX3) (T := TX3) (N := 8) hx hb hts iX3 hown hK hP 0 rfl rfl 1 (by decide) (hts (.fieldLink RX3 15 "Barrierbook$Standing" "price0" "I") (by decide +kernel)) (fun _ h9 => h9) rfl dX3_worstLevel_5 ?_
  refine xci (wr := [(h0, .inr (3, [.int (st 0), .int (st 1), .int (st 2), .int (st 3), .int (st 4), .int (st 5), .int (st 6), .int (st 7)])), (n0, .inr (2, [.ref a0, .ref b0, .int (nt 2), .int (nt 3), .int (nt 4), .int (nt 5), .int (nt 6), .int (nt 7), .int (nt 8), .int (nt 9), .int (nt 10)])), (b0, .inr (0, [.int (fb 0), .int (fb 1), .int (fb 2)]))]) (va_runV (As := [.int (st 1)]) (rest := []) hf (c_X0_levelAt l dC dI cI cZ cJ s.heap.size a0 fa (st 1)) (cwV 1 hts gX3_worstLevel_X0_levelAt rfl rfl rfl (by decide +kernel) ⟨Nat.le_of_ble_eq_true rfl, Nat.le_of_ble_eq_true rfl⟩) (xPV (qc := (RX0, TX0, 3)) hK hP hD [2] rfl rfl 0 rfl rfl) rfl rfl hl.1 rfl (lv_room (Nat.le_of_ble_eq_true rfl)) dX3_worstLevel_8 ⟨Nat.le_of_ble_eq_true rfl, Nat.le_of_ble_eq_true rfl⟩) hP hD hS hA [2] [0, 1, 3] rfl rfl rfl (by decide) (fun r_8 u_8 H locs w_8 hP hD hS => ?_)
  have hP : va_P (dC, dI) vwCl [(h0, .inr (3, [.int (st 0), .int (st 1), .int (st 2), .int (st 3), .int (st 4), .int (st 5), .int (st 6), .int (st 7)])), (n0, .inr (2, [.ref a0, .ref b0, .int (nt 2), .int (nt 3), .int (nt 4), .int (nt 5), .int (nt 6), .int (nt 7), .int (nt 8), .int (nt 9), .int (nt 10)])), (b0, .inr (0, [.int (fb 0), .int (fb 1), .int (fb 2)])), (a0, .inr (0, [.int (fa 0), .int (fa 1), .int (fa 2)]))] H := hP
  have hD : va_D A [(h0, .inr (3, [.int (st 0), .int (st 1), .int (st 2), .int (st 3), .int (st 4), .int (st 5), .int (st 6), .int (st 7)])), (n0, .inr (2, [.ref a0, .ref b0, .int (nt 2), .int (nt 3), .int (nt 4), .int (nt 5), .int (nt 6), .int (nt 7), .int (nt 8), .int (nt 9), .int (nt 10)])), (b0, .inr (0, [.int (fb 0), .int (fb 1), .int (fb 2)])), (a0, .inr (0, [.int (fa 0), .int (fa 1), .int (fa 2)]))] := hD
  refine lv_aload_n hx hb dX3_worstLevel_11 rfl (lv_at hl 1 rfl) ?_
  refine va_get (D := (dC, dI)) (ci := 2) (v := .ref b0) (C := RX2) (T := TX2) (N := 11) hx hb hts iX2 hown hK hP 1 rfl rfl 1 (by decide) (hts (.fieldLink RX3 48 "Barrierbook$Note" "asset1" "LBarrierbook$Asset;") (by decide +kernel)) (fun _ h9 => h9) rfl dX3_worstLevel_12 ?_
  refine lv_aload_n hx hb dX3_worstLevel_15 rfl (lv_at hl 0 rfl) ?_
  refine va_get (D := (dC, dI)) (ci := 3) (v := .int (st 2)) (C := RX3) (T := TX3) (N := 8) hx hb hts iX3 hown hK hP 0 rfl rfl 2 (by decide) (hts (.fieldLink RX3 18 "Barrierbook$Standing" "price1" "I") (by decide +kernel)) (fun _ h9 => h9) rfl dX3_worstLevel_16 ?_
  refine xci (wr := [(h0, .inr (3, [.int (st 0), .int (st 1), .int (st 2), .int (st 3), .int (st 4), .int (st 5), .int (st 6), .int (st 7)])), (n0, .inr (2, [.ref a0, .ref b0, .int (nt 2), .int (nt 3), .int (nt 4), .int (nt 5), .int (nt 6), .int (nt 7), .int (nt 8), .int (nt 9), .int (nt 10)])), (a0, .inr (0, [.int (fa 0), .int (fa 1), .int (fa 2)]))]) (va_runV (As := [.int (st 2)]) (rest := [.int r_8]) hf (c_X0_levelAt l dC dI cI cZ cJ H.size b0 fb (st 2)) (cwV 1 hts gX3_worstLevel_X0_levelAt rfl rfl rfl (by decide +kernel) ⟨Nat.le_of_ble_eq_true rfl, Nat.le_of_ble_eq_true rfl⟩) (xPV (qc := (RX0, TX0, 3)) hK hP hD [2] rfl rfl 0 rfl rfl) rfl rfl hl.1 rfl (lv_room (Nat.le_of_ble_eq_true rfl)) dX3_worstLevel_19 ⟨Nat.le_of_ble_eq_true rfl, Nat.le_of_ble_eq_true rfl⟩) hP hD hS hA [2] [0, 1, 3] rfl rfl rfl (by decide) (fun r_19 u_19 H locs w_19 hP hD hS => ?_)
  have hP : va_P (dC, dI) vwCl [(h0, .inr (3, [.int (st 0), .int (st 1), .int (st 2), .int (st 3), .int (st 4), .int (st 5), .int (st 6), .int (st 7)])), (n0, .inr (2, [.ref a0, .ref b0, .int (nt 2), .int (nt 3), .int (nt 4), .int (nt 5), .int (nt 6), .int (nt 7), .int (nt 8), .int (nt 9), .int (nt 10)])), (a0, .inr (0, [.int (fa 0), .int (fa 1), .int (fa 2)])), (b0, .inr (0, [.int (fb 0), .int (fb 1), .int (fb 2)]))] H := hP
  have hD : va_D A [(h0, .inr (3, [.int (st 0), .int (st 1), .int (st 2), .int (st 3), .int (st 4), .int (st 5), .int (st 6), .int (st 7)])), (n0, .inr (2, [.ref a0, .ref b0, .int (nt 2), .int (nt 3), .int (nt 4), .int (nt 5), .int (nt 6), .int (nt 7), .int (nt 8), .int (nt 9), .int (nt 10)])), (a0, .inr (0, [.int (fa 0), .int (fa 1), .int (fa 2)])), (b0, .inr (0, [.int (fb 0), .int (fb 1), .int (fb 2)]))] := hD
  refine va_mmin hx hb (hml.trans hl.1.symm) hown (hts (.methodLink RX3 55 Lib.Math.min.name) (by decide +kernel)) (hts (.static Lib.Math.min.name) (by decide +kernel)) (hts (.initialized "java/lang/Math") (by decide +kernel)) (hts (.code Lib.Math.min.name Lib.Math.min.code 2 (some .int)) (by decide +kernel)) (Nat.le_of_ble_eq_true rfl) (Nat.le_of_ble_eq_true rfl) (Nat.le_of_ble_eq_true rfl) (Nat.le_of_ble_eq_true rfl) dX3_worstLevel_22 ?_
  refine lv_topi (fun x_22 e_22 => ?_)
  exact xri hf hr hlk (()) (by subst e_22; simp [kWl, kMin, x8f, w_8, w_19]) (hP.sub [0, 1, 2, 3] rfl) (hD.sub [0, 1, 2, 3] rfl rfl) hK hS dX3_worstLevel_25
set_option maxHeartbeats 4000000 in
set_option maxRecDepth 100000 in
theorem c_X3_takeCoupons (l : Launch) (dC : Nat → ClassId) (dI : Nat → Nat → Nat) (cI cZ cJ : ClassId) (sz : Nat) (h0 n0 a0 b0 : Nat) (st nt : Nat → Int32) (lev : Int32) : Met l yX3_takeCoupons wsX3_takeCoupons ({ frames := 0, cells := 0, slots := 0, locals := 0 }) (va_Pc [.ref h0, .ref n0, .int lev] (xB (dC, dI) (xT cI cZ cJ) [(h0, .inr (3, [.int (st 0), .int (st 1), .int (st 2), .int (st 3), .int (st 4), .int (st 5), .int (st 6), .int (st 7)])), (n0, .inr (2, [.ref a0, .ref b0, .int (nt 2), .int (nt 3), .int (nt 4), .int (nt 5), .int (nt 6), .int (nt 7), .int (nt 8), .int (nt 9), .int (nt 10)]))] sz)) (va_Qi (fun (r : Int32) (u : Nat → Int32) => r = kCp nt lev (st 3) ∧ u = x8f (st 0) (st 1) (st 2) (kMs nt lev (st 3)) (st 4) (st 5) (st 6) (st 7)) (fun (u : Nat → Int32) t => xA (dC, dI) (xT cI cZ cJ) [(h0, .inr (3, [.int (u 0), .int (u 1), .int (u 2), .int (u 3), .int (u 4), .int (u 5), .int (u 6), .int (u 7)])), (n0, .inr (2, [.ref a0, .ref b0, .int (nt 2), .int (nt 3), .int (nt 4), .int (nt 5), .int (nt 6), .int (nt 7), .int (nt 8), .int (nt 9), .int (nt 10)]))] (va_A [(h0, .inr (3, [.int (st 0), .int (st 1), .int (st 2), .int (st 3), .int (st 4), .int (st 5), .int (st 6), .int (st 7)])), (n0, .inr (2, [.ref a0, .ref b0, .int (nt 2), .int (nt 3), .int (nt 4), .int (nt 5), .int (nt 6), .int (nt 7), .int (nt 8), .int (nt 9), .int (nt 10)]))] sz) t) (va_A [(h0, .inr (3, [.int (st 0), .int (st 1), .int (st 2), .int (st 3), .int (st 4), .int (st 5), .int (st 6), .int (st 7)])), (n0, .inr (2, [.ref a0, .ref b0, .int (nt 2), .int (nt 3), .int (nt 4), .int (nt 5), .int (nt 6), .int (nt 7), .int (nt 8), .int (nt 9), .int (nt 10)]))] sz)) 0 0 (va_A [(h0, .inr (3, [.int (st 0), .int (st 1), .int (st 2), .int (st 3), .int (st 4), .int (st 5), .int (st 6), .int (st 7)])), (n0, .inr (2, [.ref a0, .ref b0, .int (nt 2), .int (nt 3), .int (nt 4), .int (nt 5), .int (nt 6), .int (nt 7), .int (nt 8), .int (nt 9), .int (nt 10)]))] sz) := by
  refine xMet (QF := fun A => va_Qi (fun (r : Int32) (u : Nat → Int32) => r = kCp nt lev (st 3) ∧ u = x8f (st 0) (st 1) (st 2) (kMs nt lev (st 3)) (st 4) (st 5) (st 6) (st 7)) (fun (u : Nat → Int32) t => xA (dC, dI) (xT cI cZ cJ) [(h0, .inr (3, [.int (u 0), .int (u 1), .int (u 2), .int (u 3), .int (u 4), .int (u 5), .int (u 6), .int (u 7)])), (n0, .inr (2, [.ref a0, .ref b0, .int (nt 2), .int (nt 3), .int (nt 4), .int (nt 5), .int (nt 6), .int (nt 7), .int (nt 8), .int (nt 9), .int (nt 10)]))] A t) A) (maxL := 4) (ret := (some .int)) (cc := cX3_takeCoupons) (by decide) rfl (Nat.le_of_ble_eq_true rfl) ?_
  intro p e s m below meth c ls A hf hr hlk hnm hK hP hD hA hS hl
  obtain ⟨hx, hb, hml, hown, hts⟩ := id hf
  have iX2 : ∀ w ∈ wsX20, w ∈ wsX3_takeCoupons := by decide +kernel
  have iX3 : ∀ w ∈ wsX30, w ∈ wsX3_takeCoupons := by decide +kernel
  have hl : lv_has ls 4 [(0, .ref h0), (1, .ref n0), (2, .int lev)] := hl
  have hP : va_P (dC, dI) vwCl [(h0, .inr (3, [.int (st 0), .int (st 1), .int (st 2), .int (st 3), .int (st 4), .int (st 5), .int (st 6), .int (st 7)])), (n0, .inr (2, [.ref a0, .ref b0, .int (nt 2), .int (nt 3), .int (nt 4), .int (nt 5), .int (nt 6), .int (nt 7), .int (nt 8), .int (nt 9), .int (nt 10)]))] s.heap := hP
  refine lv_iload_n hx hb dX3_takeCoupons_0 rfl (lv_at hl 2 rfl) ?_
  refine lv_aload_n hx hb dX3_takeCoupons_1 rfl (lv_at hl 1 rfl) ?_
  refine va_get (D := (dC, dI)) (ci := 2) (v := .int (nt 6)) (C := RX2) (T := TX2) (N := 11) hx hb hts iX2 hown hK hP 1 rfl rfl 6 (by decide) (hts (.fieldLink RX3 91 "Barrierbook$Note" "couponLevel" "I") (by decide +kernel)) (fun _ h9 => h9) rfl dX3_takeCoupons_2 ?_
  refine lv_icmp_ge (tgt := 20) hx hb dX3_takeCoupons_5 (by decide) (fun c_5 => ?_) (fun c_5 => ?_)
  · refine lv_aload_n hx hb dX3_takeCoupons_20 rfl (lv_at hl 1 rfl) ?_
    refine va_get (D := (dC, dI)) (ci := 2) (v := .int (nt 10)) (C := RX2) (T := TX2) (N := 11) hx hb hts iX2 hown hK hP 1 rfl rfl 10 (by decide) (hts (.fieldLink RX3 94 "Barrierbook$Note" "remembers" "Z") (by decide +kernel)) (fun _ h9 => h9) rfl dX3_takeCoupons_21 ?_
    refine lv_if_eq (tgt := 36) hx hb dX3_takeCoupons_24 (by decide) (fun c_24 => ?_) (fun c_24 => ?_)
    · refine lv_iconst (v := 1) hx hb dX3_takeCoupons_36 (by decide) ?_
      refine lv_istore_n (lv' := [(3, .int 1), (0, .ref h0), (1, .ref n0), (2, .int lev)]) hx hb dX3_takeCoupons_37 rfl hl (by decide) rfl (fun ls hl => ?_)
      refine lv_aload_n hx hb dX3_takeCoupons_38 rfl (lv_at hl 1 rfl) ?_
      refine lv_iconst (v := 0) hx hb dX3_takeCoupons_39 (by decide) ?_
      refine va_put (D := (dC, dI)) (ci := 3) (v := .int 0) (ty := .int) (C := RX3) (T := TX3) (N := 8) hx hb hts iX3 tyX3 tyX3_ok nmX3 hown hK hP hD hS 0 rfl rfl 3 (by decide) (hts (.fieldLink RX3 21 "Barrierbook$Standing" "missed" "I") (by decide +kernel)) (fun _ h9 => h9) rfl (by decide +kernel) rfl rfl (Nat.le_of_ble_eq_true rfl) dX3_takeCoupons_40 (fun H locs hP hD hS => ?_)
      have hP : va_P (dC, dI) vwCl [(h0, .inr (3, [.int (st 0), .int (st 1), .int (st 2), .int 0, .int (st 4), .int (st 5), .int (st 6), .int (st 7)])), (n0, .inr (2, [.ref a0, .ref b0, .int (nt 2), .int (nt 3), .int (nt 4), .int (nt 5), .int (nt 6), .int (nt 7), .int (nt 8), .int (nt 9), .int (nt 10)]))] H := hP
      have hD : va_D A [(h0, .inr (3, [.int (st 0), .int (st 1), .int (st 2), .int 0, .int (st 4), .int (st 5), .int (st 6), .int (st 7)])), (n0, .inr (2, [.ref a0, .ref b0, .int (nt 2), .int (nt 3), .int (nt 4), .int (nt 5), .int (nt 6), .int (nt 7), .int (nt 8), .int (nt 9), .int (nt 10)]))] := hD
      refine lv_iload_n hx hb dX3_takeCoupons_43 rfl (lv_at hl 0 rfl) ?_
      refine lv_aload_n hx hb dX3_takeCoupons_44 rfl (lv_at hl 2 rfl) ?_
      refine va_get (D := (dC, dI)) (ci := 2) (v := .int (nt 8)) (C := RX2) (T := TX2) (N := 11) hx hb hts iX2 hown hK hP 1 rfl rfl 8 (by decide) (hts (.fieldLink RX3 97 "Barrierbook$Note" "coupon" "I") (by decide +kernel)) (fun _ h9 => h9) rfl dX3_takeCoupons_45 ?_
      refine lv_imul hx hb dX3_takeCoupons_48 ?_
      refine lv_topi (fun x_48 e_48 => ?_)
      exact xri hf hr hlk (x8f (st 0) (st 1) (st 2) 0 (st 4) (st 5) (st 6) (st 7)) (by subst e_48; simp [kCp, kMs, x8f, c_5, c_24]) (hP.sub [0, 1] rfl) (hD.sub [0, 1] rfl rfl) hK hS dX3_takeCoupons_49
    refine lv_iconst (v := 1) hx hb dX3_takeCoupons_27 (by decide) ?_
    refine lv_aload_n hx hb dX3_takeCoupons_28 rfl (lv_at hl 0 rfl) ?_
    refine va_get (D := (dC, dI)) (ci := 3) (v := .int (st 3)) (C := RX3) (T := TX3) (N := 8) hx hb hts iX3 hown hK hP 0 rfl rfl 3 (by decide) (hts (.fieldLink RX3 21 "Barrierbook$Standing" "missed" "I") (by decide +kernel)) (fun _ h9 => h9) rfl dX3_takeCoupons_29 ?_
    refine lv_iadd hx hb dX3_takeCoupons_32 ?_
    refine lv_topi (fun x_32 e_32 => ?_)
    refine lv_goto (tgt := 37) hx hb dX3_takeCoupons_33 (by decide) ?_
    refine lv_istore_n (lv' := [(3, .int x_32), (0, .ref h0), (1, .ref n0), (2, .int lev)]) hx hb dX3_takeCoupons_37 rfl hl (by decide) rfl (fun ls hl => ?_)
    refine lv_aload_n hx hb dX3_takeCoupons_38 rfl (lv_at hl 1 rfl) ?_
    refine lv_iconst (v := 0) hx hb dX3_takeCoupons_39 (by decide) ?_
    refine va_put (D := (dC, dI)) (ci := 3) (v := .int 0) (ty := .int) (C := RX3) (T := TX3) (N := 8) hx hb hts iX3 tyX3 tyX3_ok nmX3 hown hK hP hD hS 0 rfl rfl 3 (by decide) (hts (.fieldLink RX3 21 "Barrierbook$Standing" "missed" "I") (by decide +kernel)) (fun _ h9 => h9) rfl (by decide +kernel) rfl rfl (Nat.le_of_ble_eq_true rfl) dX3_takeCoupons_40 (fun H locs hP hD hS => ?_)
    have hP : va_P (dC, dI) vwCl [(h0, .inr (3, [.int (st 0), .int (st 1), .int (st 2), .int 0, .int (st 4), .int (st 5), .int (st 6), .int (st 7)])), (n0, .inr (2, [.ref a0, .ref b0, .int (nt 2), .int (nt 3), .int (nt 4), .int (nt 5), .int (nt 6), .int (nt 7), .int (nt 8), .int (nt 9), .int (nt 10)]))] H := hP
    have hD : va_D A [(h0, .inr (3, [.int (st 0), .int (st 1), .int (st 2), .int 0, .int (st 4), .int (st 5), .int (st 6), .int (st 7)])), (n0, .inr (2, [.ref a0, .ref b0, .int (nt 2), .int (nt 3), .int (nt 4), .int (nt 5), .int (nt 6), .int (nt 7), .int (nt 8), .int (nt 9), .int (nt 10)]))] := hD
    refine lv_iload_n hx hb dX3_takeCoupons_43 rfl (lv_at hl 0 rfl) ?_
    refine lv_aload_n hx hb dX3_takeCoupons_44 rfl (lv_at hl 2 rfl) ?_
    refine va_get (D := (dC, dI)) (ci := 2) (v := .int (nt 8)) (C := RX2) (T := TX2) (N := 11) hx hb hts iX2 hown hK hP 1 rfl rfl 8 (by decide) (hts (.fieldLink RX3 97 "Barrierbook$Note" "coupon" "I") (by decide +kernel)) (fun _ h9 => h9) rfl dX3_takeCoupons_45 ?_
    refine lv_imul hx hb dX3_takeCoupons_48 ?_
    refine lv_topi (fun x_48 e_48 => ?_)
    exact xri hf hr hlk (x8f (st 0) (st 1) (st 2) 0 (st 4) (st 5) (st 6) (st 7)) (by subst e_32 e_48; simp [kCp, kMs, x8f, c_5, c_24]) (hP.sub [0, 1] rfl) (hD.sub [0, 1] rfl rfl) hK hS dX3_takeCoupons_49
  refine lv_aload_n hx hb dX3_takeCoupons_8 rfl (lv_at hl 0 rfl) ?_
  refine lv_dup hx hb dX3_takeCoupons_9 rfl ?_
  refine va_get (D := (dC, dI)) (ci := 3) (v := .int (st 3)) (C := RX3) (T := TX3) (N := 8) hx hb hts iX3 hown hK hP 0 rfl rfl 3 (by decide) (hts (.fieldLink RX3 21 "Barrierbook$Standing" "missed" "I") (by decide +kernel)) (fun _ h9 => h9) rfl dX3_takeCoupons_10 ?_
  refine lv_iconst (v := 1) hx hb dX3_takeCoupons_13 (by decide) ?_
  refine lv_iadd hx hb dX3_takeCoupons_14 ?_
  refine lv_topi (fun x_14 e_14 => ?_)
  refine va_put (D := (dC, dI)) (ci := 3) (v := .int x_14) (ty := .int) (C := RX3) (T := TX3) (N := 8) hx hb hts iX3 tyX3 tyX3_ok nmX3 hown hK hP hD hS 0 rfl rfl 3 (by decide) (hts (.fieldLink RX3 21 "Barrierbook$Standing" "missed" "I") (by decide +kernel)) (fun _ h9 => h9) rfl (by decide +kernel) rfl rfl (Nat.le_of_ble_eq_true rfl) dX3_takeCoupons_15 (fun H locs hP hD hS => ?_)
  have hP : va_P (dC, dI) vwCl [(h0, .inr (3, [.int (st 0), .int (st 1), .int (st 2), .int x_14, .int (st 4), .int (st 5), .int (st 6), .int (st 7)])), (n0, .inr (2, [.ref a0, .ref b0, .int (nt 2), .int (nt 3), .int (nt 4), .int (nt 5), .int (nt 6), .int (nt 7), .int (nt 8), .int (nt 9), .int (nt 10)]))] H := hP
  have hD : va_D A [(h0, .inr (3, [.int (st 0), .int (st 1), .int (st 2), .int x_14, .int (st 4), .int (st 5), .int (st 6), .int (st 7)])), (n0, .inr (2, [.ref a0, .ref b0, .int (nt 2), .int (nt 3), .int (nt 4), .int (nt 5), .int (nt 6), .int (nt 7), .int (nt 8), .int (nt 9), .int (nt 10)]))] := hD
  refine lv_iconst (v := 0) hx hb dX3_takeCoupons_18 (by decide) ?_
  exact xri hf hr hlk (x8f (st 0) (st 1) (st 2) x_14 (st 4) (st 5) (st 6) (st 7)) (by subst e_14; simp [kCp, kMs, x8f, c_5]) (hP.sub [0, 1] rfl) (hD.sub [0, 1] rfl rfl) hK hS dX3_takeCoupons_19
set_option maxHeartbeats 4000000 in
set_option maxRecDepth 100000 in
theorem c_X3_endPay (l : Launch) (dC : Nat → ClassId) (dI : Nat → Nat → Nat) (cI cZ cJ : ClassId) (sz : Nat) (h0 : Nat) (st : Nat → Int32) (lev last : Int32) : Met l yX3_endPay wsX3_endPay ({ frames := 0, cells := 0, slots := 0, locals := 0 }) (va_Pc [.ref h0, .int lev, .int last] (xB (dC, dI) (xT cI cZ cJ) [(h0, .inr (3, [.int (st 0), .int (st 1), .int (st 2), .int (st 3), .int (st 4), .int (st 5), .int (st 6), .int (st 7)]))] sz)) (va_Qi (fun (r : Int32) (u : Unit) => r = kEp lev last (st 4)) (fun (u : Unit) t => xA (dC, dI) (xT cI cZ cJ) [(h0, .inr (3, [.int (st 0), .int (st 1), .int (st 2), .int (st 3), .int (st 4), .int (st 5), .int (st 6), .int (st 7)]))] (va_A [(h0, .inr (3, [.int (st 0), .int (st 1), .int (st 2), .int (st 3), .int (st 4), .int (st 5), .int (st 6), .int (st 7)]))] sz) t) (va_A [(h0, .inr (3, [.int (st 0), .int (st 1), .int (st 2), .int (st 3), .int (st 4), .int (st 5), .int (st 6), .int (st 7)]))] sz)) 0 0 (va_A [(h0, .inr (3, [.int (st 0), .int (st 1), .int (st 2), .int (st 3), .int (st 4), .int (st 5), .int (st 6), .int (st 7)]))] sz) := by
  refine xMet (QF := fun A => va_Qi (fun (r : Int32) (u : Unit) => r = kEp lev last (st 4)) (fun (u : Unit) t => xA (dC, dI) (xT cI cZ cJ) [(h0, .inr (3, [.int (st 0), .int (st 1), .int (st 2), .int (st 3), .int (st 4), .int (st 5), .int (st 6), .int (st 7)]))] A t) A) (maxL := 4) (ret := (some .int)) (cc := cX3_endPay) (by decide) rfl (Nat.le_of_ble_eq_true rfl) ?_
  intro p e s m below meth c ls A hf hr hlk hnm hK hP hD hA hS hl
  obtain ⟨hx, hb, hml, hown, hts⟩ := id hf
  have iX3 : ∀ w ∈ wsX30, w ∈ wsX3_endPay := by decide +kernel
  have hl : lv_has ls 4 [(0, .ref h0), (1, .int lev), (2, .int last)] := hl
  have hP : va_P (dC, dI) vwCl [(h0, .inr (3, [.int (st 0), .int (st 1), .int (st 2), .int (st 3), .int (st 4), .int (st 5), .int (st 6), .int (st 7)]))] s.heap := hP
  refine lv_iload_n hx hb dX3_endPay_0 rfl (lv_at hl 2 rfl) ?_
  refine lv_if_eq (tgt := 21) hx hb dX3_endPay_1 (by decide) (fun c_1 => ?_) (fun c_1 => ?_)
  · refine lv_iconst (v := 0) hx hb dX3_endPay_21 (by decide) ?_
    refine lv_istore_n (lv' := [(3, .int 0), (0, .ref h0), (1, .int lev), (2, .int last)]) hx hb dX3_endPay_22 rfl hl (by decide) rfl (fun ls hl => ?_)
    refine lv_iload_n hx hb dX3_endPay_23 rfl (lv_at hl 0 rfl) ?_
    refine lv_if_eq (tgt := 34) hx hb dX3_endPay_24 (by decide) (fun c_24 => ?_) (fun c_24 => ?_)
    · refine lv_sipush (v := 1000) hx hb dX3_endPay_34 (by decide +kernel) ?_
      exact xri hf hr hlk (()) (by simp [kEp, x8f, c_1, c_24]) (hP.sub [0] rfl) (hD.sub [0] rfl rfl) hK hS dX3_endPay_37
    · exact absurd (by decide) c_24
  refine lv_aload_n hx hb dX3_endPay_4 rfl (lv_at hl 0 rfl) ?_
  refine va_get (D := (dC, dI)) (ci := 3) (v := .int (st 4)) (C := RX3) (T := TX3) (N := 8) hx hb hts iX3 hown hK hP 0 rfl rfl 4 (by decide) (hts (.fieldLink RX3 24 "Barrierbook$Standing" "isKnocked" "Z") (by decide +kernel)) (fun _ h9 => h9) rfl dX3_endPay_5 ?_
  refine lv_if_eq (tgt := 21) hx hb dX3_endPay_8 (by decide) (fun c_8 => ?_) (fun c_8 => ?_)
  · refine lv_iconst (v := 0) hx hb dX3_endPay_21 (by decide) ?_
    refine lv_istore_n (lv' := [(3, .int 0), (0, .ref h0), (1, .int lev), (2, .int last)]) hx hb dX3_endPay_22 rfl hl (by decide) rfl (fun ls hl => ?_)
    refine lv_iload_n hx hb dX3_endPay_23 rfl (lv_at hl 0 rfl) ?_
    refine lv_if_eq (tgt := 34) hx hb dX3_endPay_24 (by decide) (fun c_24 => ?_) (fun c_24 => ?_)
    · refine lv_sipush (v := 1000) hx hb dX3_endPay_34 (by decide +kernel) ?_
      exact xri hf hr hlk (()) (by simp [kEp, x8f, c_1, c_8, c_24]) (hP.sub [0] rfl) (hD.sub [0] rfl rfl) hK hS dX3_endPay_37
    · exact absurd (by decide) c_24
  refine lv_iload_n hx hb dX3_endPay_11 rfl (lv_at hl 1 rfl) ?_
  refine lv_bipush (v := 100) hx hb dX3_endPay_12 (by decide) ?_
  refine lv_icmp_ge (tgt := 21) hx hb dX3_endPay_14 (by decide) (fun c_14 => ?_) (fun c_14 => ?_)
  · refine lv_iconst (v := 0) hx hb dX3_endPay_21 (by decide) ?_
    refine lv_istore_n (lv' := [(3, .int 0), (0, .ref h0), (1, .int lev), (2, .int last)]) hx hb dX3_endPay_22 rfl hl (by decide) rfl (fun ls hl => ?_)
    refine lv_iload_n hx hb dX3_endPay_23 rfl (lv_at hl 0 rfl) ?_
    refine lv_if_eq (tgt := 34) hx hb dX3_endPay_24 (by decide) (fun c_24 => ?_) (fun c_24 => ?_)
    · refine lv_sipush (v := 1000) hx hb dX3_endPay_34 (by decide +kernel) ?_
      exact xri hf hr hlk (()) (by simp [kEp, x8f, c_1, c_8, c_14, c_24]) (hP.sub [0] rfl) (hD.sub [0] rfl rfl) hK hS dX3_endPay_37
    · exact absurd (by decide) c_24
  refine lv_iconst (v := 1) hx hb dX3_endPay_17 (by decide) ?_
  refine lv_goto (tgt := 22) hx hb dX3_endPay_18 (by decide) ?_
  refine lv_istore_n (lv' := [(3, .int 1), (0, .ref h0), (1, .int lev), (2, .int last)]) hx hb dX3_endPay_22 rfl hl (by decide) rfl (fun ls hl => ?_)
  refine lv_iload_n hx hb dX3_endPay_23 rfl (lv_at hl 0 rfl) ?_
  refine lv_if_eq (tgt := 34) hx hb dX3_endPay_24 (by decide) (fun c_24 => ?_) (fun c_24 => ?_)
  · exact absurd c_24 (by decide)
  refine lv_bipush (v := 10) hx hb dX3_endPay_27 (by decide) ?_
  refine lv_iload_n hx hb dX3_endPay_29 rfl (lv_at hl 2 rfl) ?_
  refine lv_imul hx hb dX3_endPay_30 ?_
  refine lv_topi (fun x_30 e_30 => ?_)
  refine lv_goto (tgt := 37) hx hb dX3_endPay_31 (by decide) ?_
  exact xri hf hr hlk (()) (by subst e_30; simp [kEp, x8f, c_1, c_8, c_14, c_24]) (hP.sub [0] rfl) (hD.sub [0] rfl rfl) hK hS dX3_endPay_37
set_option maxHeartbeats 4000000 in
set_option maxRecDepth 100000 in
theorem c_X3_begin (l : Launch) (dC : Nat → ClassId) (dI : Nat → Nat → Nat) (cI cZ cJ : ClassId) (sz : Nat) (h0 n0 a0 b0 : Nat) (st nt fa fb : Nat → Int32) : Met l yX3_begin wsX3_begin ({ frames := 0, cells := 0, slots := 0, locals := 0 }) (va_Pc [.ref h0, .ref n0] (xB (dC, dI) (xT cI cZ cJ) [(h0, .inr (3, [.int (st 0), .int (st 1), .int (st 2), .int (st 3), .int (st 4), .int (st 5), .int (st 6), .int (st 7)])), (n0, .inr (2, [.ref a0, .ref b0, .int (nt 2), .int (nt 3), .int (nt 4), .int (nt 5), .int (nt 6), .int (nt 7), .int (nt 8), .int (nt 9), .int (nt 10)])), (a0, .inr (0, [.int (fa 0), .int (fa 1), .int (fa 2)])), (b0, .inr (0, [.int (fb 0), .int (fb 1), .int (fb 2)]))] sz)) (va_Qv (fun (u : Unit) => True) (fun (u : Unit) t => xA (dC, dI) (xT cI cZ cJ) [(h0, .inr (3, [.int ((x8f 0 (fa 0) (fb 0) 0 0 0 0 0) 0), .int ((x8f 0 (fa 0) (fb 0) 0 0 0 0 0) 1), .int ((x8f 0 (fa 0) (fb 0) 0 0 0 0 0) 2), .int ((x8f 0 (fa 0) (fb 0) 0 0 0 0 0) 3), .int ((x8f 0 (fa 0) (fb 0) 0 0 0 0 0) 4), .int ((x8f 0 (fa 0) (fb 0) 0 0 0 0 0) 5), .int ((x8f 0 (fa 0) (fb 0) 0 0 0 0 0) 6), .int ((x8f 0 (fa 0) (fb 0) 0 0 0 0 0) 7)])), (n0, .inr (2, [.ref a0, .ref b0, .int (nt 2), .int (nt 3), .int (nt 4), .int (nt 5), .int (nt 6), .int (nt 7), .int (nt 8), .int (nt 9), .int (nt 10)])), (a0, .inr (0, [.int (fa 0), .int (fa 1), .int (fa 2)])), (b0, .inr (0, [.int (fb 0), .int (fb 1), .int (fb 2)]))] (va_A [(h0, .inr (3, [.int (st 0), .int (st 1), .int (st 2), .int (st 3), .int (st 4), .int (st 5), .int (st 6), .int (st 7)])), (n0, .inr (2, [.ref a0, .ref b0, .int (nt 2), .int (nt 3), .int (nt 4), .int (nt 5), .int (nt 6), .int (nt 7), .int (nt 8), .int (nt 9), .int (nt 10)])), (a0, .inr (0, [.int (fa 0), .int (fa 1), .int (fa 2)])), (b0, .inr (0, [.int (fb 0), .int (fb 1), .int (fb 2)]))] sz) t) (va_A [(h0, .inr (3, [.int (st 0), .int (st 1), .int (st 2), .int (st 3), .int (st 4), .int (st 5), .int (st 6), .int (st 7)])), (n0, .inr (2, [.ref a0, .ref b0, .int (nt 2), .int (nt 3), .int (nt 4), .int (nt 5), .int (nt 6), .int (nt 7), .int (nt 8), .int (nt 9), .int (nt 10)])), (a0, .inr (0, [.int (fa 0), .int (fa 1), .int (fa 2)])), (b0, .inr (0, [.int (fb 0), .int (fb 1), .int (fb 2)]))] sz)) 0 0 (va_A [(h0, .inr (3, [.int (st 0), .int (st 1), .int (st 2), .int (st 3), .int (st 4), .int (st 5), .int (st 6), .int (st 7)])), (n0, .inr (2, [.ref a0, .ref b0, .int (nt 2), .int (nt 3), .int (nt 4), .int (nt 5), .int (nt 6), .int (nt 7), .int (nt 8), .int (nt 9), .int (nt 10)])), (a0, .inr (0, [.int (fa 0), .int (fa 1), .int (fa 2)])), (b0, .inr (0, [.int (fb 0), .int (fb 1), .int (fb 2)]))] sz) := by
  refine xMet (QF := fun A => va_Qv (fun (u : Unit) => True) (fun (u : Unit) t => xA (dC, dI) (xT cI cZ cJ) [(h0, .inr (3, [.int ((x8f 0 (fa 0) (fb 0) 0 0 0 0 0) 0), .int ((x8f 0 (fa 0) (fb 0) 0 0 0 0 0) 1), .int ((x8f 0 (fa 0) (fb 0) 0 0 0 0 0) 2), .int ((x8f 0 (fa 0) (fb 0) 0 0 0 0 0) 3), .int ((x8f 0 (fa 0) (fb 0) 0 0 0 0 0) 4), .int ((x8f 0 (fa 0) (fb 0) 0 0 0 0 0) 5), .int ((x8f 0 (fa 0) (fb 0) 0 0 0 0 0) 6), .int ((x8f 0 (fa 0) (fb 0) 0 0 0 0 0) 7)])), (n0, .inr (2, [.ref a0, .ref b0, .int (nt 2), .int (nt 3), .int (nt 4), .int (nt 5), .int (nt 6), .int (nt 7), .int (nt 8), .int (nt 9), .int (nt 10)])), (a0, .inr (0, [.int (fa 0), .int (fa 1), .int (fa 2)])), (b0, .inr (0, [.int (fb 0), .int (fb 1), .int (fb 2)]))] A t) A) (maxL := 2) (ret := none) (cc := cX3_begin) (by decide) rfl (Nat.le_of_ble_eq_true rfl) ?_
  intro p e s m below meth c ls A hf hr hlk hnm hK hP hD hA hS hl
  obtain ⟨hx, hb, hml, hown, hts⟩ := id hf
  have iX0 : ∀ w ∈ wsX00, w ∈ wsX3_begin := by decide +kernel
  have iX2 : ∀ w ∈ wsX20, w ∈ wsX3_begin := by decide +kernel
  have iX3 : ∀ w ∈ wsX30, w ∈ wsX3_begin := by decide +kernel
  have hl : lv_has ls 2 [(0, .ref h0), (1, .ref n0)] := hl
  have hP : va_P (dC, dI) vwCl [(h0, .inr (3, [.int (st 0), .int (st 1), .int (st 2), .int (st 3), .int (st 4), .int (st 5), .int (st 6), .int (st 7)])), (n0, .inr (2, [.ref a0, .ref b0, .int (nt 2), .int (nt 3), .int (nt 4), .int (nt 5), .int (nt 6), .int (nt 7), .int (nt 8), .int (nt 9), .int (nt 10)])), (a0, .inr (0, [.int (fa 0), .int (fa 1), .int (fa 2)])), (b0, .inr (0, [.int (fb 0), .int (fb 1), .int (fb 2)]))] s.heap := hP
  refine lv_aload_n hx hb dX3_begin_0 rfl (lv_at hl 0 rfl) ?_
  refine lv_iconst (v := 0) hx hb dX3_begin_1 (by decide) ?_
  refine va_put (D := (dC, dI)) (ci := 3) (v := .int 0) (ty := .int) (C := RX3) (T := TX3) (N := 8) hx hb hts iX3 tyX3 tyX3_ok nmX3 hown hK hP hD hS 0 rfl rfl 0 (by decide) (hts (.fieldLink RX3 9 "Barrierbook$Standing" "told" "I") (by decide +kernel)) (fun _ h9 => h9) rfl (by decide +kernel) rfl rfl (Nat.le_of_ble_eq_true rfl) dX3_begin_2 (fun H locs hP hD hS => ?_)
  have hP : va_P (dC, dI) vwCl [(h0, .inr (3, [.int 0, .int (st 1), .int (st 2), .int (st 3), .int (st 4), .int (st 5), .int (st 6), .int (st 7)])), (n0, .inr (2, [.ref a0, .ref b0, .int (nt 2), .int (nt 3), .int (nt 4), .int (nt 5), .int (nt 6), .int (nt 7), .int (nt 8), .int (nt 9), .int (nt 10)])), (a0, .inr (0, [.int (fa 0), .int (fa 1), .int (fa 2)])), (b0, .inr (0, [.int (fb 0), .int (fb 1), .int (fb 2)]))] H := hP
  have hD : va_D A [(h0, .inr (3, [.int 0, .int (st 1), .int (st 2), .int (st 3), .int (st 4), .int (st 5), .int (st 6), .int (st 7)])), (n0, .inr (2, [.ref a0, .ref b0, .int (nt 2), .int (nt 3), .int (nt 4), .int (nt 5), .int (nt 6), .int (nt 7), .int (nt 8), .int (nt 9), .int (nt 10)])), (a0, .inr (0, [.int (fa 0), .int (fa 1), .int (fa 2)])), (b0, .inr (0, [.int (fb 0), .int (fb 1), .int (fb 2)]))] := hD
  refine lv_aload_n hx hb dX3_begin_5 rfl (lv_at hl 0 rfl) ?_
  refine lv_aload_n hx hb dX3_begin_6 rfl (lv_at hl 1 rfl) ?_
  refine va_get (D := (dC, dI)) (ci := 2) (v := .ref a0) (C := RX2) (T := TX2) (N := 11) hx hb hts iX2 hown hK hP 1 rfl rfl 0 (by decide) (hts (.fieldLink RX3 37 "Barrierbook$Note" "asset0" "LBarrierbook$Asset;") (by decide +kernel)) (fun _ h9 => h9) rfl dX3_begin_7 ?_
  refine va_get (D := (dC, dI)) (ci := 0) (v := .int (fa 0)) (C := RX0) (T := TX0) (N := 3) hx hb hts iX0 hown hK hP 2 rfl rfl 0 (by decide) (hts (.fieldLink RX3 43 "Barrierbook$Asset" "first" "I") (by decide +kernel)) (fun _ h9 => h9) rfl dX3_begin_10 ?_
  refine va_put (D := (dC, dI)) (ci := 3) (v := .int (fa 0)) (ty := .int) (C := RX3) (T := TX3) (N := 8) hx hb hts iX3 tyX3 tyX3_ok nmX3 hown hK hP hD hS 0 rfl rfl 1 (by decide) (hts (.fieldLink RX3 15 "Barrierbook$Standing" "price0" "I") (by decide +kernel)) (fun _ h9 => h9) rfl (by decide +kernel) rfl rfl (Nat.le_of_ble_eq_true rfl) dX3_begin_13 (fun H locs hP hD hS => ?_)
  have hP : va_P (dC, dI) vwCl [(h0, .inr (3, [.int 0, .int (fa 0), .int (st 2), .int (st 3), .int (st 4), .int (st 5), .int (st 6), .int (st 7)])), (n0, .inr (2, [.ref a0, .ref b0, .int (nt 2), .int (nt 3), .int (nt 4), .int (nt 5), .int (nt 6), .int (nt 7), .int (nt 8), .int (nt 9), .int (nt 10)])), (a0, .inr (0, [.int (fa 0), .int (fa 1), .int (fa 2)])), (b0, .inr (0, [.int (fb 0), .int (fb 1), .int (fb 2)]))] H := hP
  have hD : va_D A [(h0, .inr (3, [.int 0, .int (fa 0), .int (st 2), .int (st 3), .int (st 4), .int (st 5), .int (st 6), .int (st 7)])), (n0, .inr (2, [.ref a0, .ref b0, .int (nt 2), .int (nt 3), .int (nt 4), .int (nt 5), .int (nt 6), .int (nt 7), .int (nt 8), .int (nt 9), .int (nt 10)])), (a0, .inr (0, [.int (fa 0), .int (fa 1), .int (fa 2)])), (b0, .inr (0, [.int (fb 0), .int (fb 1), .int (fb 2)]))] := hD
  refine lv_aload_n hx hb dX3_begin_16 rfl (lv_at hl 0 rfl) ?_
  refine lv_aload_n hx hb dX3_begin_17 rfl (lv_at hl 1 rfl) ?_
  refine va_get (D := (dC, dI)) (ci := 2) (v := .ref b0) (C := RX2) (T := TX2) (N := 11) hx hb hts iX2 hown hK hP 1 rfl rfl 1 (by decide) (hts (.fieldLink RX3 48 "Barrierbook$Note" "asset1" "LBarrierbook$Asset;") (by decide +kernel)) (fun _ h9 => h9) rfl dX3_begin_18 ?_
  refine va_get (D := (dC, dI)) (ci := 0) (v := .int (fb 0)) (C := RX0) (T := TX0) (N := 3) hx hb hts iX0 hown hK hP 3 rfl rfl 0 (by decide) (hts (.fieldLink RX3 43 "Barrierbook$Asset" "first" "I") (by decide +kernel)) (fun _ h9 => h9) rfl dX3_begin_21 ?_
  refine va_put (D := (dC, dI)) (ci := 3) (v := .int (fb 0)) (ty := .int) (C := RX3) (T := TX3) (N := 8) hx hb hts iX3 tyX3 tyX3_ok nmX3 hown hK hP hD hS 0 rfl rfl 2 (by decide) (hts (.fieldLink RX3 18 "Barrierbook$Standing" "price1" "I") (by decide +kernel)) (fun _ h9 => h9) rfl (by decide +kernel) rfl rfl (Nat.le_of_ble_eq_true rfl) dX3_begin_24 (fun H locs hP hD hS => ?_)
  have hP : va_P (dC, dI) vwCl [(h0, .inr (3, [.int 0, .int (fa 0), .int (fb 0), .int (st 3), .int (st 4), .int (st 5), .int (st 6), .int (st 7)])), (n0, .inr (2, [.ref a0, .ref b0, .int (nt 2), .int (nt 3), .int (nt 4), .int (nt 5), .int (nt 6), .int (nt 7), .int (nt 8), .int (nt 9), .int (nt 10)])), (a0, .inr (0, [.int (fa 0), .int (fa 1), .int (fa 2)])), (b0, .inr (0, [.int (fb 0), .int (fb 1), .int (fb 2)]))] H := hP
  have hD : va_D A [(h0, .inr (3, [.int 0, .int (fa 0), .int (fb 0), .int (st 3), .int (st 4), .int (st 5), .int (st 6), .int (st 7)])), (n0, .inr (2, [.ref a0, .ref b0, .int (nt 2), .int (nt 3), .int (nt 4), .int (nt 5), .int (nt 6), .int (nt 7), .int (nt 8), .int (nt 9), .int (nt 10)])), (a0, .inr (0, [.int (fa 0), .int (fa 1), .int (fa 2)])), (b0, .inr (0, [.int (fb 0), .int (fb 1), .int (fb 2)]))] := hD
  refine lv_aload_n hx hb dX3_begin_27 rfl (lv_at hl 0 rfl) ?_
  refine lv_iconst (v := 0) hx hb dX3_begin_28 (by decide) ?_
  refine va_put (D := (dC, dI)) (ci := 3) (v := .int 0) (ty := .int) (C := RX3) (T := TX3) (N := 8) hx hb hts iX3 tyX3 tyX3_ok nmX3 hown hK hP hD hS 0 rfl rfl 3 (by decide) (hts (.fieldLink RX3 21 "Barrierbook$Standing" "missed" "I") (by decide +kernel)) (fun _ h9 => h9) rfl (by decide +kernel) rfl rfl (Nat.le_of_ble_eq_true rfl) dX3_begin_29 (fun H locs hP hD hS => ?_)
  have hP : va_P (dC, dI) vwCl [(h0, .inr (3, [.int 0, .int (fa 0), .int (fb 0), .int 0, .int (st 4), .int (st 5), .int (st 6), .int (st 7)])), (n0, .inr (2, [.ref a0, .ref b0, .int (nt 2), .int (nt 3), .int (nt 4), .int (nt 5), .int (nt 6), .int (nt 7), .int (nt 8), .int (nt 9), .int (nt 10)])), (a0, .inr (0, [.int (fa 0), .int (fa 1), .int (fa 2)])), (b0, .inr (0, [.int (fb 0), .int (fb 1), .int (fb 2)]))] H := hP
  have hD : va_D A [(h0, .inr (3, [.int 0, .int (fa 0), .int (fb 0), .int 0, .int (st 4), .int (st 5), .int (st 6), .int (st 7)])), (n0, .inr (2, [.ref a0, .ref b0, .int (nt 2), .int (nt 3), .int (nt 4), .int (nt 5), .int (nt 6), .int (nt 7), .int (nt 8), .int (nt 9), .int (nt 10)])), (a0, .inr (0, [.int (fa 0), .int (fa 1), .int (fa 2)])), (b0, .inr (0, [.int (fb 0), .int (fb 1), .int (fb 2)]))] := hD
  refine lv_aload_n hx hb dX3_begin_32 rfl (lv_at hl 0 rfl) ?_
  refine lv_iconst (v := 0) hx hb dX3_begin_33 (by decide) ?_
  refine va_put (D := (dC, dI)) (ci := 3) (v := .int 0) (ty := .boolean) (C := RX3) (T := TX3) (N := 8) hx hb hts iX3 tyX3 tyX3_ok nmX3 hown hK hP hD hS 0 rfl rfl 4 (by decide) (hts (.fieldLink RX3 24 "Barrierbook$Standing" "isKnocked" "Z") (by decide +kernel)) (fun _ h9 => h9) rfl (by decide +kernel) rfl rfl (Nat.le_of_ble_eq_true rfl) dX3_begin_34 (fun H locs hP hD hS => ?_)
  have hP : va_P (dC, dI) vwCl [(h0, .inr (3, [.int 0, .int (fa 0), .int (fb 0), .int 0, .int 0, .int (st 5), .int (st 6), .int (st 7)])), (n0, .inr (2, [.ref a0, .ref b0, .int (nt 2), .int (nt 3), .int (nt 4), .int (nt 5), .int (nt 6), .int (nt 7), .int (nt 8), .int (nt 9), .int (nt 10)])), (a0, .inr (0, [.int (fa 0), .int (fa 1), .int (fa 2)])), (b0, .inr (0, [.int (fb 0), .int (fb 1), .int (fb 2)]))] H := hP
  have hD : va_D A [(h0, .inr (3, [.int 0, .int (fa 0), .int (fb 0), .int 0, .int 0, .int (st 5), .int (st 6), .int (st 7)])), (n0, .inr (2, [.ref a0, .ref b0, .int (nt 2), .int (nt 3), .int (nt 4), .int (nt 5), .int (nt 6), .int (nt 7), .int (nt 8), .int (nt 9), .int (nt 10)])), (a0, .inr (0, [.int (fa 0), .int (fa 1), .int (fa 2)])), (b0, .inr (0, [.int (fb 0), .int (fb 1), .int (fb 2)]))] := hD
  refine lv_aload_n hx hb dX3_begin_37 rfl (lv_at hl 0 rfl) ?_
  refine lv_iconst (v := 0) hx hb dX3_begin_38 (by decide) ?_
  refine va_put (D := (dC, dI)) (ci := 3) (v := .int 0) (ty := .boolean) (C := RX3) (T := TX3) (N := 8) hx hb hts iX3 tyX3 tyX3_ok nmX3 hown hK hP hD hS 0 rfl rfl 5 (by decide) (hts (.fieldLink RX3 28 "Barrierbook$Standing" "isOver" "Z") (by decide +kernel)) (fun _ h9 => h9) rfl (by decide +kernel) rfl rfl (Nat.le_of_ble_eq_true rfl) dX3_begin_39 (fun H locs hP hD hS => ?_)
  have hP : va_P (dC, dI) vwCl [(h0, .inr (3, [.int 0, .int (fa 0), .int (fb 0), .int 0, .int 0, .int 0, .int (st 6), .int (st 7)])), (n0, .inr (2, [.ref a0, .ref b0, .int (nt 2), .int (nt 3), .int (nt 4), .int (nt 5), .int (nt 6), .int (nt 7), .int (nt 8), .int (nt 9), .int (nt 10)])), (a0, .inr (0, [.int (fa 0), .int (fa 1), .int (fa 2)])), (b0, .inr (0, [.int (fb 0), .int (fb 1), .int (fb 2)]))] H := hP
  have hD : va_D A [(h0, .inr (3, [.int 0, .int (fa 0), .int (fb 0), .int 0, .int 0, .int 0, .int (st 6), .int (st 7)])), (n0, .inr (2, [.ref a0, .ref b0, .int (nt 2), .int (nt 3), .int (nt 4), .int (nt 5), .int (nt 6), .int (nt 7), .int (nt 8), .int (nt 9), .int (nt 10)])), (a0, .inr (0, [.int (fa 0), .int (fa 1), .int (fa 2)])), (b0, .inr (0, [.int (fb 0), .int (fb 1), .int (fb 2)]))] := hD
  refine lv_aload_n hx hb dX3_begin_42 rfl (lv_at hl 0 rfl) ?_
  refine lv_iconst (v := 0) hx hb dX3_begin_43 (by decide) ?_
  refine va_put (D := (dC, dI)) (ci := 3) (v := .int 0) (ty := .int) (C := RX3) (T := TX3) (N := 8) hx hb hts iX3 tyX3 tyX3_ok nmX3 hown hK hP hD hS 0 rfl rfl 6 (by decide) (hts (.fieldLink RX3 31 "Barrierbook$Standing" "paidLast" "I") (by decide +kernel)) (fun _ h9 => h9) rfl (by decide +kernel) rfl rfl (Nat.le_of_ble_eq_true rfl) dX3_begin_44 (fun H locs hP hD hS => ?_)
  have hP : va_P (dC, dI) vwCl [(h0, .inr (3, [.int 0, .int (fa 0), .int (fb 0), .int 0, .int 0, .int 0, .int 0, .int (st 7)])), (n0, .inr (2, [.ref a0, .ref b0, .int (nt 2), .int (nt 3), .int (nt 4), .int (nt 5), .int (nt 6), .int (nt 7), .int (nt 8), .int (nt 9), .int (nt 10)])), (a0, .inr (0, [.int (fa 0), .int (fa 1), .int (fa 2)])), (b0, .inr (0, [.int (fb 0), .int (fb 1), .int (fb 2)]))] H := hP
  have hD : va_D A [(h0, .inr (3, [.int 0, .int (fa 0), .int (fb 0), .int 0, .int 0, .int 0, .int 0, .int (st 7)])), (n0, .inr (2, [.ref a0, .ref b0, .int (nt 2), .int (nt 3), .int (nt 4), .int (nt 5), .int (nt 6), .int (nt 7), .int (nt 8), .int (nt 9), .int (nt 10)])), (a0, .inr (0, [.int (fa 0), .int (fa 1), .int (fa 2)])), (b0, .inr (0, [.int (fb 0), .int (fb 1), .int (fb 2)]))] := hD
  refine lv_aload_n hx hb dX3_begin_47 rfl (lv_at hl 0 rfl) ?_
  refine lv_iconst (v := 0) hx hb dX3_begin_48 (by decide) ?_
  refine va_put (D := (dC, dI)) (ci := 3) (v := .int 0) (ty := .int) (C := RX3) (T := TX3) (N := 8) hx hb hts iX3 tyX3 tyX3_ok nmX3 hown hK hP hD hS 0 rfl rfl 7 (by decide) (hts (.fieldLink RX3 34 "Barrierbook$Standing" "paidInAll" "I") (by decide +kernel)) (fun _ h9 => h9) rfl (by decide +kernel) rfl rfl (Nat.le_of_ble_eq_true rfl) dX3_begin_49 (fun H locs hP hD hS => ?_)
  have hP : va_P (dC, dI) vwCl [(h0, .inr (3, [.int 0, .int (fa 0), .int (fb 0), .int 0, .int 0, .int 0, .int 0, .int 0])), (n0, .inr (2, [.ref a0, .ref b0, .int (nt 2), .int (nt 3), .int (nt 4), .int (nt 5), .int (nt 6), .int (nt 7), .int (nt 8), .int (nt 9), .int (nt 10)])), (a0, .inr (0, [.int (fa 0), .int (fa 1), .int (fa 2)])), (b0, .inr (0, [.int (fb 0), .int (fb 1), .int (fb 2)]))] H := hP
  have hD : va_D A [(h0, .inr (3, [.int 0, .int (fa 0), .int (fb 0), .int 0, .int 0, .int 0, .int 0, .int 0])), (n0, .inr (2, [.ref a0, .ref b0, .int (nt 2), .int (nt 3), .int (nt 4), .int (nt 5), .int (nt 6), .int (nt 7), .int (nt 8), .int (nt 9), .int (nt 10)])), (a0, .inr (0, [.int (fa 0), .int (fa 1), .int (fa 2)])), (b0, .inr (0, [.int (fb 0), .int (fb 1), .int (fb 2)]))] := hD
  exact xrv hf hr hlk (()) (trivial) (hP.sub [0, 1, 2, 3] rfl) (hD.sub [0, 1, 2, 3] rfl rfl) hK hS dX3_begin_52
set_option maxHeartbeats 4000000 in
set_option maxRecDepth 100000 in
theorem c_X3_copy (l : Launch) (dC : Nat → ClassId) (dI : Nat → Nat → Nat) (cI cZ cJ : ClassId) (sz : Nat) (h0 h1 : Nat) (st sx : Nat → Int32) (hk : sx 4 = 0 ∨ sx 4 = 1) (ho : sx 5 = 0 ∨ sx 5 = 1) : Met l yX3_copy wsX3_copy ({ frames := 0, cells := 0, slots := 0, locals := 0 }) (va_Pc [.ref h0, .ref h1] (xB (dC, dI) (xT cI cZ cJ) [(h0, .inr (3, [.int (st 0), .int (st 1), .int (st 2), .int (st 3), .int (st 4), .int (st 5), .int (st 6), .int (st 7)])), (h1, .inr (3, [.int (sx 0), .int (sx 1), .int (sx 2), .int (sx 3), .int (sx 4), .int (sx 5), .int (sx 6), .int (sx 7)]))] sz)) (va_Qv (fun (u : Unit) => True) (fun (u : Unit) t => xA (dC, dI) (xT cI cZ cJ) [(h0, .inr (3, [.int (sx 0), .int (sx 1), .int (sx 2), .int (sx 3), .int (sx 4), .int (sx 5), .int (sx 6), .int (sx 7)])), (h1, .inr (3, [.int (sx 0), .int (sx 1), .int (sx 2), .int (sx 3), .int (sx 4), .int (sx 5), .int (sx 6), .int (sx 7)]))] (va_A [(h0, .inr (3, [.int (st 0), .int (st 1), .int (st 2), .int (st 3), .int (st 4), .int (st 5), .int (st 6), .int (st 7)])), (h1, .inr (3, [.int (sx 0), .int (sx 1), .int (sx 2), .int (sx 3), .int (sx 4), .int (sx 5), .int (sx 6), .int (sx 7)]))] sz) t) (va_A [(h0, .inr (3, [.int (st 0), .int (st 1), .int (st 2), .int (st 3), .int (st 4), .int (st 5), .int (st 6), .int (st 7)])), (h1, .inr (3, [.int (sx 0), .int (sx 1), .int (sx 2), .int (sx 3), .int (sx 4), .int (sx 5), .int (sx 6), .int (sx 7)]))] sz)) 0 0 (va_A [(h0, .inr (3, [.int (st 0), .int (st 1), .int (st 2), .int (st 3), .int (st 4), .int (st 5), .int (st 6), .int (st 7)])), (h1, .inr (3, [.int (sx 0), .int (sx 1), .int (sx 2), .int (sx 3), .int (sx 4), .int (sx 5), .int (sx 6), .int (sx 7)]))] sz) := by
  refine xMet (QF := fun A => va_Qv (fun (u : Unit) => True) (fun (u : Unit) t => xA (dC, dI) (xT cI cZ cJ) [(h0, .inr (3, [.int (sx 0), .int (sx 1), .int (sx 2), .int (sx 3), .int (sx 4), .int (sx 5), .int (sx 6), .int (sx 7)])), (h1, .inr (3, [.int (sx 0), .int (sx 1), .int (sx 2), .int (sx 3), .int (sx 4), .int (sx 5), .int (sx 6), .int (sx 7)]))] A t) A) (maxL := 2) (ret := none) (cc := cX3_copy) (by decide) rfl (Nat.le_of_ble_eq_true rfl) ?_
  intro p e s m below meth c ls A hf hr hlk hnm hK hP hD hA hS hl
  obtain ⟨hx, hb, hml, hown, hts⟩ := id hf
  have iX3 : ∀ w ∈ wsX30, w ∈ wsX3_copy := by decide +kernel
  have hl : lv_has ls 2 [(0, .ref h0), (1, .ref h1)] := hl
  have hP : va_P (dC, dI) vwCl [(h0, .inr (3, [.int (st 0), .int (st 1), .int (st 2), .int (st 3), .int (st 4), .int (st 5), .int (st 6), .int (st 7)])), (h1, .inr (3, [.int (sx 0), .int (sx 1), .int (sx 2), .int (sx 3), .int (sx 4), .int (sx 5), .int (sx 6), .int (sx 7)]))] s.heap := hP
  refine lv_aload_n hx hb dX3_copy_0 rfl (lv_at hl 0 rfl) ?_
  refine lv_aload_n hx hb dX3_copy_1 rfl (lv_at hl 1 rfl) ?_
  refine va_get (D := (dC, dI)) (ci := 3) (v := .int (sx 0)) (C := RX3) (T := TX3) (N := 8) hx hb hts iX3 hown hK hP 1 rfl rfl 0 (by decide) (hts (.fieldLink RX3 9 "Barrierbook$Standing" "told" "I") (by decide +kernel)) (fun _ h9 => h9) rfl dX3_copy_2 ?_
  refine va_put (D := (dC, dI)) (ci := 3) (v := .int (sx 0)) (ty := .int) (C := RX3) (T := TX3) (N := 8) hx hb hts iX3 tyX3 tyX3_ok nmX3 hown hK hP hD hS 0 rfl rfl 0 (by decide) (hts (.fieldLink RX3 9 "Barrierbook$Standing" "told" "I") (by decide +kernel)) (fun _ h9 => h9) rfl (by decide +kernel) rfl rfl (Nat.le_of_ble_eq_true rfl) dX3_copy_5 (fun H locs hP hD hS => ?_)
  have hP : va_P (dC, dI) vwCl [(h0, .inr (3, [.int (sx 0), .int (st 1), .int (st 2), .int (st 3), .int (st 4), .int (st 5), .int (st 6), .int (st 7)])), (h1, .inr (3, [.int (sx 0), .int (sx 1), .int (sx 2), .int (sx 3), .int (sx 4), .int (sx 5), .int (sx 6), .int (sx 7)]))] H := hP
  have hD : va_D A [(h0, .inr (3, [.int (sx 0), .int (st 1), .int (st 2), .int (st 3), .int (st 4), .int (st 5), .int (st 6), .int (st 7)])), (h1, .inr (3, [.int (sx 0), .int (sx 1), .int (sx 2), .int (sx 3), .int (sx 4), .int (sx 5), .int (sx 6), .int (sx 7)]))] := hD
  refine lv_aload_n hx hb dX3_copy_8 rfl (lv_at hl 0 rfl) ?_
  refine lv_aload_n hx hb dX3_copy_9 rfl (lv_at hl 1 rfl) ?_
  refine va_get (D := (dC, dI)) (ci := 3) (v := .int (sx 1)) (C := RX3) (T := TX3) (N := 8) hx hb hts iX3 hown hK hP 1 rfl rfl 1 (by decide) (hts (.fieldLink RX3 15 "Barrierbook$Standing" "price0" "I") (by decide +kernel)) (fun _ h9 => h9) rfl dX3_copy_10 ?_
  refine va_put (D := (dC, dI)) (ci := 3) (v := .int (sx 1)) (ty := .int) (C := RX3) (T := TX3) (N := 8) hx hb hts iX3 tyX3 tyX3_ok nmX3 hown hK hP hD hS 0 rfl rfl 1 (by decide) (hts (.fieldLink RX3 15 "Barrierbook$Standing" "price0" "I") (by decide +kernel)) (fun _ h9 => h9) rfl (by decide +kernel) rfl rfl (Nat.le_of_ble_eq_true rfl) dX3_copy_13 (fun H locs hP hD hS => ?_)
  have hP : va_P (dC, dI) vwCl [(h0, .inr (3, [.int (sx 0), .int (sx 1), .int (st 2), .int (st 3), .int (st 4), .int (st 5), .int (st 6), .int (st 7)])), (h1, .inr (3, [.int (sx 0), .int (sx 1), .int (sx 2), .int (sx 3), .int (sx 4), .int (sx 5), .int (sx 6), .int (sx 7)]))] H := hP
  have hD : va_D A [(h0, .inr (3, [.int (sx 0), .int (sx 1), .int (st 2), .int (st 3), .int (st 4), .int (st 5), .int (st 6), .int (st 7)])), (h1, .inr (3, [.int (sx 0), .int (sx 1), .int (sx 2), .int (sx 3), .int (sx 4), .int (sx 5), .int (sx 6), .int (sx 7)]))] := hD
  refine lv_aload_n hx hb dX3_copy_16 rfl (lv_at hl 0 rfl) ?_
  refine lv_aload_n hx hb dX3_copy_17 rfl (lv_at hl 1 rfl) ?_
  refine va_get (D := (dC, dI)) (ci := 3) (v := .int (sx 2)) (C := RX3) (T := TX3) (N := 8) hx hb hts iX3 hown hK hP 1 rfl rfl 2 (by decide) (hts (.fieldLink RX3 18 "Barrierbook$Standing" "price1" "I") (by decide +kernel)) (fun _ h9 => h9) rfl dX3_copy_18 ?_
  refine va_put (D := (dC, dI)) (ci := 3) (v := .int (sx 2)) (ty := .int) (C := RX3) (T := TX3) (N := 8) hx hb hts iX3 tyX3 tyX3_ok nmX3 hown hK hP hD hS 0 rfl rfl 2 (by decide) (hts (.fieldLink RX3 18 "Barrierbook$Standing" "price1" "I") (by decide +kernel)) (fun _ h9 => h9) rfl (by decide +kernel) rfl rfl (Nat.le_of_ble_eq_true rfl) dX3_copy_21 (fun H locs hP hD hS => ?_)
  have hP : va_P (dC, dI) vwCl [(h0, .inr (3, [.int (sx 0), .int (sx 1), .int (sx 2), .int (st 3), .int (st 4), .int (st 5), .int (st 6), .int (st 7)])), (h1, .inr (3, [.int (sx 0), .int (sx 1), .int (sx 2), .int (sx 3), .int (sx 4), .int (sx 5), .int (sx 6), .int (sx 7)]))] H := hP
  have hD : va_D A [(h0, .inr (3, [.int (sx 0), .int (sx 1), .int (sx 2), .int (st 3), .int (st 4), .int (st 5), .int (st 6), .int (st 7)])), (h1, .inr (3, [.int (sx 0), .int (sx 1), .int (sx 2), .int (sx 3), .int (sx 4), .int (sx 5), .int (sx 6), .int (sx 7)]))] := hD
  refine lv_aload_n hx hb dX3_copy_24 rfl (lv_at hl 0 rfl) ?_
  refine lv_aload_n hx hb dX3_copy_25 rfl (lv_at hl 1 rfl) ?_
  refine va_get (D := (dC, dI)) (ci := 3) (v := .int (sx 3)) (C := RX3) (T := TX3) (N := 8) hx hb hts iX3 hown hK hP 1 rfl rfl 3 (by decide) (hts (.fieldLink RX3 21 "Barrierbook$Standing" "missed" "I") (by decide +kernel)) (fun _ h9 => h9) rfl dX3_copy_26 ?_
  refine va_put (D := (dC, dI)) (ci := 3) (v := .int (sx 3)) (ty := .int) (C := RX3) (T := TX3) (N := 8) hx hb hts iX3 tyX3 tyX3_ok nmX3 hown hK hP hD hS 0 rfl rfl 3 (by decide) (hts (.fieldLink RX3 21 "Barrierbook$Standing" "missed" "I") (by decide +kernel)) (fun _ h9 => h9) rfl (by decide +kernel) rfl rfl (Nat.le_of_ble_eq_true rfl) dX3_copy_29 (fun H locs hP hD hS => ?_)
  have hP : va_P (dC, dI) vwCl [(h0, .inr (3, [.int (sx 0), .int (sx 1), .int (sx 2), .int (sx 3), .int (st 4), .int (st 5), .int (st 6), .int (st 7)])), (h1, .inr (3, [.int (sx 0), .int (sx 1), .int (sx 2), .int (sx 3), .int (sx 4), .int (sx 5), .int (sx 6), .int (sx 7)]))] H := hP
  have hD : va_D A [(h0, .inr (3, [.int (sx 0), .int (sx 1), .int (sx 2), .int (sx 3), .int (st 4), .int (st 5), .int (st 6), .int (st 7)])), (h1, .inr (3, [.int (sx 0), .int (sx 1), .int (sx 2), .int (sx 3), .int (sx 4), .int (sx 5), .int (sx 6), .int (sx 7)]))] := hD
  refine lv_aload_n hx hb dX3_copy_32 rfl (lv_at hl 0 rfl) ?_
  refine lv_aload_n hx hb dX3_copy_33 rfl (lv_at hl 1 rfl) ?_
  refine va_get (D := (dC, dI)) (ci := 3) (v := .int (sx 4)) (C := RX3) (T := TX3) (N := 8) hx hb hts iX3 hown hK hP 1 rfl rfl 4 (by decide) (hts (.fieldLink RX3 24 "Barrierbook$Standing" "isKnocked" "Z") (by decide +kernel)) (fun _ h9 => h9) rfl dX3_copy_34 ?_
  refine va_put (D := (dC, dI)) (ci := 3) (v := .int (sx 4)) (ty := .boolean) (C := RX3) (T := TX3) (N := 8) hx hb hts iX3 tyX3 tyX3_ok nmX3 hown hK hP hD hS 0 rfl rfl 4 (by decide) (hts (.fieldLink RX3 24 "Barrierbook$Standing" "isKnocked" "Z") (by decide +kernel)) (fun _ h9 => h9) rfl (by decide +kernel) (xnz (by assumption)) (xfz (by assumption)) (Nat.le_of_ble_eq_true rfl) dX3_copy_37 (fun H locs hP hD hS => ?_)
  have hP : va_P (dC, dI) vwCl [(h0, .inr (3, [.int (sx 0), .int (sx 1), .int (sx 2), .int (sx 3), .int (sx 4), .int (st 5), .int (st 6), .int (st 7)])), (h1, .inr (3, [.int (sx 0), .int (sx 1), .int (sx 2), .int (sx 3), .int (sx 4), .int (sx 5), .int (sx 6), .int (sx 7)]))] H := hP
  have hD : va_D A [(h0, .inr (3, [.int (sx 0), .int (sx 1), .int (sx 2), .int (sx 3), .int (sx 4), .int (st 5), .int (st 6), .int (st 7)])), (h1, .inr (3, [.int (sx 0), .int (sx 1), .int (sx 2), .int (sx 3), .int (sx 4), .int (sx 5), .int (sx 6), .int (sx 7)]))] := hD
  refine lv_aload_n hx hb dX3_copy_40 rfl (lv_at hl 0 rfl) ?_
  refine lv_aload_n hx hb dX3_copy_41 rfl (lv_at hl 1 rfl) ?_
  refine va_get (D := (dC, dI)) (ci := 3) (v := .int (sx 5)) (C := RX3) (T := TX3) (N := 8) hx hb hts iX3 hown hK hP 1 rfl rfl 5 (by decide) (hts (.fieldLink RX3 28 "Barrierbook$Standing" "isOver" "Z") (by decide +kernel)) (fun _ h9 => h9) rfl dX3_copy_42 ?_
  refine va_put (D := (dC, dI)) (ci := 3) (v := .int (sx 5)) (ty := .boolean) (C := RX3) (T := TX3) (N := 8) hx hb hts iX3 tyX3 tyX3_ok nmX3 hown hK hP hD hS 0 rfl rfl 5 (by decide) (hts (.fieldLink RX3 28 "Barrierbook$Standing" "isOver" "Z") (by decide +kernel)) (fun _ h9 => h9) rfl (by decide +kernel) (xnz (by assumption)) (xfz (by assumption)) (Nat.le_of_ble_eq_true rfl) dX3_copy_45 (fun H locs hP hD hS => ?_)
  have hP : va_P (dC, dI) vwCl [(h0, .inr (3, [.int (sx 0), .int (sx 1), .int (sx 2), .int (sx 3), .int (sx 4), .int (sx 5), .int (st 6), .int (st 7)])), (h1, .inr (3, [.int (sx 0), .int (sx 1), .int (sx 2), .int (sx 3), .int (sx 4), .int (sx 5), .int (sx 6), .int (sx 7)]))] H := hP
  have hD : va_D A [(h0, .inr (3, [.int (sx 0), .int (sx 1), .int (sx 2), .int (sx 3), .int (sx 4), .int (sx 5), .int (st 6), .int (st 7)])), (h1, .inr (3, [.int (sx 0), .int (sx 1), .int (sx 2), .int (sx 3), .int (sx 4), .int (sx 5), .int (sx 6), .int (sx 7)]))] := hD
  refine lv_aload_n hx hb dX3_copy_48 rfl (lv_at hl 0 rfl) ?_
  refine lv_aload_n hx hb dX3_copy_49 rfl (lv_at hl 1 rfl) ?_
  refine va_get (D := (dC, dI)) (ci := 3) (v := .int (sx 6)) (C := RX3) (T := TX3) (N := 8) hx hb hts iX3 hown hK hP 1 rfl rfl 6 (by decide) (hts (.fieldLink RX3 31 "Barrierbook$Standing" "paidLast" "I") (by decide +kernel)) (fun _ h9 => h9) rfl dX3_copy_50 ?_
  refine va_put (D := (dC, dI)) (ci := 3) (v := .int (sx 6)) (ty := .int) (C := RX3) (T := TX3) (N := 8) hx hb hts iX3 tyX3 tyX3_ok nmX3 hown hK hP hD hS 0 rfl rfl 6 (by decide) (hts (.fieldLink RX3 31 "Barrierbook$Standing" "paidLast" "I") (by decide +kernel)) (fun _ h9 => h9) rfl (by decide +kernel) rfl rfl (Nat.le_of_ble_eq_true rfl) dX3_copy_53 (fun H locs hP hD hS => ?_)
  have hP : va_P (dC, dI) vwCl [(h0, .inr (3, [.int (sx 0), .int (sx 1), .int (sx 2), .int (sx 3), .int (sx 4), .int (sx 5), .int (sx 6), .int (st 7)])), (h1, .inr (3, [.int (sx 0), .int (sx 1), .int (sx 2), .int (sx 3), .int (sx 4), .int (sx 5), .int (sx 6), .int (sx 7)]))] H := hP
  have hD : va_D A [(h0, .inr (3, [.int (sx 0), .int (sx 1), .int (sx 2), .int (sx 3), .int (sx 4), .int (sx 5), .int (sx 6), .int (st 7)])), (h1, .inr (3, [.int (sx 0), .int (sx 1), .int (sx 2), .int (sx 3), .int (sx 4), .int (sx 5), .int (sx 6), .int (sx 7)]))] := hD
  refine lv_aload_n hx hb dX3_copy_56 rfl (lv_at hl 0 rfl) ?_
  refine lv_aload_n hx hb dX3_copy_57 rfl (lv_at hl 1 rfl) ?_
  refine va_get (D := (dC, dI)) (ci := 3) (v := .int (sx 7)) (C := RX3) (T := TX3) (N := 8) hx hb hts iX3 hown hK hP 1 rfl rfl 7 (by decide) (hts (.fieldLink RX3 34 "Barrierbook$Standing" "paidInAll" "I") (by decide +kernel)) (fun _ h9 => h9) rfl dX3_copy_58 ?_
  refine va_put (D := (dC, dI)) (ci := 3) (v := .int (sx 7)) (ty := .int) (C := RX3) (T := TX3) (N := 8) hx hb hts iX3 tyX3 tyX3_ok nmX3 hown hK hP hD hS 0 rfl rfl 7 (by decide) (hts (.fieldLink RX3 34 "Barrierbook$Standing" "paidInAll" "I") (by decide +kernel)) (fun _ h9 => h9) rfl (by decide +kernel) rfl rfl (Nat.le_of_ble_eq_true rfl) dX3_copy_61 (fun H locs hP hD hS => ?_)
  have hP : va_P (dC, dI) vwCl [(h0, .inr (3, [.int (sx 0), .int (sx 1), .int (sx 2), .int (sx 3), .int (sx 4), .int (sx 5), .int (sx 6), .int (sx 7)])), (h1, .inr (3, [.int (sx 0), .int (sx 1), .int (sx 2), .int (sx 3), .int (sx 4), .int (sx 5), .int (sx 6), .int (sx 7)]))] H := hP
  have hD : va_D A [(h0, .inr (3, [.int (sx 0), .int (sx 1), .int (sx 2), .int (sx 3), .int (sx 4), .int (sx 5), .int (sx 6), .int (sx 7)])), (h1, .inr (3, [.int (sx 0), .int (sx 1), .int (sx 2), .int (sx 3), .int (sx 4), .int (sx 5), .int (sx 6), .int (sx 7)]))] := hD
  exact xrv hf hr hlk (()) (trivial) (hP.sub [0, 1] rfl) (hD.sub [0, 1] rfl rfl) hK hS dX3_copy_64
set_option maxHeartbeats 4000000 in
set_option maxRecDepth 100000 in
/-- a move: the standing behind it -/
theorem c_X3_move (l : Launch) (dC : Nat → ClassId) (dI : Nat → Nat → Nat) (cI cZ cJ : ClassId) (sz : Nat) (h0 n0 a0 b0 : Nat) (st nt fa fb : Nat → Int32) (up : Int32) (hk : st 4 = 0 ∨ st 4 = 1) (ho : st 5 = 0 ∨ st 5 = 1) : Met l yX3_move wsX3_move ({ frames := 2, cells := 0, slots := 0, locals := 43 }) (va_Pc [.ref h0, .ref n0, .int up] (xB (dC, dI) (xT cI cZ cJ) [(h0, .inr (3, [.int (st 0), .int (st 1), .int (st 2), .int (st 3), .int (st 4), .int (st 5), .int (st 6), .int (st 7)])), (n0, .inr (2, [.ref a0, .ref b0, .int (nt 2), .int (nt 3), .int (nt 4), .int (nt 5), .int (nt 6), .int (nt 7), .int (nt 8), .int (nt 9), .int (nt 10)])), (a0, .inr (0, [.int (fa 0), .int (fa 1), .int (fa 2)])), (b0, .inr (0, [.int (fb 0), .int (fb 1), .int (fb 2)]))] sz)) (va_Qv (fun (u : Nat → Int32) => u = kMv nt fa fb st up) (fun (u : Nat → Int32) t => xA (dC, dI) (xT cI cZ cJ) [(h0, .inr (3, [.int (u 0), .int (u 1), .int (u 2), .int (u 3), .int (u 4), .int (u 5), .int (u 6), .int (u 7)])), (n0, .inr (2, [.ref a0, .ref b0, .int (nt 2), .int (nt 3), .int (nt 4), .int (nt 5), .int (nt 6), .int (nt 7), .int (nt 8), .int (nt 9), .int (nt 10)])), (a0, .inr (0, [.int (fa 0), .int (fa 1), .int (fa 2)])), (b0, .inr (0, [.int (fb 0), .int (fb 1), .int (fb 2)]))] (va_A [(h0, .inr (3, [.int (st 0), .int (st 1), .int (st 2), .int (st 3), .int (st 4), .int (st 5), .int (st 6), .int (st 7)])), (n0, .inr (2, [.ref a0, .ref b0, .int (nt 2), .int (nt 3), .int (nt 4), .int (nt 5), .int (nt 6), .int (nt 7), .int (nt 8), .int (nt 9), .int (nt 10)])), (a0, .inr (0, [.int (fa 0), .int (fa 1), .int (fa 2)])), (b0, .inr (0, [.int (fb 0), .int (fb 1), .int (fb 2)]))] sz) t) (va_A [(h0, .inr (3, [.int (st 0), .int (st 1), .int (st 2), .int (st 3), .int (st 4), .int (st 5), .int (st 6), .int (st 7)])), (n0, .inr (2, [.ref a0, .ref b0, .int (nt 2), .int (nt 3), .int (nt 4), .int (nt 5), .int (nt 6), .int (nt 7), .int (nt 8), .int (nt 9), .int (nt 10)])), (a0, .inr (0, [.int (fa 0), .int (fa 1), .int (fa 2)])), (b0, .inr (0, [.int (fb 0), .int (fb 1), .int (fb 2)]))] sz)) 0 0 (va_A [(h0, .inr (3, [.int (st 0), .int (st 1), .int (st 2), .int (st 3), .int (st 4), .int (st 5), .int (st 6), .int (st 7)])), (n0, .inr (2, [.ref a0, .ref b0, .int (nt 2), .int (nt 3), .int (nt 4), .int (nt 5), .int (nt 6), .int (nt 7), .int (nt 8), .int (nt 9), .int (nt 10)])), (a0, .inr (0, [.int (fa 0), .int (fa 1), .int (fa 2)])), (b0, .inr (0, [.int (fb 0), .int (fb 1), .int (fb 2)]))] sz) := by
  refine xMet (QF := fun A => va_Qv (fun (u : Nat → Int32) => u = kMv nt fa fb st up) (fun (u : Nat → Int32) t => xA (dC, dI) (xT cI cZ cJ) [(h0, .inr (3, [.int (u 0), .int (u 1), .int (u 2), .int (u 3), .int (u 4), .int (u 5), .int (u 6), .int (u 7)])), (n0, .inr (2, [.ref a0, .ref b0, .int (nt 2), .int (nt 3), .int (nt 4), .int (nt 5), .int (nt 6), .int (nt 7), .int (nt 8), .int (nt 9), .int (nt 10)])), (a0, .inr (0, [.int (fa 0), .int (fa 1), .int (fa 2)])), (b0, .inr (0, [.int (fb 0), .int (fb 1), .int (fb 2)]))] A t) A) (maxL := 5) (ret := none) (cc := cX3_move) (by decide) rfl (Nat.le_of_ble_eq_true rfl) ?_
  intro p e s m below meth c ls A hf hr hlk hnm hK hP hD hA hS hl
  obtain ⟨hx, hb, hml, hown, hts⟩ := id hf
  have iX2 : ∀ w ∈ wsX20, w ∈ wsX3_move := by decide +kernel
  have iX3 : ∀ w ∈ wsX30, w ∈ wsX3_move := by decide +kernel
  have hl : lv_has ls 5 [(0, .ref h0), (1, .ref n0), (2, .int up)] := hl
  have hP : va_P (dC, dI) vwCl [(h0, .inr (3, [.int (st 0), .int (st 1), .int (st 2), .int (st 3), .int (st 4), .int (st 5), .int (st 6), .int (st 7)])), (n0, .inr (2, [.ref a0, .ref b0, .int (nt 2), .int (nt 3), .int (nt 4), .int (nt 5), .int (nt 6), .int (nt 7), .int (nt 8), .int (nt 9), .int (nt 10)])), (a0, .inr (0, [.int (fa 0), .int (fa 1), .int (fa 2)])), (b0, .inr (0, [.int (fb 0), .int (fb 1), .int (fb 2)]))] s.heap := hP
  refine lv_aload_n hx hb dX3_move_0 rfl (lv_at hl 0 rfl) ?_
  refine lv_dup hx hb dX3_move_1 rfl ?_
  refine va_get (D := (dC, dI)) (ci := 3) (v := .int (st 0)) (C := RX3) (T := TX3) (N := 8) hx hb hts iX3 hown hK hP 0 rfl rfl 0 (by decide) (hts (.fieldLink RX3 9 "Barrierbook$Standing" "told" "I") (by decide +kernel)) (fun _ h9 => h9) rfl dX3_move_2 ?_
  refine lv_iconst (v := 1) hx hb dX3_move_5 (by decide) ?_
  refine lv_iadd hx hb dX3_move_6 ?_
  refine lv_topi (fun x_6 e_6 => ?_)
  refine va_put (D := (dC, dI)) (ci := 3) (v := .int x_6) (ty := .int) (C := RX3) (T := TX3) (N := 8) hx hb hts iX3 tyX3 tyX3_ok nmX3 hown hK hP hD hS 0 rfl rfl 0 (by decide) (hts (.fieldLink RX3 9 "Barrierbook$Standing" "told" "I") (by decide +kernel)) (fun _ h9 => h9) rfl (by decide +kernel) rfl rfl (Nat.le_of_ble_eq_true rfl) dX3_move_7 (fun H locs hP hD hS => ?_)
  have hP : va_P (dC, dI) vwCl [(h0, .inr (3, [.int x_6, .int (st 1), .int (st 2), .int (st 3), .int (st 4), .int (st 5), .int (st 6), .int (st 7)])), (n0, .inr (2, [.ref a0, .ref b0, .int (nt 2), .int (nt 3), .int (nt 4), .int (nt 5), .int (nt 6), .int (nt 7), .int (nt 8), .int (nt 9), .int (nt 10)])), (a0, .inr (0, [.int (fa 0), .int (fa 1), .int (fa 2)])), (b0, .inr (0, [.int (fb 0), .int (fb 1), .int (fb 2)]))] H := hP
  have hD : va_D A [(h0, .inr (3, [.int x_6, .int (st 1), .int (st 2), .int (st 3), .int (st 4), .int (st 5), .int (st 6), .int (st 7)])), (n0, .inr (2, [.ref a0, .ref b0, .int (nt 2), .int (nt 3), .int (nt 4), .int (nt 5), .int (nt 6), .int (nt 7), .int (nt 8), .int (nt 9), .int (nt 10)])), (a0, .inr (0, [.int (fa 0), .int (fa 1), .int (fa 2)])), (b0, .inr (0, [.int (fb 0), .int (fb 1), .int (fb 2)]))] := hD
  refine lv_aload_n hx hb dX3_move_10 rfl (lv_at hl 0 rfl) ?_
  refine lv_aload_n hx hb dX3_move_11 rfl (lv_at hl 1 rfl) ?_
  refine va_get (D := (dC, dI)) (ci := 2) (v := .ref a0) (C := RX2) (T := TX2) (N := 11) hx hb hts iX2 hown hK hP 1 rfl rfl 0 (by decide) (hts (.fieldLink RX3 37 "Barrierbook$Note" "asset0" "LBarrierbook$Asset;") (by decide +kernel)) (fun _ h9 => h9) rfl dX3_move_12 ?_
  refine lv_aload_n hx hb dX3_move_15 rfl (lv_at hl 0 rfl) ?_
  refine va_get (D := (dC, dI)) (ci := 3) (v := .int (st 1)) (C := RX3) (T := TX3) (N := 8) hx hb hts iX3 hown hK hP 0 rfl rfl 1 (by decide) (hts (.fieldLink RX3 15 "Barrierbook$Standing" "price0" "I") (by decide +kernel)) (fun _ h9 => h9) rfl dX3_move_16 ?_
  refine lv_iload_n hx hb dX3_move_19 rfl (lv_at hl 2 rfl) ?_
  refine xci (wr := [(h0, .inr (3, [.int x_6, .int (st 1), .int (st 2), .int (st 3), .int (st 4), .int (st 5), .int (st 6), .int (st 7)])), (n0, .inr (2, [.ref a0, .ref b0, .int (nt 2), .int (nt 3), .int (nt 4), .int (nt 5), .int (nt 6), .int (nt 7), .int (nt 8), .int (nt 9), .int (nt 10)])), (b0, .inr (0, [.int (fb 0), .int (fb 1), .int (fb 2)]))]) (va_runV (As := [.int (st 1), .int up]) (rest := [.ref h0]) hf (c_X0_priceBehind l dC dI cI cZ cJ H.size a0 fa (st 1) up) (cwV 2 hts gX3_move_X0_priceBehind rfl rfl rfl (by decide +kernel) ⟨Nat.le_of_ble_eq_true rfl, Nat.le_of_ble_eq_true rfl⟩) (xPV (qc := (RX0, TX0, 3)) hK hP hD [2] rfl rfl 0 rfl rfl) rfl rfl hl.1 rfl (lv_room (Nat.le_of_ble_eq_true rfl)) dX3_move_20 ⟨Nat.le_of_ble_eq_true rfl, Nat.le_of_ble_eq_true rfl⟩) hP hD hS hA [2] [0, 1, 3] rfl rfl rfl (by decide) (fun r_20 u_20 H locs w_20 hP hD hS => ?_)
  have hP : va_P (dC, dI) vwCl [(h0, .inr (3, [.int x_6, .int (st 1), .int (st 2), .int (st 3), .int (st 4), .int (st 5), .int (st 6), .int (st 7)])), (n0, .inr (2, [.ref a0, .ref b0, .int (nt 2), .int (nt 3), .int (nt 4), .int (nt 5), .int (nt 6), .int (nt 7), .int (nt 8), .int (nt 9), .int (nt 10)])), (b0, .inr (0, [.int (fb 0), .int (fb 1), .int (fb 2)])), (a0, .inr (0, [.int (fa 0), .int (fa 1), .int (fa 2)]))] H := hP
  have hD : va_D A [(h0, .inr (3, [.int x_6, .int (st 1), .int (st 2), .int (st 3), .int (st 4), .int (st 5), .int (st 6), .int (st 7)])), (n0, .inr (2, [.ref a0, .ref b0, .int (nt 2), .int (nt 3), .int (nt 4), .int (nt 5), .int (nt 6), .int (nt 7), .int (nt 8), .int (nt 9), .int (nt 10)])), (b0, .inr (0, [.int (fb 0), .int (fb 1), .int (fb 2)])), (a0, .inr (0, [.int (fa 0), .int (fa 1), .int (fa 2)]))] := hD
  refine va_put (D := (dC, dI)) (ci := 3) (v := .int r_20) (ty := .int) (C := RX3) (T := TX3) (N := 8) hx hb hts iX3 tyX3 tyX3_ok nmX3 hown hK hP hD hS 0 rfl rfl 1 (by decide) (hts (.fieldLink RX3 15 "Barrierbook$Standing" "price0" "I") (by decide +kernel)) (fun _ h9 => h9) rfl (by decide +kernel) rfl rfl (Nat.le_of_ble_eq_true rfl) dX3_move_23 (fun H locs hP hD hS => ?_)
  have hP : va_P (dC, dI) vwCl [(h0, .inr (3, [.int x_6, .int r_20, .int (st 2), .int (st 3), .int (st 4), .int (st 5), .int (st 6), .int (st 7)])), (n0, .inr (2, [.ref a0, .ref b0, .int (nt 2), .int (nt 3), .int (nt 4), .int (nt 5), .int (nt 6), .int (nt 7), .int (nt 8), .int (nt 9), .int (nt 10)])), (b0, .inr (0, [.int (fb 0), .int (fb 1), .int (fb 2)])), (a0, .inr (0, [.int (fa 0), .int (fa 1), .int (fa 2)]))] H := hP
  have hD : va_D A [(h0, .inr (3, [.int x_6, .int r_20, .int (st 2), .int (st 3), .int (st 4), .int (st 5), .int (st 6), .int (st 7)])), (n0, .inr (2, [.ref a0, .ref b0, .int (nt 2), .int (nt 3), .int (nt 4), .int (nt 5), .int (nt 6), .int (nt 7), .int (nt 8), .int (nt 9), .int (nt 10)])), (b0, .inr (0, [.int (fb 0), .int (fb 1), .int (fb 2)])), (a0, .inr (0, [.int (fa 0), .int (fa 1), .int (fa 2)]))] := hD
  refine lv_aload_n hx hb dX3_move_26 rfl (lv_at hl 0 rfl) ?_
  refine lv_aload_n hx hb dX3_move_27 rfl (lv_at hl 1 rfl) ?_
  refine va_get (D := (dC, dI)) (ci := 2) (v := .ref b0) (C := RX2) (T := TX2) (N := 11) hx hb hts iX2 hown hK hP 1 rfl rfl 1 (by decide) (hts (.fieldLink RX3 48 "Barrierbook$Note" "asset1" "LBarrierbook$Asset;") (by decide +kernel)) (fun _ h9 => h9) rfl dX3_move_28 ?_
  refine lv_aload_n hx hb dX3_move_31 rfl (lv_at hl 0 rfl) ?_
  refine va_get (D := (dC, dI)) (ci := 3) (v := .int (st 2)) (C := RX3) (T := TX3) (N := 8) hx hb hts iX3 hown hK hP 0 rfl rfl 2 (by decide) (hts (.fieldLink RX3 18 "Barrierbook$Standing" "price1" "I") (by decide +kernel)) (fun _ h9 => h9) rfl dX3_move_32 ?_
  refine lv_iload_n hx hb dX3_move_35 rfl (lv_at hl 2 rfl) ?_
  refine lv_aload_n hx hb dX3_move_36 rfl (lv_at hl 1 rfl) ?_
  refine va_get (D := (dC, dI)) (ci := 2) (v := .int (nt 2)) (C := RX2) (T := TX2) (N := 11) hx hb hts iX2 hown hK hP 1 rfl rfl 2 (by decide) (hts (.fieldLink RX3 65 "Barrierbook$Note" "isAgainst" "Z") (by decide +kernel)) (fun _ h9 => h9) rfl dX3_move_37 ?_
  refine xjoin (X := Int32) (D := (dC, dI)) (A := A) (H0 := s.heap) (nL := 5) (P := fun zz => zz = kXor up (nt 2)) (w1 := fun zz => [(h0, .inr (3, [.int x_6, .int r_20, .int (st 2), .int (st 3), .int (st 4), .int (st 5), .int (st 6), .int (st 7)])), (n0, .inr (2, [.ref a0, .ref b0, .int (nt 2), .int (nt 3), .int (nt 4), .int (nt 5), .int (nt 6), .int (nt 7), .int (nt 8), .int (nt 9), .int (nt 10)])), (b0, .inr (0, [.int (fb 0), .int (fb 1), .int (fb 2)])), (a0, .inr (0, [.int (fa 0), .int (fa 1), .int (fa 2)]))]) (lv1 := fun zz => [(0, .ref h0), (1, .ref n0), (2, .int up)]) (st1 := fun zz => [.int zz, .int (st 2), .ref b0, .ref h0]) (J := 48) (fun x H locs ls hcut hP hD hS hl => ?_) (fun j_48 => ?_)
  · have hcut : x = kXor up (nt 2) := hcut
    have hx_48 := hcut
    have hl : lv_has ls 5 [(0, .ref h0), (1, .ref n0), (2, .int up)] := hl
    have hP : va_P (dC, dI) vwCl [(h0, .inr (3, [.int x_6, .int r_20, .int (st 2), .int (st 3), .int (st 4), .int (st 5), .int (st 6), .int (st 7)])), (n0, .inr (2, [.ref a0, .ref b0, .int (nt 2), .int (nt 3), .int (nt 4), .int (nt 5), .int (nt 6), .int (nt 7), .int (nt 8), .int (nt 9), .int (nt 10)])), (b0, .inr (0, [.int (fb 0), .int (fb 1), .int (fb 2)])), (a0, .inr (0, [.int (fa 0), .int (fa 1), .int (fa 2)]))] H := hP
    have hD : va_D A [(h0, .inr (3, [.int x_6, .int r_20, .int (st 2), .int (st 3), .int (st 4), .int (st 5), .int (st 6), .int (st 7)])), (n0, .inr (2, [.ref a0, .ref b0, .int (nt 2), .int (nt 3), .int (nt 4), .int (nt 5), .int (nt 6), .int (nt 7), .int (nt 8), .int (nt 9), .int (nt 10)])), (b0, .inr (0, [.int (fb 0), .int (fb 1), .int (fb 2)])), (a0, .inr (0, [.int (fa 0), .int (fa 1), .int (fa 2)]))] := hD
    refine xci (wr := [(h0, .inr (3, [.int x_6, .int r_20, .int (st 2), .int (st 3), .int (st 4), .int (st 5), .int (st 6), .int (st 7)])), (n0, .inr (2, [.ref a0, .ref b0, .int (nt 2), .int (nt 3), .int (nt 4), .int (nt 5), .int (nt 6), .int (nt 7), .int (nt 8), .int (nt 9), .int (nt 10)])), (a0, .inr (0, [.int (fa 0), .int (fa 1), .int (fa 2)]))]) (va_runV (As := [.int (st 2), .int x]) (rest := [.ref h0]) hf (c_X0_priceBehind l dC dI cI cZ cJ H.size b0 fb (st 2) x) (cwV 2 hts gX3_move_X0_priceBehind rfl rfl rfl (by decide +kernel) ⟨Nat.le_of_ble_eq_true rfl, Nat.le_of_ble_eq_true rfl⟩) (xPV (qc := (RX0, TX0, 3)) hK hP hD [2] rfl rfl 0 rfl rfl) rfl rfl hl.1 rfl (lv_room (Nat.le_of_ble_eq_true rfl)) dX3_move_48 ⟨Nat.le_of_ble_eq_true rfl, Nat.le_of_ble_eq_true rfl⟩) hP hD hS hA [2] [0, 1, 3] rfl rfl rfl (by decide) (fun r_48 u_48 H locs w_48 hP hD hS => ?_)
    have hP : va_P (dC, dI) vwCl [(h0, .inr (3, [.int x_6, .int r_20, .int (st 2), .int (st 3), .int (st 4), .int (st 5), .int (st 6), .int (st 7)])), (n0, .inr (2, [.ref a0, .ref b0, .int (nt 2), .int (nt 3), .int (nt 4), .int (nt 5), .int (nt 6), .int (nt 7), .int (nt 8), .int (nt 9), .int (nt 10)])), (a0, .inr (0, [.int (fa 0), .int (fa 1), .int (fa 2)])), (b0, .inr (0, [.int (fb 0), .int (fb 1), .int (fb 2)]))] H := hP
    have hD : va_D A [(h0, .inr (3, [.int x_6, .int r_20, .int (st 2), .int (st 3), .int (st 4), .int (st 5), .int (st 6), .int (st 7)])), (n0, .inr (2, [.ref a0, .ref b0, .int (nt 2), .int (nt 3), .int (nt 4), .int (nt 5), .int (nt 6), .int (nt 7), .int (nt 8), .int (nt 9), .int (nt 10)])), (a0, .inr (0, [.int (fa 0), .int (fa 1), .int (fa 2)])), (b0, .inr (0, [.int (fb 0), .int (fb 1), .int (fb 2)]))] := hD
    refine va_put (D := (dC, dI)) (ci := 3) (v := .int r_48) (ty := .int) (C := RX3) (T := TX3) (N := 8) hx hb hts iX3 tyX3 tyX3_ok nmX3 hown hK hP hD hS 0 rfl rfl 2 (by decide) (hts (.fieldLink RX3 18 "Barrierbook$Standing" "price1" "I") (by decide +kernel)) (fun _ h9 => h9) rfl (by decide +kernel) rfl rfl (Nat.le_of_ble_eq_true rfl) dX3_move_51 (fun H locs hP hD hS => ?_)
    have hP : va_P (dC, dI) vwCl [(h0, .inr (3, [.int x_6, .int r_20, .int r_48, .int (st 3), .int (st 4), .int (st 5), .int (st 6), .int (st 7)])), (n0, .inr (2, [.ref a0, .ref b0, .int (nt 2), .int (nt 3), .int (nt 4), .int (nt 5), .int (nt 6), .int (nt 7), .int (nt 8), .int (nt 9), .int (nt 10)])), (a0, .inr (0, [.int (fa 0), .int (fa 1), .int (fa 2)])), (b0, .inr (0, [.int (fb 0), .int (fb 1), .int (fb 2)]))] H := hP
    have hD : va_D A [(h0, .inr (3, [.int x_6, .int r_20, .int r_48, .int (st 3), .int (st 4), .int (st 5), .int (st 6), .int (st 7)])), (n0, .inr (2, [.ref a0, .ref b0, .int (nt 2), .int (nt 3), .int (nt 4), .int (nt 5), .int (nt 6), .int (nt 7), .int (nt 8), .int (nt 9), .int (nt 10)])), (a0, .inr (0, [.int (fa 0), .int (fa 1), .int (fa 2)])), (b0, .inr (0, [.int (fb 0), .int (fb 1), .int (fb 2)]))] := hD
    refine lv_aload_n hx hb dX3_move_54 rfl (lv_at hl 0 rfl) ?_
    refine va_get (D := (dC, dI)) (ci := 3) (v := .int x_6) (C := RX3) (T := TX3) (N := 8) hx hb hts iX3 hown hK hP 0 rfl rfl 0 (by decide) (hts (.fieldLink RX3 9 "Barrierbook$Standing" "told" "I") (by decide +kernel)) (fun _ h9 => h9) rfl dX3_move_55 ?_
    refine lv_aload_n hx hb dX3_move_58 rfl (lv_at hl 1 rfl) ?_
    refine va_get (D := (dC, dI)) (ci := 2) (v := .int (nt 4)) (C := RX2) (T := TX2) (N := 11) hx hb hts iX2 hown hK hP 1 rfl rfl 4 (by decide) (hts (.fieldLink RX3 68 "Barrierbook$Note" "periods" "I") (by decide +kernel)) (fun _ h9 => h9) rfl dX3_move_59 ?_
    refine xjoin (X := Int32) (D := (dC, dI)) (A := A) (H0 := s.heap) (nL := 5) (P := fun zz => zz = kLast nt (st 0 + 1)) (w1 := fun zz => [(h0, .inr (3, [.int x_6, .int r_20, .int r_48, .int (st 3), .int (st 4), .int (st 5), .int (st 6), .int (st 7)])), (n0, .inr (2, [.ref a0, .ref b0, .int (nt 2), .int (nt 3), .int (nt 4), .int (nt 5), .int (nt 6), .int (nt 7), .int (nt 8), .int (nt 9), .int (nt 10)])), (a0, .inr (0, [.int (fa 0), .int (fa 1), .int (fa 2)])), (b0, .inr (0, [.int (fb 0), .int (fb 1), .int (fb 2)]))]) (lv1 := fun zz => [(0, .ref h0), (1, .ref n0), (2, .int up)]) (st1 := fun zz => [.int zz]) (J := 70) (fun x H locs ls hcut hP hD hS hl => ?_) (fun j_70 => ?_)
    · have hcut : x = kLast nt (st 0 + 1) := hcut
      have hx_70 := hcut
      have hl : lv_has ls 5 [(0, .ref h0), (1, .ref n0), (2, .int up)] := hl
      have hP : va_P (dC, dI) vwCl [(h0, .inr (3, [.int x_6, .int r_20, .int r_48, .int (st 3), .int (st 4), .int (st 5), .int (st 6), .int (st 7)])), (n0, .inr (2, [.ref a0, .ref b0, .int (nt 2), .int (nt 3), .int (nt 4), .int (nt 5), .int (nt 6), .int (nt 7), .int (nt 8), .int (nt 9), .int (nt 10)])), (a0, .inr (0, [.int (fa 0), .int (fa 1), .int (fa 2)])), (b0, .inr (0, [.int (fb 0), .int (fb 1), .int (fb 2)]))] H := hP
      have hD : va_D A [(h0, .inr (3, [.int x_6, .int r_20, .int r_48, .int (st 3), .int (st 4), .int (st 5), .int (st 6), .int (st 7)])), (n0, .inr (2, [.ref a0, .ref b0, .int (nt 2), .int (nt 3), .int (nt 4), .int (nt 5), .int (nt 6), .int (nt 7), .int (nt 8), .int (nt 9), .int (nt 10)])), (a0, .inr (0, [.int (fa 0), .int (fa 1), .int (fa 2)])), (b0, .inr (0, [.int (fb 0), .int (fb 1), .int (fb 2)]))] := hD
      refine lv_istore_n (lv' := [(3, .int x), (0, .ref h0), (1, .ref n0), (2, .int up)]) hx hb dX3_move_70 rfl hl (by decide) rfl (fun ls hl => ?_)
      refine lv_aload_n hx hb dX3_move_71 rfl (lv_at hl 1 rfl) ?_
      refine lv_aload_n hx hb dX3_move_72 rfl (lv_at hl 2 rfl) ?_
      refine xci (wr := []) (va_runV (As := [.ref n0]) (rest := []) hf (c_X3_worstLevel l dC dI cI cZ cJ H.size h0 n0 a0 b0 (x8f x_6 r_20 r_48 (st 3) (st 4) (st 5) (st 6) (st 7)) nt fa fb) (cwV 1 hts gX3_move_X3_worstLevel rfl rfl rfl (by decide +kernel) ⟨Nat.le_of_ble_eq_true rfl, Nat.le_of_ble_eq_true rfl⟩) (xPV (qc := (RX3, TX3, 8)) hK hP hD [0, 1, 2, 3] rfl rfl 0 rfl rfl) rfl rfl hl.1 rfl (lv_room (Nat.le_of_ble_eq_true rfl)) dX3_move_73 ⟨Nat.le_of_ble_eq_true rfl, Nat.le_of_ble_eq_true rfl⟩) hP hD hS hA [0, 1, 2, 3] [] rfl rfl rfl (by decide) (fun r_73 u_73 H locs w_73 hP hD hS => ?_)
      have hP : va_P (dC, dI) vwCl [(h0, .inr (3, [.int x_6, .int r_20, .int r_48, .int (st 3), .int (st 4), .int (st 5), .int (st 6), .int (st 7)])), (n0, .inr (2, [.ref a0, .ref b0, .int (nt 2), .int (nt 3), .int (nt 4), .int (nt 5), .int (nt 6), .int (nt 7), .int (nt 8), .int (nt 9), .int (nt 10)])), (a0, .inr (0, [.int (fa 0), .int (fa 1), .int (fa 2)])), (b0, .inr (0, [.int (fb 0), .int (fb 1), .int (fb 2)]))] H := hP
      have hD : va_D A [(h0, .inr (3, [.int x_6, .int r_20, .int r_48, .int (st 3), .int (st 4), .int (st 5), .int (st 6), .int (st 7)])), (n0, .inr (2, [.ref a0, .ref b0, .int (nt 2), .int (nt 3), .int (nt 4), .int (nt 5), .int (nt 6), .int (nt 7), .int (nt 8), .int (nt 9), .int (nt 10)])), (a0, .inr (0, [.int (fa 0), .int (fa 1), .int (fa 2)])), (b0, .inr (0, [.int (fb 0), .int (fb 1), .int (fb 2)]))] := hD
      refine lv_istore (lv' := [(4, .int r_73), (3, .int x), (0, .ref h0), (1, .ref n0), (2, .int up)]) hx hb dX3_move_76 hl (by decide) rfl (fun ls hl => ?_)
      refine lv_iload hx hb dX3_move_78 (lv_at hl 0 rfl) ?_
      refine lv_aload_n hx hb dX3_move_80 rfl (lv_at hl 3 rfl) ?_
      refine va_get (D := (dC, dI)) (ci := 2) (v := .int (nt 5)) (C := RX2) (T := TX2) (N := 11) hx hb hts iX2 hown hK hP 1 rfl rfl 5 (by decide) (hts (.fieldLink RX3 75 "Barrierbook$Note" "barrier" "I") (by decide +kernel)) (fun _ h9 => h9) rfl dX3_move_81 ?_
      refine xjoin (X := Int32) (D := (dC, dI)) (A := A) (H0 := s.heap) (nL := 5) (P := fun zz => zz = kKn nt r_73 x (st 4)) (w1 := fun zz => [(h0, .inr (3, [.int x_6, .int r_20, .int r_48, .int (st 3), .int zz, .int (st 5), .int (st 6), .int (st 7)])), (n0, .inr (2, [.ref a0, .ref b0, .int (nt 2), .int (nt 3), .int (nt 4), .int (nt 5), .int (nt 6), .int (nt 7), .int (nt 8), .int (nt 9), .int (nt 10)])), (a0, .inr (0, [.int (fa 0), .int (fa 1), .int (fa 2)])), (b0, .inr (0, [.int (fb 0), .int (fb 1), .int (fb 2)]))]) (lv1 := fun zz => [(4, .int r_73), (3, .int x), (0, .ref h0), (1, .ref n0), (2, .int up)]) (st1 := fun zz => []) (J := 103) (fun kn H locs ls hcut hP hD hS hl => ?_) (fun j_103 => ?_)
      · have hcut : kn = kKn nt r_73 x (st 4) := hcut
        have hx_103 := hcut
        have hl : lv_has ls 5 [(4, .int r_73), (3, .int x), (0, .ref h0), (1, .ref n0), (2, .int up)] := hl
        have hP : va_P (dC, dI) vwCl [(h0, .inr (3, [.int x_6, .int r_20, .int r_48, .int (st 3), .int kn, .int (st 5), .int (st 6), .int (st 7)])), (n0, .inr (2, [.ref a0, .ref b0, .int (nt 2), .int (nt 3), .int (nt 4), .int (nt 5), .int (nt 6), .int (nt 7), .int (nt 8), .int (nt 9), .int (nt 10)])), (a0, .inr (0, [.int (fa 0), .int (fa 1), .int (fa 2)])), (b0, .inr (0, [.int (fb 0), .int (fb 1), .int (fb 2)]))] H := hP
        have hD : va_D A [(h0, .inr (3, [.int x_6, .int r_20, .int r_48, .int (st 3), .int kn, .int (st 5), .int (st 6), .int (st 7)])), (n0, .inr (2, [.ref a0, .ref b0, .int (nt 2), .int (nt 3), .int (nt 4), .int (nt 5), .int (nt 6), .int (nt 7), .int (nt 8), .int (nt 9), .int (nt 10)])), (a0, .inr (0, [.int (fa 0), .int (fa 1), .int (fa 2)])), (b0, .inr (0, [.int (fb 0), .int (fb 1), .int (fb 2)]))] := hD
        refine lv_aload_n hx hb dX3_move_103 rfl (lv_at hl 2 rfl) ?_
        refine lv_aload_n hx hb dX3_move_104 rfl (lv_at hl 2 rfl) ?_
        refine lv_aload_n hx hb dX3_move_105 rfl (lv_at hl 3 rfl) ?_
        refine lv_iload hx hb dX3_move_106 (lv_at hl 0 rfl) ?_
        refine xci (wr := [(a0, .inr (0, [.int (fa 0), .int (fa 1), .int (fa 2)])), (b0, .inr (0, [.int (fb 0), .int (fb 1), .int (fb 2)]))]) (va_runV (As := [.ref n0, .int r_73]) (rest := [.ref h0]) hf (c_X3_takeCoupons l dC dI cI cZ cJ H.size h0 n0 a0 b0 (x8f x_6 r_20 r_48 (st 3) kn (st 5) (st 6) (st 7)) nt r_73) (cwV 2 hts gX3_move_X3_takeCoupons rfl rfl rfl (by decide +kernel) ⟨Nat.le_of_ble_eq_true rfl, Nat.le_of_ble_eq_true rfl⟩) (xPV (qc := (RX3, TX3, 8)) hK hP hD [0, 1] rfl rfl 0 rfl rfl) rfl rfl hl.1 rfl (lv_room (Nat.le_of_ble_eq_true rfl)) dX3_move_108 ⟨Nat.le_of_ble_eq_true rfl, Nat.le_of_ble_eq_true rfl⟩) hP hD hS hA [0, 1] [2, 3] rfl rfl rfl (by decide) (fun r_108 u_108 H locs w_108 hP hD hS => ?_)
        have hP : va_P (dC, dI) vwCl [(a0, .inr (0, [.int (fa 0), .int (fa 1), .int (fa 2)])), (b0, .inr (0, [.int (fb 0), .int (fb 1), .int (fb 2)])), (h0, .inr (3, [.int (u_108 0), .int (u_108 1), .int (u_108 2), .int (u_108 3), .int (u_108 4), .int (u_108 5), .int (u_108 6), .int (u_108 7)])), (n0, .inr (2, [.ref a0, .ref b0, .int (nt 2), .int (nt 3), .int (nt 4), .int (nt 5), .int (nt 6), .int (nt 7), .int (nt 8), .int (nt 9), .int (nt 10)]))] H := hP
        have hD : va_D A [(a0, .inr (0, [.int (fa 0), .int (fa 1), .int (fa 2)])), (b0, .inr (0, [.int (fb 0), .int (fb 1), .int (fb 2)])), (h0, .inr (3, [.int (u_108 0), .int (u_108 1), .int (u_108 2), .int (u_108 3), .int (u_108 4), .int (u_108 5), .int (u_108 6), .int (u_108 7)])), (n0, .inr (2, [.ref a0, .ref b0, .int (nt 2), .int (nt 3), .int (nt 4), .int (nt 5), .int (nt 6), .int (nt 7), .int (nt 8), .int (nt 9), .int (nt 10)]))] := hD
        refine va_put (D := (dC, dI)) (ci := 3) (v := .int r_108) (ty := .int) (C := RX3) (T := TX3) (N := 8) hx hb hts iX3 tyX3 tyX3_ok nmX3 hown hK hP hD hS 2 rfl rfl 6 (by decide) (hts (.fieldLink RX3 31 "Barrierbook$Standing" "paidLast" "I") (by decide +kernel)) (fun _ h9 => h9) rfl (by decide +kernel) rfl rfl (Nat.le_of_ble_eq_true rfl) dX3_move_111 (fun H locs hP hD hS => ?_)
        have hP : va_P (dC, dI) vwCl [(a0, .inr (0, [.int (fa 0), .int (fa 1), .int (fa 2)])), (b0, .inr (0, [.int (fb 0), .int (fb 1), .int (fb 2)])), (h0, .inr (3, [.int (u_108 0), .int (u_108 1), .int (u_108 2), .int (u_108 3), .int (u_108 4), .int (u_108 5), .int r_108, .int (u_108 7)])), (n0, .inr (2, [.ref a0, .ref b0, .int (nt 2), .int (nt 3), .int (nt 4), .int (nt 5), .int (nt 6), .int (nt 7), .int (nt 8), .int (nt 9), .int (nt 10)]))] H := hP
        have hD : va_D A [(a0, .inr (0, [.int (fa 0), .int (fa 1), .int (fa 2)])), (b0, .inr (0, [.int (fb 0), .int (fb 1), .int (fb 2)])), (h0, .inr (3, [.int (u_108 0), .int (u_108 1), .int (u_108 2), .int (u_108 3), .int (u_108 4), .int (u_108 5), .int r_108, .int (u_108 7)])), (n0, .inr (2, [.ref a0, .ref b0, .int (nt 2), .int (nt 3), .int (nt 4), .int (nt 5), .int (nt 6), .int (nt 7), .int (nt 8), .int (nt 9), .int (nt 10)]))] := hD
        refine lv_iload_n hx hb dX3_move_114 rfl (lv_at hl 1 rfl) ?_
        refine xjoin (X := Int32 × Int32) (D := (dC, dI)) (A := A) (H0 := s.heap) (nL := 5) (P := fun zz => zz.1 = kOv nt r_73 x (st 5) ∧ zz.2 = kPl nt r_73 x kn r_108) (w1 := fun zz => [(a0, .inr (0, [.int (fa 0), .int (fa 1), .int (fa 2)])), (b0, .inr (0, [.int (fb 0), .int (fb 1), .int (fb 2)])), (h0, .inr (3, [.int (u_108 0), .int (u_108 1), .int (u_108 2), .int (u_108 3), .int (u_108 4), .int zz.1, .int zz.2, .int (u_108 7)])), (n0, .inr (2, [.ref a0, .ref b0, .int (nt 2), .int (nt 3), .int (nt 4), .int (nt 5), .int (nt 6), .int (nt 7), .int (nt 8), .int (nt 9), .int (nt 10)]))]) (lv1 := fun zz => [(4, .int r_73), (3, .int x), (0, .ref h0), (1, .ref n0), (2, .int up)]) (st1 := fun zz => []) (J := 148) (fun zz H locs ls hcut hP hD hS hl => ?_) (fun j_148 => ?_)
        · obtain ⟨ov, pl⟩ := zz
          have hcut : ov = kOv nt r_73 x (st 5) ∧ pl = kPl nt r_73 x kn r_108 := hcut
          obtain ⟨hx_148, hy_148⟩ := hcut
          have hl : lv_has ls 5 [(4, .int r_73), (3, .int x), (0, .ref h0), (1, .ref n0), (2, .int up)] := hl
          have hP : va_P (dC, dI) vwCl [(a0, .inr (0, [.int (fa 0), .int (fa 1), .int (fa 2)])), (b0, .inr (0, [.int (fb 0), .int (fb 1), .int (fb 2)])), (h0, .inr (3, [.int (u_108 0), .int (u_108 1), .int (u_108 2), .int (u_108 3), .int (u_108 4), .int ov, .int pl, .int (u_108 7)])), (n0, .inr (2, [.ref a0, .ref b0, .int (nt 2), .int (nt 3), .int (nt 4), .int (nt 5), .int (nt 6), .int (nt 7), .int (nt 8), .int (nt 9), .int (nt 10)]))] H := hP
          have hD : va_D A [(a0, .inr (0, [.int (fa 0), .int (fa 1), .int (fa 2)])), (b0, .inr (0, [.int (fb 0), .int (fb 1), .int (fb 2)])), (h0, .inr (3, [.int (u_108 0), .int (u_108 1), .int (u_108 2), .int (u_108 3), .int (u_108 4), .int ov, .int pl, .int (u_108 7)])), (n0, .inr (2, [.ref a0, .ref b0, .int (nt 2), .int (nt 3), .int (nt 4), .int (nt 5), .int (nt 6), .int (nt 7), .int (nt 8), .int (nt 9), .int (nt 10)]))] := hD
          refine lv_aload_n hx hb dX3_move_148 rfl (lv_at hl 2 rfl) ?_
          refine lv_dup hx hb dX3_move_149 rfl ?_
          refine va_get (D := (dC, dI)) (ci := 3) (v := .int (u_108 7)) (C := RX3) (T := TX3) (N := 8) hx hb hts iX3 hown hK hP 2 rfl rfl 7 (by decide) (hts (.fieldLink RX3 34 "Barrierbook$Standing" "paidInAll" "I") (by decide +kernel)) (fun _ h9 => h9) rfl dX3_move_150 ?_
          refine lv_aload_n hx hb dX3_move_153 rfl (lv_at hl 2 rfl) ?_
          refine va_get (D := (dC, dI)) (ci := 3) (v := .int pl) (C := RX3) (T := TX3) (N := 8) hx hb hts iX3 hown hK hP 2 rfl rfl 6 (by decide) (hts (.fieldLink RX3 31 "Barrierbook$Standing" "paidLast" "I") (by decide +kernel)) (fun _ h9 => h9) rfl dX3_move_154 ?_
          refine lv_iadd hx hb dX3_move_157 ?_
          refine lv_topi (fun x_157 e_157 => ?_)
          refine va_put (D := (dC, dI)) (ci := 3) (v := .int x_157) (ty := .int) (C := RX3) (T := TX3) (N := 8) hx hb hts iX3 tyX3 tyX3_ok nmX3 hown hK hP hD hS 2 rfl rfl 7 (by decide) (hts (.fieldLink RX3 34 "Barrierbook$Standing" "paidInAll" "I") (by decide +kernel)) (fun _ h9 => h9) rfl (by decide +kernel) rfl rfl (Nat.le_of_ble_eq_true rfl) dX3_move_158 (fun H locs hP hD hS => ?_)
          have hP : va_P (dC, dI) vwCl [(a0, .inr (0, [.int (fa 0), .int (fa 1), .int (fa 2)])), (b0, .inr (0, [.int (fb 0), .int (fb 1), .int (fb 2)])), (h0, .inr (3, [.int (u_108 0), .int (u_108 1), .int (u_108 2), .int (u_108 3), .int (u_108 4), .int ov, .int pl, .int x_157])), (n0, .inr (2, [.ref a0, .ref b0, .int (nt 2), .int (nt 3), .int (nt 4), .int (nt 5), .int (nt 6), .int (nt 7), .int (nt 8), .int (nt 9), .int (nt 10)]))] H := hP
          have hD : va_D A [(a0, .inr (0, [.int (fa 0), .int (fa 1), .int (fa 2)])), (b0, .inr (0, [.int (fb 0), .int (fb 1), .int (fb 2)])), (h0, .inr (3, [.int (u_108 0), .int (u_108 1), .int (u_108 2), .int (u_108 3), .int (u_108 4), .int ov, .int pl, .int x_157])), (n0, .inr (2, [.ref a0, .ref b0, .int (nt 2), .int (nt 3), .int (nt 4), .int (nt 5), .int (nt 6), .int (nt 7), .int (nt 8), .int (nt 9), .int (nt 10)]))] := hD
          exact xrv hf hr hlk (x8f (u_108 0) (u_108 1) (u_108 2) (u_108 3) (u_108 4) ov pl x_157) (by subst e_6 e_157; simp [kMv, x8f, w_20, hx_48, w_48, hx_70, w_73, hx_103, w_108, hx_148, hy_148]) (hP.sub [2, 3, 0, 1] rfl) (hD.sub [2, 3, 0, 1] rfl rfl) hK hS dX3_move_161
        refine lv_if_ne (tgt := 127) hx hb dX3_move_115 (by decide) (fun c_115 => ?_) (fun c_115 => ?_)
        · refine lv_aload_n hx hb dX3_move_127 rfl (lv_at hl 2 rfl) ?_
          refine lv_iconst (v := 1) hx hb dX3_move_128 (by decide) ?_
          refine va_put (D := (dC, dI)) (ci := 3) (v := .int 1) (ty := .boolean) (C := RX3) (T := TX3) (N := 8) hx hb hts iX3 tyX3 tyX3_ok nmX3 hown hK hP hD hS 2 rfl rfl 5 (by decide) (hts (.fieldLink RX3 28 "Barrierbook$Standing" "isOver" "Z") (by decide +kernel)) (fun _ h9 => h9) rfl (by decide +kernel) rfl rfl (Nat.le_of_ble_eq_true rfl) dX3_move_129 (fun H locs hP hD hS => ?_)
          have hP : va_P (dC, dI) vwCl [(a0, .inr (0, [.int (fa 0), .int (fa 1), .int (fa 2)])), (b0, .inr (0, [.int (fb 0), .int (fb 1), .int (fb 2)])), (h0, .inr (3, [.int (u_108 0), .int (u_108 1), .int (u_108 2), .int (u_108 3), .int (u_108 4), .int 1, .int r_108, .int (u_108 7)])), (n0, .inr (2, [.ref a0, .ref b0, .int (nt 2), .int (nt 3), .int (nt 4), .int (nt 5), .int (nt 6), .int (nt 7), .int (nt 8), .int (nt 9), .int (nt 10)]))] H := hP
          have hD : va_D A [(a0, .inr (0, [.int (fa 0), .int (fa 1), .int (fa 2)])), (b0, .inr (0, [.int (fb 0), .int (fb 1), .int (fb 2)])), (h0, .inr (3, [.int (u_108 0), .int (u_108 1), .int (u_108 2), .int (u_108 3), .int (u_108 4), .int 1, .int r_108, .int (u_108 7)])), (n0, .inr (2, [.ref a0, .ref b0, .int (nt 2), .int (nt 3), .int (nt 4), .int (nt 5), .int (nt 6), .int (nt 7), .int (nt 8), .int (nt 9), .int (nt 10)]))] := hD
          refine lv_aload_n hx hb dX3_move_132 rfl (lv_at hl 2 rfl) ?_
          refine lv_dup hx hb dX3_move_133 rfl ?_
          refine va_get (D := (dC, dI)) (ci := 3) (v := .int r_108) (C := RX3) (T := TX3) (N := 8) hx hb hts iX3 hown hK hP 2 rfl rfl 6 (by decide) (hts (.fieldLink RX3 31 "Barrierbook$Standing" "paidLast" "I") (by decide +kernel)) (fun _ h9 => h9) rfl dX3_move_134 ?_
          refine lv_aload_n hx hb dX3_move_137 rfl (lv_at hl 2 rfl) ?_
          refine lv_iload hx hb dX3_move_138 (lv_at hl 0 rfl) ?_
          refine lv_iload_n hx hb dX3_move_140 rfl (lv_at hl 1 rfl) ?_
          refine xci (wr := [(a0, .inr (0, [.int (fa 0), .int (fa 1), .int (fa 2)])), (b0, .inr (0, [.int (fb 0), .int (fb 1), .int (fb 2)])), (n0, .inr (2, [.ref a0, .ref b0, .int (nt 2), .int (nt 3), .int (nt 4), .int (nt 5), .int (nt 6), .int (nt 7), .int (nt 8), .int (nt 9), .int (nt 10)]))]) (va_runV (As := [.int r_73, .int x]) (rest := [.int r_108, .ref h0]) hf (c_X3_endPay l dC dI cI cZ cJ H.size h0 (x8f (u_108 0) (u_108 1) (u_108 2) (u_108 3) (u_108 4) 1 r_108 (u_108 7)) r_73 x) (cwV 2 hts gX3_move_X3_endPay rfl rfl rfl (by decide +kernel) ⟨Nat.le_of_ble_eq_true rfl, Nat.le_of_ble_eq_true rfl⟩) (xPV (qc := (RX3, TX3, 8)) hK hP hD [2] rfl rfl 0 rfl rfl) rfl rfl hl.1 rfl (lv_room (Nat.le_of_ble_eq_true rfl)) dX3_move_141 ⟨Nat.le_of_ble_eq_true rfl, Nat.le_of_ble_eq_true rfl⟩) hP hD hS hA [2] [0, 1, 3] rfl rfl rfl (by decide) (fun r_141 u_141 H locs w_141 hP hD hS => ?_)
          have hP : va_P (dC, dI) vwCl [(a0, .inr (0, [.int (fa 0), .int (fa 1), .int (fa 2)])), (b0, .inr (0, [.int (fb 0), .int (fb 1), .int (fb 2)])), (n0, .inr (2, [.ref a0, .ref b0, .int (nt 2), .int (nt 3), .int (nt 4), .int (nt 5), .int (nt 6), .int (nt 7), .int (nt 8), .int (nt 9), .int (nt 10)])), (h0, .inr (3, [.int (u_108 0), .int (u_108 1), .int (u_108 2), .int (u_108 3), .int (u_108 4), .int 1, .int r_108, .int (u_108 7)]))] H := hP
          have hD : va_D A [(a0, .inr (0, [.int (fa 0), .int (fa 1), .int (fa 2)])), (b0, .inr (0, [.int (fb 0), .int (fb 1), .int (fb 2)])), (n0, .inr (2, [.ref a0, .ref b0, .int (nt 2), .int (nt 3), .int (nt 4), .int (nt 5), .int (nt 6), .int (nt 7), .int (nt 8), .int (nt 9), .int (nt 10)])), (h0, .inr (3, [.int (u_108 0), .int (u_108 1), .int (u_108 2), .int (u_108 3), .int (u_108 4), .int 1, .int r_108, .int (u_108 7)]))] := hD
          refine lv_iadd hx hb dX3_move_144 ?_
          refine lv_topi (fun x_144 e_144 => ?_)
          refine va_put (D := (dC, dI)) (ci := 3) (v := .int x_144) (ty := .int) (C := RX3) (T := TX3) (N := 8) hx hb hts iX3 tyX3 tyX3_ok nmX3 hown hK hP hD hS 3 rfl rfl 6 (by decide) (hts (.fieldLink RX3 31 "Barrierbook$Standing" "paidLast" "I") (by decide +kernel)) (fun _ h9 => h9) rfl (by decide +kernel) rfl rfl (Nat.le_of_ble_eq_true rfl) dX3_move_145 (fun H locs hP hD hS => ?_)
          have hP : va_P (dC, dI) vwCl [(a0, .inr (0, [.int (fa 0), .int (fa 1), .int (fa 2)])), (b0, .inr (0, [.int (fb 0), .int (fb 1), .int (fb 2)])), (n0, .inr (2, [.ref a0, .ref b0, .int (nt 2), .int (nt 3), .int (nt 4), .int (nt 5), .int (nt 6), .int (nt 7), .int (nt 8), .int (nt 9), .int (nt 10)])), (h0, .inr (3, [.int (u_108 0), .int (u_108 1), .int (u_108 2), .int (u_108 3), .int (u_108 4), .int 1, .int x_144, .int (u_108 7)]))] H := hP
          have hD : va_D A [(a0, .inr (0, [.int (fa 0), .int (fa 1), .int (fa 2)])), (b0, .inr (0, [.int (fb 0), .int (fb 1), .int (fb 2)])), (n0, .inr (2, [.ref a0, .ref b0, .int (nt 2), .int (nt 3), .int (nt 4), .int (nt 5), .int (nt 6), .int (nt 7), .int (nt 8), .int (nt 9), .int (nt 10)])), (h0, .inr (3, [.int (u_108 0), .int (u_108 1), .int (u_108 2), .int (u_108 3), .int (u_108 4), .int 1, .int x_144, .int (u_108 7)]))] := hD
          exact j_148 (1, x_144) H locs ls (by subst e_6 e_144; simp [kOv, kPl, w_108, x8f, c_115, w_141]) (hP.sub [0, 1, 3, 2] rfl) (hD.sub [0, 1, 3, 2] rfl rfl) hS (lv_sub hl [0, 1, 2, 3, 4] rfl)
        refine lv_iload hx hb dX3_move_118 (lv_at hl 0 rfl) ?_
        refine lv_aload_n hx hb dX3_move_120 rfl (lv_at hl 3 rfl) ?_
        refine va_get (D := (dC, dI)) (ci := 2) (v := .int (nt 7)) (C := RX2) (T := TX2) (N := 11) hx hb hts iX2 hown hK hP 3 rfl rfl 7 (by decide) (hts (.fieldLink RX3 85 "Barrierbook$Note" "callLevel" "I") (by decide +kernel)) (fun _ h9 => h9) rfl dX3_move_121 ?_
        refine lv_icmp_lt (tgt := 148) hx hb dX3_move_124 (by decide) (fun c_124 => ?_) (fun c_124 => ?_)
        · exact j_148 (u_108 5, r_108) H locs ls (by subst e_6; simp [kOv, kPl, w_108, x8f, c_115, c_124]) (hP.sub [0, 1, 2, 3] rfl) (hD.sub [0, 1, 2, 3] rfl rfl) hS (lv_sub hl [0, 1, 2, 3, 4] rfl)
        refine lv_aload_n hx hb dX3_move_127 rfl (lv_at hl 2 rfl) ?_
        refine lv_iconst (v := 1) hx hb dX3_move_128 (by decide) ?_
        refine va_put (D := (dC, dI)) (ci := 3) (v := .int 1) (ty := .boolean) (C := RX3) (T := TX3) (N := 8) hx hb hts iX3 tyX3 tyX3_ok nmX3 hown hK hP hD hS 2 rfl rfl 5 (by decide) (hts (.fieldLink RX3 28 "Barrierbook$Standing" "isOver" "Z") (by decide +kernel)) (fun _ h9 => h9) rfl (by decide +kernel) rfl rfl (Nat.le_of_ble_eq_true rfl) dX3_move_129 (fun H locs hP hD hS => ?_)
        have hP : va_P (dC, dI) vwCl [(a0, .inr (0, [.int (fa 0), .int (fa 1), .int (fa 2)])), (b0, .inr (0, [.int (fb 0), .int (fb 1), .int (fb 2)])), (h0, .inr (3, [.int (u_108 0), .int (u_108 1), .int (u_108 2), .int (u_108 3), .int (u_108 4), .int 1, .int r_108, .int (u_108 7)])), (n0, .inr (2, [.ref a0, .ref b0, .int (nt 2), .int (nt 3), .int (nt 4), .int (nt 5), .int (nt 6), .int (nt 7), .int (nt 8), .int (nt 9), .int (nt 10)]))] H := hP
        have hD : va_D A [(a0, .inr (0, [.int (fa 0), .int (fa 1), .int (fa 2)])), (b0, .inr (0, [.int (fb 0), .int (fb 1), .int (fb 2)])), (h0, .inr (3, [.int (u_108 0), .int (u_108 1), .int (u_108 2), .int (u_108 3), .int (u_108 4), .int 1, .int r_108, .int (u_108 7)])), (n0, .inr (2, [.ref a0, .ref b0, .int (nt 2), .int (nt 3), .int (nt 4), .int (nt 5), .int (nt 6), .int (nt 7), .int (nt 8), .int (nt 9), .int (nt 10)]))] := hD
        refine lv_aload_n hx hb dX3_move_132 rfl (lv_at hl 2 rfl) ?_
        refine lv_dup hx hb dX3_move_133 rfl ?_
        refine va_get (D := (dC, dI)) (ci := 3) (v := .int r_108) (C := RX3) (T := TX3) (N := 8) hx hb hts iX3 hown hK hP 2 rfl rfl 6 (by decide) (hts (.fieldLink RX3 31 "Barrierbook$Standing" "paidLast" "I") (by decide +kernel)) (fun _ h9 => h9) rfl dX3_move_134 ?_
        refine lv_aload_n hx hb dX3_move_137 rfl (lv_at hl 2 rfl) ?_
        refine lv_iload hx hb dX3_move_138 (lv_at hl 0 rfl) ?_
        refine lv_iload_n hx hb dX3_move_140 rfl (lv_at hl 1 rfl) ?_
        refine xci (wr := [(a0, .inr (0, [.int (fa 0), .int (fa 1), .int (fa 2)])), (b0, .inr (0, [.int (fb 0), .int (fb 1), .int (fb 2)])), (n0, .inr (2, [.ref a0, .ref b0, .int (nt 2), .int (nt 3), .int (nt 4), .int (nt 5), .int (nt 6), .int (nt 7), .int (nt 8), .int (nt 9), .int (nt 10)]))]) (va_runV (As := [.int r_73, .int x]) (rest := [.int r_108, .ref h0]) hf (c_X3_endPay l dC dI cI cZ cJ H.size h0 (x8f (u_108 0) (u_108 1) (u_108 2) (u_108 3) (u_108 4) 1 r_108 (u_108 7)) r_73 x) (cwV 2 hts gX3_move_X3_endPay rfl rfl rfl (by decide +kernel) ⟨Nat.le_of_ble_eq_true rfl, Nat.le_of_ble_eq_true rfl⟩) (xPV (qc := (RX3, TX3, 8)) hK hP hD [2] rfl rfl 0 rfl rfl) rfl rfl hl.1 rfl (lv_room (Nat.le_of_ble_eq_true rfl)) dX3_move_141 ⟨Nat.le_of_ble_eq_true rfl, Nat.le_of_ble_eq_true rfl⟩) hP hD hS hA [2] [0, 1, 3] rfl rfl rfl (by decide) (fun r_141 u_141 H locs w_141 hP hD hS => ?_)
        have hP : va_P (dC, dI) vwCl [(a0, .inr (0, [.int (fa 0), .int (fa 1), .int (fa 2)])), (b0, .inr (0, [.int (fb 0), .int (fb 1), .int (fb 2)])), (n0, .inr (2, [.ref a0, .ref b0, .int (nt 2), .int (nt 3), .int (nt 4), .int (nt 5), .int (nt 6), .int (nt 7), .int (nt 8), .int (nt 9), .int (nt 10)])), (h0, .inr (3, [.int (u_108 0), .int (u_108 1), .int (u_108 2), .int (u_108 3), .int (u_108 4), .int 1, .int r_108, .int (u_108 7)]))] H := hP
        have hD : va_D A [(a0, .inr (0, [.int (fa 0), .int (fa 1), .int (fa 2)])), (b0, .inr (0, [.int (fb 0), .int (fb 1), .int (fb 2)])), (n0, .inr (2, [.ref a0, .ref b0, .int (nt 2), .int (nt 3), .int (nt 4), .int (nt 5), .int (nt 6), .int (nt 7), .int (nt 8), .int (nt 9), .int (nt 10)])), (h0, .inr (3, [.int (u_108 0), .int (u_108 1), .int (u_108 2), .int (u_108 3), .int (u_108 4), .int 1, .int r_108, .int (u_108 7)]))] := hD
        refine lv_iadd hx hb dX3_move_144 ?_
        refine lv_topi (fun x_144 e_144 => ?_)
        refine va_put (D := (dC, dI)) (ci := 3) (v := .int x_144) (ty := .int) (C := RX3) (T := TX3) (N := 8) hx hb hts iX3 tyX3 tyX3_ok nmX3 hown hK hP hD hS 3 rfl rfl 6 (by decide) (hts (.fieldLink RX3 31 "Barrierbook$Standing" "paidLast" "I") (by decide +kernel)) (fun _ h9 => h9) rfl (by decide +kernel) rfl rfl (Nat.le_of_ble_eq_true rfl) dX3_move_145 (fun H locs hP hD hS => ?_)
        have hP : va_P (dC, dI) vwCl [(a0, .inr (0, [.int (fa 0), .int (fa 1), .int (fa 2)])), (b0, .inr (0, [.int (fb 0), .int (fb 1), .int (fb 2)])), (n0, .inr (2, [.ref a0, .ref b0, .int (nt 2), .int (nt 3), .int (nt 4), .int (nt 5), .int (nt 6), .int (nt 7), .int (nt 8), .int (nt 9), .int (nt 10)])), (h0, .inr (3, [.int (u_108 0), .int (u_108 1), .int (u_108 2), .int (u_108 3), .int (u_108 4), .int 1, .int x_144, .int (u_108 7)]))] H := hP
        have hD : va_D A [(a0, .inr (0, [.int (fa 0), .int (fa 1), .int (fa 2)])), (b0, .inr (0, [.int (fb 0), .int (fb 1), .int (fb 2)])), (n0, .inr (2, [.ref a0, .ref b0, .int (nt 2), .int (nt 3), .int (nt 4), .int (nt 5), .int (nt 6), .int (nt 7), .int (nt 8), .int (nt 9), .int (nt 10)])), (h0, .inr (3, [.int (u_108 0), .int (u_108 1), .int (u_108 2), .int (u_108 3), .int (u_108 4), .int 1, .int x_144, .int (u_108 7)]))] := hD
        exact j_148 (1, x_144) H locs ls (by subst e_6 e_144; simp [kOv, kPl, w_108, x8f, c_115, c_124, w_141]) (hP.sub [0, 1, 3, 2] rfl) (hD.sub [0, 1, 3, 2] rfl rfl) hS (lv_sub hl [0, 1, 2, 3, 4] rfl)
      refine lv_icmp_ge (tgt := 103) hx hb dX3_move_84 (by decide) (fun c_84 => ?_) (fun c_84 => ?_)
      · exact j_103 (st 4) H locs ls (by subst e_6; simp [kKn, x8f, c_84]) (hP.sub [0, 1, 2, 3] rfl) (hD.sub [0, 1, 2, 3] rfl rfl) hS (lv_sub hl [0, 1, 2, 3, 4] rfl)
      refine lv_iload_n hx hb dX3_move_87 rfl (lv_at hl 1 rfl) ?_
      refine lv_if_ne (tgt := 98) hx hb dX3_move_88 (by decide) (fun c_88 => ?_) (fun c_88 => ?_)
      · refine lv_aload_n hx hb dX3_move_98 rfl (lv_at hl 2 rfl) ?_
        refine lv_iconst (v := 1) hx hb dX3_move_99 (by decide) ?_
        refine va_put (D := (dC, dI)) (ci := 3) (v := .int 1) (ty := .boolean) (C := RX3) (T := TX3) (N := 8) hx hb hts iX3 tyX3 tyX3_ok nmX3 hown hK hP hD hS 0 rfl rfl 4 (by decide) (hts (.fieldLink RX3 24 "Barrierbook$Standing" "isKnocked" "Z") (by decide +kernel)) (fun _ h9 => h9) rfl (by decide +kernel) rfl rfl (Nat.le_of_ble_eq_true rfl) dX3_move_100 (fun H locs hP hD hS => ?_)
        have hP : va_P (dC, dI) vwCl [(h0, .inr (3, [.int x_6, .int r_20, .int r_48, .int (st 3), .int 1, .int (st 5), .int (st 6), .int (st 7)])), (n0, .inr (2, [.ref a0, .ref b0, .int (nt 2), .int (nt 3), .int (nt 4), .int (nt 5), .int (nt 6), .int (nt 7), .int (nt 8), .int (nt 9), .int (nt 10)])), (a0, .inr (0, [.int (fa 0), .int (fa 1), .int (fa 2)])), (b0, .inr (0, [.int (fb 0), .int (fb 1), .int (fb 2)]))] H := hP
        have hD : va_D A [(h0, .inr (3, [.int x_6, .int r_20, .int r_48, .int (st 3), .int 1, .int (st 5), .int (st 6), .int (st 7)])), (n0, .inr (2, [.ref a0, .ref b0, .int (nt 2), .int (nt 3), .int (nt 4), .int (nt 5), .int (nt 6), .int (nt 7), .int (nt 8), .int (nt 9), .int (nt 10)])), (a0, .inr (0, [.int (fa 0), .int (fa 1), .int (fa 2)])), (b0, .inr (0, [.int (fb 0), .int (fb 1), .int (fb 2)]))] := hD
        exact j_103 1 H locs ls (by subst e_6; simp [kKn, x8f, c_84, c_88]) (hP.sub [0, 1, 2, 3] rfl) (hD.sub [0, 1, 2, 3] rfl rfl) hS (lv_sub hl [0, 1, 2, 3, 4] rfl)
      refine lv_aload_n hx hb dX3_move_91 rfl (lv_at hl 3 rfl) ?_
      refine va_get (D := (dC, dI)) (ci := 2) (v := .int (nt 9)) (C := RX2) (T := TX2) (N := 11) hx hb hts iX2 hown hK hP 1 rfl rfl 9 (by decide) (hts (.fieldLink RX3 78 "Barrierbook$Note" "isAtEnd" "Z") (by decide +kernel)) (fun _ h9 => h9) rfl dX3_move_92 ?_
      refine lv_if_ne (tgt := 103) hx hb dX3_move_95 (by decide) (fun c_95 => ?_) (fun c_95 => ?_)
      · exact j_103 (st 4) H locs ls (by subst e_6; simp [kKn, x8f, c_84, c_88, c_95]) (hP.sub [0, 1, 2, 3] rfl) (hD.sub [0, 1, 2, 3] rfl rfl) hS (lv_sub hl [0, 1, 2, 3, 4] rfl)
      refine lv_aload_n hx hb dX3_move_98 rfl (lv_at hl 2 rfl) ?_
      refine lv_iconst (v := 1) hx hb dX3_move_99 (by decide) ?_
      refine va_put (D := (dC, dI)) (ci := 3) (v := .int 1) (ty := .boolean) (C := RX3) (T := TX3) (N := 8) hx hb hts iX3 tyX3 tyX3_ok nmX3 hown hK hP hD hS 0 rfl rfl 4 (by decide) (hts (.fieldLink RX3 24 "Barrierbook$Standing" "isKnocked" "Z") (by decide +kernel)) (fun _ h9 => h9) rfl (by decide +kernel) rfl rfl (Nat.le_of_ble_eq_true rfl) dX3_move_100 (fun H locs hP hD hS => ?_)
      have hP : va_P (dC, dI) vwCl [(h0, .inr (3, [.int x_6, .int r_20, .int r_48, .int (st 3), .int 1, .int (st 5), .int (st 6), .int (st 7)])), (n0, .inr (2, [.ref a0, .ref b0, .int (nt 2), .int (nt 3), .int (nt 4), .int (nt 5), .int (nt 6), .int (nt 7), .int (nt 8), .int (nt 9), .int (nt 10)])), (a0, .inr (0, [.int (fa 0), .int (fa 1), .int (fa 2)])), (b0, .inr (0, [.int (fb 0), .int (fb 1), .int (fb 2)]))] H := hP
      have hD : va_D A [(h0, .inr (3, [.int x_6, .int r_20, .int r_48, .int (st 3), .int 1, .int (st 5), .int (st 6), .int (st 7)])), (n0, .inr (2, [.ref a0, .ref b0, .int (nt 2), .int (nt 3), .int (nt 4), .int (nt 5), .int (nt 6), .int (nt 7), .int (nt 8), .int (nt 9), .int (nt 10)])), (a0, .inr (0, [.int (fa 0), .int (fa 1), .int (fa 2)])), (b0, .inr (0, [.int (fb 0), .int (fb 1), .int (fb 2)]))] := hD
      exact j_103 1 H locs ls (by subst e_6; simp [kKn, x8f, c_84, c_88, c_95]) (hP.sub [0, 1, 2, 3] rfl) (hD.sub [0, 1, 2, 3] rfl rfl) hS (lv_sub hl [0, 1, 2, 3, 4] rfl)
    refine lv_icmp_lt (tgt := 69) hx hb dX3_move_62 (by decide) (fun c_62 => ?_) (fun c_62 => ?_)
    · refine lv_iconst (v := 0) hx hb dX3_move_69 (by decide) ?_
      exact j_70 0 H locs ls (by subst e_6; simp [kLast, x8f, c_62]) (hP.sub [0, 1, 2, 3] rfl) (hD.sub [0, 1, 2, 3] rfl rfl) hS (lv_sub hl [0, 1, 2] rfl)
    refine lv_iconst (v := 1) hx hb dX3_move_65 (by decide) ?_
    refine lv_goto (tgt := 70) hx hb dX3_move_66 (by decide) ?_
    exact j_70 1 H locs ls (by subst e_6; simp [kLast, x8f, c_62]) (hP.sub [0, 1, 2, 3] rfl) (hD.sub [0, 1, 2, 3] rfl rfl) hS (lv_sub hl [0, 1, 2] rfl)
  refine lv_icmp_eq (tgt := 47) hx hb dX3_move_40 (by decide) (fun c_40 => ?_) (fun c_40 => ?_)
  · refine lv_iconst (v := 0) hx hb dX3_move_47 (by decide) ?_
    exact j_48 0 H locs ls (by subst e_6; simp [kXor, x8f, c_40]) (hP.sub [0, 1, 2, 3] rfl) (hD.sub [0, 1, 2, 3] rfl rfl) hS (lv_sub hl [0, 1, 2] rfl)
  refine lv_iconst (v := 1) hx hb dX3_move_43 (by decide) ?_
  refine lv_goto (tgt := 48) hx hb dX3_move_44 (by decide) ?_
  exact j_48 1 H locs ls (by subst e_6; simp [kXor, x8f, c_40]) (hP.sub [0, 1, 2, 3] rfl) (hD.sub [0, 1, 2, 3] rfl rfl) hS (lv_sub hl [0, 1, 2] rfl)
set_option maxHeartbeats 4000000 in
set_option maxRecDepth 100000 in
theorem c_X5_isUpAt (l : Launch) (dC : Nat → ClassId) (dI : Nat → Nat → Nat) (cI cZ cJ : ClassId) (sz : Nat) (x i : Int32) : Met l yX5_isUpAt wsX5_isUpAt ({ frames := 0, cells := 0, slots := 0, locals := 0 }) (va_Pc [.int x, .int i] (xB (dC, dI) (xT cI cZ cJ) [] sz)) (va_Qi (fun (r : Int32) (u : Unit) => r = kBit x i) (fun (u : Unit) t => xA (dC, dI) (xT cI cZ cJ) [] (va_A [] sz) t) (va_A [] sz)) 0 0 (va_A [] sz) := by
  refine xMet (QF := fun A => va_Qi (fun (r : Int32) (u : Unit) => r = kBit x i) (fun (u : Unit) t => xA (dC, dI) (xT cI cZ cJ) [] A t) A) (maxL := 2) (ret := (some .boolean)) (cc := cX5_isUpAt) (by decide) rfl (Nat.le_of_ble_eq_true rfl) ?_
  intro p e s m below meth c ls A hf hr hlk hnm hK hP hD hA hS hl
  obtain ⟨hx, hb, hml, hown, hts⟩ := id hf
  have hl : lv_has ls 2 [(0, .int x), (1, .int i)] := hl
  have hP : va_P (dC, dI) vwCl [] s.heap := hP
  refine lv_iload_n hx hb dX5_isUpAt_0 rfl (lv_at hl 0 rfl) ?_
  refine lv_iload_n hx hb dX5_isUpAt_1 rfl (lv_at hl 1 rfl) ?_
  refine lv_ishr hx hb dX5_isUpAt_2 ?_
  refine lv_topi (fun x_2 e_2 => ?_)
  refine lv_iconst (v := 1) hx hb dX5_isUpAt_3 (by decide) ?_
  refine lv_iand hx hb dX5_isUpAt_4 ?_
  refine lv_topi (fun x_4 e_4 => ?_)
  refine lv_iconst (v := 1) hx hb dX5_isUpAt_5 (by decide) ?_
  refine lv_icmp_ne (tgt := 13) hx hb dX5_isUpAt_6 (by decide) (fun c_6 => ?_) (fun c_6 => ?_)
  · refine lv_iconst (v := 0) hx hb dX5_isUpAt_13 (by decide) ?_
    exact xrz hf hr hlk (()) (rfl) (by subst e_2 e_4; simp [kBit, x8f, c_6]) (hP.sub [] rfl) (hD.sub [] rfl rfl) hK hS dX5_isUpAt_14
  refine lv_iconst (v := 1) hx hb dX5_isUpAt_9 (by decide) ?_
  refine lv_goto (tgt := 14) hx hb dX5_isUpAt_10 (by decide) ?_
  exact xrz hf hr hlk (()) (rfl) (by subst e_2 e_4; simp [kBit, x8f, c_6]) (hP.sub [] rfl) (hD.sub [] rfl rfl) hK hS dX5_isUpAt_14
set_option maxHeartbeats 4000000 in
set_option maxRecDepth 100000 in
theorem c_X5_isAsset (l : Launch) (dC : Nat → ClassId) (dI : Nat → Nat → Nat) (cI cZ cJ : ClassId) (sz : Nat) (x : Int32) : Met l yX5_isAsset wsX5_isAsset ({ frames := 0, cells := 0, slots := 0, locals := 0 }) (va_Pc [.int x] (xB (dC, dI) (xT cI cZ cJ) [] sz)) (va_Qi (fun (r : Int32) (u : Unit) => r = kAs x) (fun (u : Unit) t => xA (dC, dI) (xT cI cZ cJ) [] (va_A [] sz) t) (va_A [] sz)) 0 0 (va_A [] sz) := by
  refine xMet (QF := fun A => va_Qi (fun (r : Int32) (u : Unit) => r = kAs x) (fun (u : Unit) t => xA (dC, dI) (xT cI cZ cJ) [] A t) A) (maxL := 1) (ret := (some .boolean)) (cc := cX5_isAsset) (by decide) rfl (Nat.le_of_ble_eq_true rfl) ?_
  intro p e s m below meth c ls A hf hr hlk hnm hK hP hD hA hS hl
  obtain ⟨hx, hb, hml, hown, hts⟩ := id hf
  have hl : lv_has ls 1 [(0, .int x)] := hl
  have hP : va_P (dC, dI) vwCl [] s.heap := hP
  refine lv_iload_n hx hb dX5_isAsset_0 rfl (lv_at hl 0 rfl) ?_
  refine lv_if_eq (tgt := 9) hx hb dX5_isAsset_1 (by decide) (fun c_1 => ?_) (fun c_1 => ?_)
  · refine lv_iconst (v := 1) hx hb dX5_isAsset_9 (by decide) ?_
    refine lv_goto (tgt := 14) hx hb dX5_isAsset_10 (by decide) ?_
    exact xrz hf hr hlk (()) (rfl) (by simp [kAs, x8f, c_1]) (hP.sub [] rfl) (hD.sub [] rfl rfl) hK hS dX5_isAsset_14
  refine lv_iload_n hx hb dX5_isAsset_4 rfl (lv_at hl 0 rfl) ?_
  refine lv_iconst (v := 1) hx hb dX5_isAsset_5 (by decide) ?_
  refine lv_icmp_ne (tgt := 13) hx hb dX5_isAsset_6 (by decide) (fun c_6 => ?_) (fun c_6 => ?_)
  · refine lv_iconst (v := 0) hx hb dX5_isAsset_13 (by decide) ?_
    exact xrz hf hr hlk (()) (rfl) (by simp [kAs, x8f, c_1, c_6]) (hP.sub [] rfl) (hD.sub [] rfl rfl) hK hS dX5_isAsset_14
  refine lv_iconst (v := 1) hx hb dX5_isAsset_9 (by decide) ?_
  refine lv_goto (tgt := 14) hx hb dX5_isAsset_10 (by decide) ?_
  exact xrz hf hr hlk (()) (rfl) (by simp [kAs, x8f, c_1, c_6]) (hP.sub [] rfl) (hD.sub [] rfl rfl) hK hS dX5_isAsset_14
set_option maxHeartbeats 4000000 in
set_option maxRecDepth 100000 in
theorem c_X5_isWithin (l : Launch) (dC : Nat → ClassId) (dI : Nat → Nat → Nat) (cI cZ cJ : ClassId) (sz : Nat) (x lo hi : Int32) : Met l yX5_isWithin wsX5_isWithin ({ frames := 0, cells := 0, slots := 0, locals := 0 }) (va_Pc [.int x, .int lo, .int hi] (xB (dC, dI) (xT cI cZ cJ) [] sz)) (va_Qi (fun (r : Int32) (u : Unit) => r = kIn x lo hi) (fun (u : Unit) t => xA (dC, dI) (xT cI cZ cJ) [] (va_A [] sz) t) (va_A [] sz)) 0 0 (va_A [] sz) := by
  refine xMet (QF := fun A => va_Qi (fun (r : Int32) (u : Unit) => r = kIn x lo hi) (fun (u : Unit) t => xA (dC, dI) (xT cI cZ cJ) [] A t) A) (maxL := 3) (ret := (some .boolean)) (cc := cX5_isWithin) (by decide) rfl (Nat.le_of_ble_eq_true rfl) ?_
  intro p e s m below meth c ls A hf hr hlk hnm hK hP hD hA hS hl
  obtain ⟨hx, hb, hml, hown, hts⟩ := id hf
  have hl : lv_has ls 3 [(0, .int x), (1, .int lo), (2, .int hi)] := hl
  have hP : va_P (dC, dI) vwCl [] s.heap := hP
  refine lv_iload_n hx hb dX5_isWithin_0 rfl (lv_at hl 0 rfl) ?_
  refine lv_iload_n hx hb dX5_isWithin_1 rfl (lv_at hl 1 rfl) ?_
  refine lv_icmp_lt (tgt := 14) hx hb dX5_isWithin_2 (by decide) (fun c_2 => ?_) (fun c_2 => ?_)
  · refine lv_iconst (v := 0) hx hb dX5_isWithin_14 (by decide) ?_
    exact xrz hf hr hlk (()) (rfl) (by simp [kIn, x8f, c_2]) (hP.sub [] rfl) (hD.sub [] rfl rfl) hK hS dX5_isWithin_15
  refine lv_iload_n hx hb dX5_isWithin_5 rfl (lv_at hl 0 rfl) ?_
  refine lv_iload_n hx hb dX5_isWithin_6 rfl (lv_at hl 2 rfl) ?_
  refine lv_icmp_gt (tgt := 14) hx hb dX5_isWithin_7 (by decide) (fun c_7 => ?_) (fun c_7 => ?_)
  · refine lv_iconst (v := 0) hx hb dX5_isWithin_14 (by decide) ?_
    exact xrz hf hr hlk (()) (rfl) (by simp [kIn, x8f, c_2, c_7]) (hP.sub [] rfl) (hD.sub [] rfl rfl) hK hS dX5_isWithin_15
  refine lv_iconst (v := 1) hx hb dX5_isWithin_10 (by decide) ?_
  refine lv_goto (tgt := 15) hx hb dX5_isWithin_11 (by decide) ?_
  exact xrz hf hr hlk (()) (rfl) (by simp [kIn, x8f, c_2, c_7]) (hP.sub [] rfl) (hD.sub [] rfl rfl) hK hS dX5_isWithin_15
set_option maxHeartbeats 4000000 in
set_option maxRecDepth 100000 in
theorem c_X5_wholeWeightOf (l : Launch) (dC : Nat → ClassId) (dI : Nat → Nat → Nat) (cI cZ cJ : ClassId) (sz : Nat) (n : Nat) (hn : n ≤ 8) : Met l yX5_wholeWeightOf wsX5_wholeWeightOf ({ frames := 0, cells := 0, slots := 0, locals := 0 }) (va_Pc [.int (nI n)] (xB (dC, dI) (xT cI cZ cJ) [] sz)) (va_Ql (fun (r : Int64) (u : Unit) => r = lN (10 ^ n)) (fun (u : Unit) t => xA (dC, dI) (xT cI cZ cJ) [] (va_A [] sz) t) (va_A [] sz)) 0 0 (va_A [] sz) := by
  refine xMet (QF := fun A => va_Ql (fun (r : Int64) (u : Unit) => r = lN (10 ^ n)) (fun (u : Unit) t => xA (dC, dI) (xT cI cZ cJ) [] A t) A) (maxL := 4) (ret := (some .long)) (cc := cX5_wholeWeightOf) (by decide) rfl (Nat.le_of_ble_eq_true rfl) ?_
  intro p e s m below meth c ls A hf hr hlk hnm hK hP hD hA hS hl
  obtain ⟨hx, hb, hml, hown, hts⟩ := id hf
  have hl : lv_has ls 4 [(0, .int (nI n))] := hl
  have hP : va_P (dC, dI) vwCl [] s.heap := hP
  refine lv_lconst (v := 1) hx hb dX5_wholeWeightOf_0 (by decide) ?_
  refine xtl (y := (lN (10 ^ 0))) (by decide) ?_
  refine lv_lstore_n (lv' := [(1, .long (lN (10 ^ 0))), (0, .int (nI n))]) hx hb dX5_wholeWeightOf_1 rfl hl (by decide) rfl (fun ls hl => ?_)
  refine lv_iconst (v := 0) hx hb dX5_wholeWeightOf_2 (by decide) ?_
  refine xti (y := (nI 0)) (rfl) ?_
  refine lv_istore_n (lv' := [(3, .int (nI 0)), (1, .long (lN (10 ^ 0))), (0, .int (nI n))]) hx hb dX5_wholeWeightOf_3 rfl hl (by decide) rfl (fun ls hl => ?_)
  refine xloop (X := Nat) (D := (dC, dI)) (A := A) (H0 := s.heap) (nL := 4) (P := fun zz => zz ≤ n) (w1 := fun zz => []) (lv1 := fun zz => [(0, .int (nI n)), (1, .long (lN (10 ^ zz))), (3, .int (nI zz))]) (st1 := fun zz => []) (J := 4) (μ := fun zz => n - zz) ?_ 0 s.heap [] ls (Nat.zero_le n) (hP.sub [] rfl) (hD.sub [] rfl rfl) hS (lv_sub hl [2, 1, 0] rfl)
  intro i H locs ls hcut hP hD hS hl ih_4
  have hcut : i ≤ n := hcut
  have hi := hcut
  have hl : lv_has ls 4 [(0, .int (nI n)), (1, .long (lN (10 ^ i))), (3, .int (nI i))] := hl
  have hP : va_P (dC, dI) vwCl [] H := hP
  have hD : va_D A [] := hD
  refine lv_iload_n hx hb dX5_wholeWeightOf_4 rfl (lv_at hl 2 rfl) ?_
  refine lv_iload_n hx hb dX5_wholeWeightOf_5 rfl (lv_at hl 0 rfl) ?_
  refine lv_icmp_ge (tgt := 27) hx hb dX5_wholeWeightOf_6 (by decide) (fun c_6 => ?_) (fun c_6 => ?_)
  · refine lv_lload_n hx hb dX5_wholeWeightOf_27 rfl (lv_at hl 1 rfl) ?_
    exact xrl hf hr hlk (()) (by rw [show i = n from Nat.le_antisymm hi (by rcases Nat.lt_or_ge i n with h | h; exact absurd c_6 (nI_ge h (by omega)); exact h)]) (hP.sub [] rfl) (hD.sub [] rfl rfl) hK hS dX5_wholeWeightOf_28
  have hlt : i < n := by rcases Nat.lt_or_ge i n with h | h; exact h; exact absurd (nI_le h (by omega)) c_6
  refine lv_iload_n hx hb dX5_wholeWeightOf_9 rfl (lv_at hl 2 rfl) ?_
  refine lv_bipush (v := 8) hx hb dX5_wholeWeightOf_10 (by decide) ?_
  refine lv_icmp_ge (tgt := 27) hx hb dX5_wholeWeightOf_12 (by decide) (fun c_12 => ?_) (fun c_12 => ?_)
  · exact absurd ((nI_leI (a := 8) (b := i) (by omega) (by omega)).mp c_12) (by omega)
  refine lv_lload_n hx hb dX5_wholeWeightOf_15 rfl (lv_at hl 1 rfl) ?_
  refine lv_ldc2 (v := 10) hx hb hown (hts (.constantLong RX5 191 (10)) (by decide +kernel)) dX5_wholeWeightOf_16 ?_
  refine lv_lmul hx hb dX5_wholeWeightOf_19 ?_
  refine xtl (y := (lN (10 ^ (i + 1)))) (by rw [show (10 : Int64) = lN 10 from rfl, lN_mul, Nat.pow_succ]) ?_
  refine lv_lstore_n (lv' := [(1, .long (lN (10 ^ (i + 1)))), (0, .int (nI n)), (3, .int (nI i))]) hx hb dX5_wholeWeightOf_20 rfl hl (by decide) rfl (fun ls hl => ?_)
  refine lv_iinc (v := (nI (i + 1))) (lv' := [(3, .int (nI (i + 1))), (1, .long (lN (10 ^ (i + 1)))), (0, .int (nI n))]) hx hb dX5_wholeWeightOf_21 hl (k := 2) rfl (nI_1 i) (by decide) rfl (fun ls hl => ?_)
  refine lv_goto (tgt := 4) hx hb dX5_wholeWeightOf_24 (by decide) ?_
  exact ih_4 (i + 1) H locs ls (hlt) (by omega) (hP.sub [] rfl) (hD.sub [] rfl rfl) hS (lv_sub hl [2, 1, 0] rfl)
end
section
/-! The note in natural numbers. N: 0 first0, 1 rise0, 2 fall0, 3 first1, 4 rise1, 5 fall1, 6 against, 7 chance, 8 periods, 9 barrier, 10 coupon level, 11 call level, 12 coupon, 13 at the end alone, 14 remembers. A standing σ: 0 told, 1 and 2 the prices, 3 missed, 4 knocked, 5 over, 6 paid last, 7 paid in all. -/
abbrev x8n (a b c d e f g h : Nat) : Nat → Nat := fun k => match k with | 0 => a | 1 => b | 2 => c | 3 => d | 4 => e | 5 => f | 6 => g | _ => h
def sPri (r f p up : Nat) : Nat := if up = 0 then (if f + 1 < p then p - f else 1) else p + r
def sLev (f p : Nat) : Nat := p * 100 / f
def sMin (x y : Nat) : Nat := if y < x then y else x
def sXor (up ag : Nat) : Nat := if up = ag then 0 else 1
def sLast (N : Nat → Nat) (t : Nat) : Nat := if t < N 8 then 0 else 1
def sKn (N : Nat → Nat) (lev last kn : Nat) : Nat := if N 9 ≤ lev then kn else if ¬ last = 0 then 1 else if ¬ N 13 = 0 then kn else 1
def sCp (N : Nat → Nat) (lev ms : Nat) : Nat := if N 10 ≤ lev then (if N 14 = 0 then 1 else 1 + ms) * N 12 else 0
def sMs (N : Nat → Nat) (lev ms : Nat) : Nat := if N 10 ≤ lev then 0 else ms + 1
def sEp (lev last kn : Nat) : Nat := if last = 0 then 1000 else if kn = 0 then 1000 else if 100 ≤ lev then 1000 else 10 * lev
def sOv (N : Nat → Nat) (lev last ov : Nat) : Nat := if ¬ last = 0 then 1 else if lev < N 11 then ov else 1
def sPl (N : Nat → Nat) (lev last kn cp : Nat) : Nat := if ¬ last = 0 then cp + sEp lev last kn else if lev < N 11 then cp else cp + sEp lev last kn
def sP0 (N σ : Nat → Nat) (up : Nat) : Nat := sPri (N 1) (N 2) (σ 1) up
def sP1 (N σ : Nat → Nat) (up : Nat) : Nat := sPri (N 4) (N 5) (σ 2) (sXor up (N 6))
def sL (N σ : Nat → Nat) (up : Nat) : Nat := sMin (sLev (N 0) (sP0 N σ up)) (sLev (N 3) (sP1 N σ up))
def sK (N σ : Nat → Nat) (up : Nat) : Nat := sKn N (sL N σ up) (sLast N (σ 0 + 1)) (σ 4)
def sPay (N σ : Nat → Nat) (up : Nat) : Nat := sPl N (sL N σ up) (sLast N (σ 0 + 1)) (sK N σ up) (sCp N (sL N σ up) (σ 3))
/-- a standing behind one more move -/
def sMv (N σ : Nat → Nat) (up : Nat) : Nat → Nat := x8n (σ 0 + 1) (sP0 N σ up) (sP1 N σ up) (sMs N (sL N σ up) (σ 3)) (sK N σ up) (sOv N (sL N σ up) (sLast N (σ 0 + 1)) (σ 5)) (sPay N σ up) (σ 7 + sPay N σ up)
def sBeg (N : Nat → Nat) : Nat → Nat := x8n 0 (N 0) (N 3) 0 0 0 0 0
/-- behind the first n of the moves μ, until it is over -/
def sRun (N μ : Nat → Nat) : Nat → (Nat → Nat)
  | 0 => sBeg N
  | n + 1 => if (sRun N μ n) 5 = 0 then sMv N (sRun N μ n) (μ n) else sRun N μ n
/-- what the document lets the note be -/
def Nok (N : Nat → Nat) : Prop := (100 ≤ N 0 ∧ N 0 ≤ 1000 ∧ N 1 ≤ 200 ∧ N 2 ≤ 200 ∧ 100 ≤ N 3 ∧ N 3 ≤ 1000 ∧ N 4 ≤ 200 ∧ N 5 ≤ 200) ∧ N 6 ≤ 1 ∧ 1 ≤ N 7 ∧ N 7 ≤ 9 ∧ 1 ≤ N 8 ∧ N 8 ≤ 8 ∧ N 9 ≤ 100 ∧ N 10 ≤ 150 ∧ N 11 ≤ 200 ∧ N 12 ≤ 500 ∧ N 13 ≤ 1 ∧ N 14 ≤ 1
def Sok (σ : Nat → Nat) : Prop := σ 0 ≤ 8 ∧ 1 ≤ σ 1 ∧ σ 1 ≤ 1000 + 200 * σ 0 ∧ 1 ≤ σ 2 ∧ σ 2 ≤ 1000 + 200 * σ 0 ∧ σ 3 ≤ σ 0 ∧ σ 4 ≤ 1 ∧ σ 5 ≤ 1 ∧ σ 6 ≤ 6000 ∧ σ 7 ≤ 6000 * σ 0
theorem sPri_b {r f p up : Nat} (hr : r ≤ 200) (h1 : 1 ≤ p) : 1 ≤ sPri r f p up ∧ sPri r f p up ≤ p + 200 := by
  unfold sPri
  split
  · split <;> omega
  · omega
theorem sLev_b {f p : Nat} (hf : 100 ≤ f) (hp : p ≤ 10000) : sLev f p ≤ 10000 := by
  unfold sLev
  exact Nat.le_trans (Nat.div_le_div_left hf (by decide)) (by omega)
theorem sMin_b {x y k : Nat} (h : x ≤ k) : sMin x y ≤ k := by unfold sMin; split <;> omega
theorem sLast_b {N : Nat → Nat} {t : Nat} : sLast N t ≤ 1 := by unfold sLast; split <;> omega
theorem sKn_b {N : Nat → Nat} {lev last kn : Nat} (h : kn ≤ 1) : sKn N lev last kn ≤ 1 := by
  unfold sKn
  repeat' split
  all_goals omega
theorem sMs_b {N : Nat → Nat} {lev ms : Nat} : sMs N lev ms ≤ ms + 1 := by unfold sMs; split <;> omega
theorem sCp_b {N : Nat → Nat} {lev ms : Nat} (hc : N 12 ≤ 500) (hm : ms ≤ 8) : sCp N lev ms ≤ 4500 := by
  unfold sCp
  split
  · refine Nat.le_trans (show (if N 14 = 0 then 1 else 1 + ms) * N 12 ≤ 9 * 500 from Nat.mul_le_mul ?_ hc) (by decide)
    split <;> omega
  · omega
theorem sEp_b {lev last kn : Nat} : sEp lev last kn ≤ 1000 := by
  unfold sEp
  repeat' split
  all_goals omega
theorem sPl_b {N : Nat → Nat} {lev last kn cp : Nat} (h : cp ≤ 4500) : sPl N lev last kn cp ≤ 6000 := by
  have := @sEp_b lev last kn
  unfold sPl; repeat' split
  all_goals omega
theorem sOv_b {N : Nat → Nat} {lev last ov : Nat} (h : ov ≤ 1) : sOv N lev last ov ≤ 1 := by
  unfold sOv
  repeat' split
  all_goals omega
theorem sMv_ok {N σ : Nat → Nat} {up : Nat} (hN : Nok N) (h : Sok σ) (ht : σ 0 < 8) : Sok (sMv N σ up) := by
  obtain ⟨⟨n0, n0', n1, n2, n3, n3', n4, n5⟩, n6, n7, n7', n8, n8', n9, n10, n11, n12, n13, n14⟩ := hN
  obtain ⟨h0, h1, h1', h2, h2', h3, h4, h5, h6, h7⟩ := h
  have a := @sPri_b (N 1) (N 2) (σ 1) up n1 h1
  have b := @sPri_b (N 4) (N 5) (σ 2) (sXor up (N 6)) n4 h2
  have c := @sMs_b N (sL N σ up) (σ 3)
  have d := @sKn_b N (sL N σ up) (sLast N (σ 0 + 1)) (σ 4) h4
  have e := @sOv_b N (sL N σ up) (sLast N (σ 0 + 1)) (σ 5) h5
  have f := @sPl_b N (sL N σ up) (sLast N (σ 0 + 1)) (sK N σ up) (sCp N (sL N σ up) (σ 3)) (sCp_b n12 (by omega))
  refine ⟨?_, ?_, ?_, ?_, ?_, ?_, d, e, f, ?_⟩
  · show σ 0 + 1 ≤ 8; omega
  · exact a.1
  · show sP0 N σ up ≤ 1000 + 200 * (σ 0 + 1); unfold sP0; omega
  · exact b.1
  · show sP1 N σ up ≤ 1000 + 200 * (σ 0 + 1); unfold sP1; omega
  · show sMs N (sL N σ up) (σ 3) ≤ σ 0 + 1; omega
  · show σ 7 + sPay N σ up ≤ 6000 * (σ 0 + 1); unfold sPay; omega
theorem sBeg_ok {N : Nat → Nat} (hN : Nok N) : Sok (sBeg N) := by
  obtain ⟨⟨n0, n0', n1, n2, n3, n3', n4, n5⟩, -⟩ := hN
  refine ⟨by show 0 ≤ 8; omega, ?_, ?_, ?_, ?_, Nat.le_refl 0, Nat.zero_le _, Nat.zero_le _, Nat.zero_le _, Nat.zero_le _⟩
  · show 1 ≤ N 0; omega
  · show N 0 ≤ 1000 + 200 * 0; omega
  · show 1 ≤ N 3; omega
  · show N 3 ≤ 1000 + 200 * 0; omega
theorem sRun_told {N μ : Nat → Nat} : ∀ n, (sRun N μ n) 0 ≤ n := by
  intro n
  induction n with
  | zero => exact Nat.le_refl 0
  | succ n ih =>
    unfold sRun
    split
    · show (sRun N μ n) 0 + 1 ≤ n + 1; omega
    · omega
theorem sRun_ok {N μ : Nat → Nat} (hN : Nok N) : ∀ n, n ≤ 8 → Sok (sRun N μ n) := by
  intro n
  induction n with
  | zero => intro _; exact sBeg_ok hN
  | succ n ih =>
    intro h
    unfold sRun
    split
    · exact sMv_ok hN (ih (by omega)) (Nat.lt_of_le_of_lt (sRun_told n) (by omega))
    · exact ih (by omega)
/-- no move was told behind the end -/
def Told (N μ : Nat → Nat) (T : Nat) : Prop := ∀ j, j < T → (sRun N μ j) 5 = 0
theorem sRun_s {N μ : Nat → Nat} {n : Nat} (h : (sRun N μ n) 5 = 0) : sRun N μ (n + 1) = sMv N (sRun N μ n) (μ n) := by
  show (if (sRun N μ n) 5 = 0 then sMv N (sRun N μ n) (μ n) else sRun N μ n) = _
  rw [if_pos h]
theorem sRun_o {N μ : Nat → Nat} {n : Nat} (h : ¬ (sRun N μ n) 5 = 0) : sRun N μ (n + 1) = sRun N μ n := by
  show (if (sRun N μ n) 5 = 0 then sMv N (sRun N μ n) (μ n) else sRun N μ n) = _
  rw [if_neg h]
theorem sRun_t {N μ : Nat → Nat} : ∀ T, Told N μ T → (sRun N μ T) 0 = T := by
  intro T
  induction T with
  | zero => intro _; rfl
  | succ T ih =>
    intro h
    rw [sRun_s (h T (by omega))]
    show (sRun N μ T) 0 + 1 = T + 1
    rw [ih (fun j hj => h j (by omega))]
theorem sRun_c {N μ ν : Nat → Nat} : ∀ n, (∀ k, k < n → μ k = ν k) → sRun N μ n = sRun N ν n := by
  intro n
  induction n with
  | zero => intro _; rfl
  | succ n ih =>
    intro h
    have e := ih (fun k hk => h k (by omega))
    show (if (sRun N μ n) 5 = 0 then sMv N (sRun N μ n) (μ n) else sRun N μ n) = (if (sRun N ν n) 5 = 0 then sMv N (sRun N ν n) (ν n) else sRun N ν n)
    rw [e, h n (by omega)]
theorem sMv_last {N σ : Nat → Nat} {up : Nat} (h : N 8 ≤ σ 0 + 1) : (sMv N σ up) 5 = 1 := by
  show sOv N (sL N σ up) (sLast N (σ 0 + 1)) (σ 5) = 1
  unfold sOv sLast
  rw [if_neg (show ¬ σ 0 + 1 < N 8 by omega)]
  simp
/-- a told note that isn't over has a period left -/
theorem sTold_lt {N μ : Nat → Nat} (hN : Nok N) {T : Nat} (h : Told N μ T) (ho : (sRun N μ T) 5 = 0) (hT : T ≤ N 8) : T < N 8 := by
  rcases Nat.lt_or_ge T (N 8) with q | q
  · exact q
  · have h8 : 1 ≤ N 8 := hN.2.2.2.2.1
    obtain ⟨j, rfl⟩ : ∃ j, T = j + 1 := ⟨T - 1, by omega⟩
    have hj := h j (by omega)
    rw [sRun_s hj] at ho
    rw [sMv_last (by rw [sRun_t j (fun i hi => h i (by omega))]; omega)] at ho
    exact absurd ho (by decide)
/-! From the machine's ints to numbers. -/
theorem nz {n : Nat} (h : n < 2 ^ 31) : nI n = 0 ↔ n = 0 := by
  have := nI_eq (a := n) (b := 0) h (by decide)
  rwa [nI_0] at this
theorem n1 : (1 : Int32) = nI 1 := rfl
theorem n10 : (10 : Int32) = nI 10 := rfl
theorem n100 : (100 : Int32) = nI 100 := rfl
theorem n1000 : (1000 : Int32) = nI 1000 := rfl
theorem nif {c : Prop} [Decidable c] (a b : Nat) : (if c then nI a else nI b) = nI (if c then a else b) := by split <;> rfl
theorem sub_lt1 {p f : Nat} (hp : p < 2 ^ 30) (hf : f < 2 ^ 30) : (1 : Int32) < nI p - nI f ↔ f + 1 < p := by
  rw [Int32.lt_iff_toInt_lt, pk_sub_toInt hp hf, show (1 : Int32).toInt = 1 from rfl]
  omega
theorem sub_ge1 {p f : Nat} (hp : p < 2 ^ 30) (hf : f < 2 ^ 30) : nI p - nI f < (1 : Int32) ↔ p < f + 1 := by
  rw [Int32.lt_iff_toInt_lt, pk_sub_toInt hp hf, show (1 : Int32).toInt = 1 from rfl]
  omega
theorem kPri_s {r f p up : Nat} {a : Nat → Int32} (h1 : a 1 = nI r) (h2 : a 2 = nI f) (hf : f ≤ 200) (hp : p ≤ 10000) (hu : up < 2 ^ 31) : kPri a (nI p) (nI up) = nI (sPri r f p up) := by
  unfold kPri sPri
  rw [h1, h2]
  simp only [nz hu, sub_lt1 (p := p) (f := f) (by omega) (by omega), nI_add]
  split
  · split
    · rw [pk_sub (by omega)]
    · rfl
  · rfl
theorem kLev_s {F p : Nat} {a : Nat → Int32} (h0 : a 0 = nI F) (hF : 100 ≤ F) (hF' : F ≤ 1000) (hp : p ≤ 10000) : kLev a (nI p) = nI (sLev F p) := by
  unfold kLev sLev
  rw [h0, n100, if_pos ((nI_leI (by omega) (by omega)).mpr hF), pk_mul, pk_div (by omega) (by omega) (by omega)]
theorem kMin_s {x y : Nat} (hx : x < 2 ^ 31) (hy : y < 2 ^ 31) : kMin (nI x) (nI y) = nI (sMin x y) := by
  unfold kMin sMin
  simp only [nI_ltI hy hx, nif]
theorem kXor_s {u v : Nat} (hu : u < 2 ^ 31) (hv : v < 2 ^ 31) : kXor (nI u) (nI v) = nI (sXor u v) := by
  unfold kXor sXor
  simp only [nI_eq hu hv]
  split <;> rfl
/-- the cells that hold the note, an asset, a standing -/
def NtE (N : Nat → Nat) (nt : Nat → Int32) : Prop := nt 2 = nI (N 6) ∧ nt 3 = nI (N 7) ∧ nt 4 = nI (N 8) ∧ nt 5 = nI (N 9) ∧ nt 6 = nI (N 10) ∧ nt 7 = nI (N 11) ∧ nt 8 = nI (N 12) ∧ nt 9 = nI (N 13) ∧ nt 10 = nI (N 14)
def AsE (N : Nat → Nat) (o : Nat) (a : Nat → Int32) : Prop := a 0 = nI (N o) ∧ a 1 = nI (N (o + 1)) ∧ a 2 = nI (N (o + 2))
def StE (σ : Nat → Nat) (st : Nat → Int32) : Prop := st 0 = nI (σ 0) ∧ st 1 = nI (σ 1) ∧ st 2 = nI (σ 2) ∧ st 3 = nI (σ 3) ∧ st 4 = nI (σ 4) ∧ st 5 = nI (σ 5) ∧ st 6 = nI (σ 6) ∧ st 7 = nI (σ 7)
abbrev nF (σ : Nat → Nat) : Nat → Int32 := fun k => nI (σ k)
theorem x8f_n (a b c d e f g h : Nat) : x8f (nI a) (nI b) (nI c) (nI d) (nI e) (nI f) (nI g) (nI h) = nF (x8n a b c d e f g h) := by
  funext k
  match k with
  | 0 => rfl
  | 1 => rfl
  | 2 => rfl
  | 3 => rfl
  | 4 => rfl
  | 5 => rfl
  | 6 => rfl
  | _ + 7 => rfl
theorem kWl_s {N : Nat → Nat} {fa fb : Nat → Int32} {p q : Nat} (hN : Nok N) (ha : AsE N 0 fa) (hb : AsE N 3 fb) (hp : p ≤ 10000) (hq : q ≤ 10000) : kWl fa fb (nI p) (nI q) = nI (sMin (sLev (N 0) p) (sLev (N 3) q)) := by
  obtain ⟨⟨n0, n0', n1, n2, n3, n3', n4, n5⟩, -⟩ := hN
  unfold kWl
  rw [kLev_s ha.1 n0 n0' hp, kLev_s hb.1 n3 n3' hq, kMin_s]
  · have := sLev_b n0 hp; omega
  · have := sLev_b n3 hq; omega
/-- a move of the machine's standing is a move of the numbers -/
theorem kMv_s {N σ : Nat → Nat} {nt fa fb st : Nat → Int32} {up : Nat} (hN : Nok N) (hs : Sok σ) (hu : up ≤ 1) (hnt : NtE N nt) (ha : AsE N 0 fa) (hb : AsE N 3 fb) (hst : StE σ st) : kMv nt fa fb st (nI up) = nF (sMv N σ up) := by
  have hN' := hN
  obtain ⟨⟨n0, n0', n1', n2, n3, n3', n4, n5⟩, n6, n7, n7', n8, n8', n9, n10', n11, n12, n13, n14⟩ := hN
  obtain ⟨h0, h1, h1', h2, h2', h3, h4, h5, h6, h7⟩ := hs
  obtain ⟨e2, e3, e4, e5, e6, e7, e8, e9, e10⟩ := hnt
  obtain ⟨s0, s1, s2, s3, s4, s5, s6, s7⟩ := hst
  have b0 := @sPri_b (N 1) (N 2) (σ 1) up n1' h1
  have b1 := @sPri_b (N 4) (N 5) (σ 2) (sXor up (N 6)) n4 h2
  have q0 : kPri fa (st 1) (nI up) = nI (sP0 N σ up) := by rw [s1]; exact kPri_s ha.2.1 ha.2.2 n2 (by omega) (by omega)
  have qx : kXor (nI up) (nt 2) = nI (sXor up (N 6)) := by rw [e2]; exact kXor_s (by omega) (by omega)
  have q1 : kPri fb (st 2) (kXor (nI up) (nt 2)) = nI (sP1 N σ up) := by
    rw [s2, qx]
    refine kPri_s hb.2.1 hb.2.2 n5 (by omega) ?_
    unfold sXor; split <;> omega
  have qL : kWl fa fb (kPri fa (st 1) (nI up)) (kPri fb (st 2) (kXor (nI up) (nt 2))) = nI (sL N σ up) := by
    rw [q0, q1]
    exact kWl_s hN' ha hb (by unfold sP0; omega) (by unfold sP1; omega)
  have bL : sL N σ up ≤ 10000 := sMin_b (sLev_b n0 (by unfold sP0; omega))
  have qT : st 0 + 1 = nI (σ 0 + 1) := by rw [s0, nI_1]
  have qE : kLast nt (st 0 + 1) = nI (sLast N (σ 0 + 1)) := by
    unfold kLast sLast
    rw [qT, e4]
    simp only [nI_ltI (show σ 0 + 1 < 2 ^ 31 by omega) (show N 8 < 2 ^ 31 by omega)]
    split <;> rfl
  have bE : sLast N (σ 0 + 1) ≤ 1 := sLast_b
  have qK : kKn nt (nI (sL N σ up)) (nI (sLast N (σ 0 + 1))) (st 4) = nI (sK N σ up) := by
    unfold sK kKn sKn
    rw [e5, e9, s4]
    simp only [nI_leI (show N 9 < 2 ^ 31 by omega) (show sL N σ up < 2 ^ 31 by omega), nz (show sLast N (σ 0 + 1) < 2 ^ 31 by omega), nz (show N 13 < 2 ^ 31 by omega), n1, nif]
  have bK : sK N σ up ≤ 1 := sKn_b h4
  have qC : kCp nt (nI (sL N σ up)) (st 3) = nI (sCp N (sL N σ up) (σ 3)) := by
    unfold kCp sCp
    rw [e6, e10, e8, s3]
    simp only [nI_leI (show N 10 < 2 ^ 31 by omega) (show sL N σ up < 2 ^ 31 by omega), nz (show N 14 < 2 ^ 31 by omega), n1, nI_add, nif, pk_mul]
    split <;> rfl
  have qM : kMs nt (nI (sL N σ up)) (st 3) = nI (sMs N (sL N σ up) (σ 3)) := by
    unfold kMs sMs
    rw [e6, s3]
    simp only [nI_leI (show N 10 < 2 ^ 31 by omega) (show sL N σ up < 2 ^ 31 by omega), n1, nI_add]
    split <;> rfl
  have qO : kOv nt (nI (sL N σ up)) (nI (sLast N (σ 0 + 1))) (st 5) = nI (sOv N (sL N σ up) (sLast N (σ 0 + 1)) (σ 5)) := by
    unfold kOv sOv
    rw [e7, s5]
    simp only [nI_ltI (show sL N σ up < 2 ^ 31 by omega) (show N 11 < 2 ^ 31 by omega), nz (show sLast N (σ 0 + 1) < 2 ^ 31 by omega), n1, nif]
  have qP' : kEp (nI (sL N σ up)) (nI (sLast N (σ 0 + 1))) (nI (sK N σ up)) = nI (sEp (sL N σ up) (sLast N (σ 0 + 1)) (sK N σ up)) := by
    unfold kEp sEp
    simp only [nI_leI (show 100 < 2 ^ 31 by omega) (show sL N σ up < 2 ^ 31 by omega), nz (show sLast N (σ 0 + 1) < 2 ^ 31 by omega), nz (show sK N σ up < 2 ^ 31 by omega), n1000, n100, n10, pk_mul, nif]
  have qP : kPl nt (nI (sL N σ up)) (nI (sLast N (σ 0 + 1))) (nI (sK N σ up)) (nI (sCp N (sL N σ up) (σ 3))) = nI (sPay N σ up) := by
    unfold kPl sPay sPl
    rw [qP', e7]
    simp only [nI_ltI (show sL N σ up < 2 ^ 31 by omega) (show N 11 < 2 ^ 31 by omega), nz (show sLast N (σ 0 + 1) < 2 ^ 31 by omega), nI_add, nif]
  unfold kMv
  rw [qL, qE, qK, qC, qM, qO, qP, q0, q1, qT, s7, nI_add]
  exact x8f_n _ _ _ _ _ _ _ _
/-! The tree of moves: sums over all rows, and the tree's own way. -/
def sW (N : Nat → Nat) (up : Nat) : Nat := if up = 0 then 10 - N 7 else N 7
/-- a standing with nothing but its prices, missed periods, knock and time -/
def nrm (σ : Nat → Nat) : Nat → Nat := x8n (σ 0) (σ 1) (σ 2) (σ 3) (σ 4) 0 0 0
theorem nrm_nrm (σ : Nat → Nat) : nrm (nrm σ) = nrm σ := rfl
/-- two standings that go on alike -/
def Like (σ τ : Nat → Nat) : Prop := σ 0 = τ 0 ∧ σ 1 = τ 1 ∧ σ 2 = τ 2 ∧ σ 3 = τ 3 ∧ σ 4 = τ 4 ∧ σ 5 = τ 5
theorem nrm_like {σ : Nat → Nat} (h : σ 5 = 0) : Like σ (nrm σ) := ⟨rfl, rfl, rfl, rfl, rfl, h⟩
theorem Like.symm {σ τ : Nat → Nat} (h : Like σ τ) : Like τ σ := ⟨h.1.symm, h.2.1.symm, h.2.2.1.symm, h.2.2.2.1.symm, h.2.2.2.2.1.symm, h.2.2.2.2.2.symm⟩
theorem sMv_like {N σ τ : Nat → Nat} {up : Nat} (h : Like σ τ) : Like (sMv N σ up) (sMv N τ up) ∧ sPay N σ up = sPay N τ up := by
  obtain ⟨e0, e1, e2, e3, e4, e5⟩ := h
  have q0 : sP0 N σ up = sP0 N τ up := by unfold sP0; rw [e1]
  have q1 : sP1 N σ up = sP1 N τ up := by unfold sP1; rw [e2]
  have qL : sL N σ up = sL N τ up := by unfold sL; rw [q0, q1]
  have qK : sK N σ up = sK N τ up := by unfold sK; rw [qL, e0, e4]
  refine ⟨⟨?_, q0, q1, ?_, qK, ?_⟩, ?_⟩
  · show σ 0 + 1 = τ 0 + 1; rw [e0]
  · show sMs N (sL N σ up) (σ 3) = sMs N (sL N τ up) (τ 3); rw [qL, e3]
  · show sOv N (sL N σ up) (sLast N (σ 0 + 1)) (σ 5) = sOv N (sL N τ up) (sLast N (τ 0 + 1)) (τ 5); rw [qL, e0, e5]
  · unfold sPay; rw [qL, qK, e0, e3]
/-- what a row of n moves costs, from σ on, a cost c at each step -/
def sG (N : Nat → Nat) (c : (Nat → Nat) → Nat) : Nat → (Nat → Nat) → Nat → Nat
  | 0, _, _ => 0
  | n + 1, σ, r => if σ 5 = 0 then c (sMv N σ (r % 2)) + sG N c n (sMv N σ (r % 2)) (r / 2) else 0
/-- where a row of n moves ends -/
def sRow (N : Nat → Nat) : Nat → (Nat → Nat) → Nat → (Nat → Nat)
  | 0, σ, _ => σ
  | n + 1, σ, r => if σ 5 = 0 then sRow N n (sMv N σ (r % 2)) (r / 2) else σ
/-- the product of a row's weights -/
def sRW (N : Nat → Nat) : Nat → Nat → Nat
  | 0, _ => 1
  | n + 1, r => sW N (r % 2) * sRW N n (r / 2)
def sSum (f : Nat → Nat) : Nat → Nat
  | 0 => 0
  | n + 1 => sSum f n + f n
/-- the same sum, move by move -/
def sPhi (N : Nat → Nat) (c : (Nat → Nat) → Nat) : Nat → (Nat → Nat) → Nat
  | 0, _ => 0
  | n + 1, σ => sW N 1 * (10 ^ n * c (sMv N σ 1) + (if (sMv N σ 1) 5 = 0 then sPhi N c n (sMv N σ 1) else 0)) + sW N 0 * (10 ^ n * c (sMv N σ 0) + (if (sMv N σ 0) 5 = 0 then sPhi N c n (sMv N σ 0) else 0))
/-- a cost that sees what goes on, and the pay of the step -/
def Cok (N : Nat → Nat) (c : (Nat → Nat) → Nat) : Prop := ∀ (σ τ : Nat → Nat) (up : Nat), Like σ τ → c (sMv N σ up) = c (sMv N τ up)
theorem sSum_add (f g : Nat → Nat) : ∀ n, sSum (fun r => f r + g r) n = sSum f n + sSum g n := by
  intro n
  induction n with
  | zero => rfl
  | succ n ih => show sSum (fun r => f r + g r) n + (f n + g n) = sSum f n + f n + (sSum g n + g n); omega
theorem sSum_mul (k : Nat) (f : Nat → Nat) : ∀ n, sSum (fun r => k * f r) n = k * sSum f n := by
  intro n
  induction n with
  | zero => rfl
  | succ n ih => show sSum (fun r => k * f r) n + k * f n = k * (sSum f n + f n); rw [ih, Nat.mul_add]
theorem sSum_congr {f g : Nat → Nat} : ∀ n, (∀ r, r < n → f r = g r) → sSum f n = sSum g n := by
  intro n
  induction n with
  | zero => intro _; rfl
  | succ n ih => intro h; show sSum f n + f n = sSum g n + g n; rw [ih (fun r hr => h r (by omega)), h n (by omega)]
theorem sSum_two (f : Nat → Nat) : ∀ n, sSum f (2 * n) = sSum (fun r => f (2 * r)) n + sSum (fun r => f (2 * r + 1)) n := by
  intro n
  induction n with
  | zero => rfl
  | succ n ih =>
    rw [show 2 * (n + 1) = 2 * n + 1 + 1 by omega]
    show sSum f (2 * n) + f (2 * n) + f (2 * n + 1) = (sSum (fun r => f (2 * r)) n + f (2 * n)) + (sSum (fun r => f (2 * r + 1)) n + f (2 * n + 1))
    omega
theorem two_mod0 (r : Nat) : 2 * r % 2 = 0 := by omega
theorem two_div0 (r : Nat) : 2 * r / 2 = r := by omega
theorem two_mod1 (r : Nat) : (2 * r + 1) % 2 = 1 := by omega
theorem two_div1 (r : Nat) : (2 * r + 1) / 2 = r := by omega
theorem sW_10 {N : Nat → Nat} (hN : Nok N) : sW N 0 + sW N 1 = 10 := by
  have : N 7 ≤ 9 := hN.2.2.2.1
  show (if 0 = 0 then 10 - N 7 else N 7) + (if 1 = 0 then 10 - N 7 else N 7) = 10
  simp
  omega
theorem sRW_sum {N : Nat → Nat} (hN : Nok N) : ∀ n, sSum (sRW N n) (2 ^ n) = 10 ^ n := by
  intro n
  induction n with
  | zero => rfl
  | succ n ih =>
    rw [Nat.pow_succ, Nat.mul_comm, sSum_two]
    have h0 : sSum (fun r => sRW N (n + 1) (2 * r)) (2 ^ n) = sW N 0 * 10 ^ n := by
      rw [← ih, ← sSum_mul]
      refine sSum_congr _ (fun r _ => ?_)
      show sW N (2 * r % 2) * sRW N n (2 * r / 2) = _
      rw [two_mod0, two_div0]
    have h1 : sSum (fun r => sRW N (n + 1) (2 * r + 1)) (2 ^ n) = sW N 1 * 10 ^ n := by
      rw [← ih, ← sSum_mul]
      refine sSum_congr _ (fun r _ => ?_)
      show sW N ((2 * r + 1) % 2) * sRW N n ((2 * r + 1) / 2) = _
      rw [two_mod1, two_div1]
    rw [h0, h1, ← Nat.add_mul, sW_10 hN, Nat.pow_succ, Nat.mul_comm]
theorem sG_over {N : Nat → Nat} {c : (Nat → Nat) → Nat} {n r : Nat} {σ : Nat → Nat} (h : ¬ σ 5 = 0) : sG N c n σ r = 0 := by
  cases n with
  | zero => rfl
  | succ n => show (if σ 5 = 0 then _ else 0) = 0; rw [if_neg h]
/-- the sum over all rows is the sum move by move -/
theorem sG_sum {N : Nat → Nat} (hN : Nok N) (c : (Nat → Nat) → Nat) : ∀ n (σ : Nat → Nat), σ 5 = 0 → sSum (fun r => sRW N n r * sG N c n σ r) (2 ^ n) = sPhi N c n σ := by
  intro n
  induction n with
  | zero => intro σ _; rfl
  | succ n ih =>
    intro σ h5
    rw [Nat.pow_succ, Nat.mul_comm, sSum_two]
    have key : ∀ up, up = 0 ∨ up = 1 → sSum (fun r => sW N up * sRW N n r * (c (sMv N σ up) + sG N c n (sMv N σ up) r)) (2 ^ n) = sW N up * (10 ^ n * c (sMv N σ up) + (if (sMv N σ up) 5 = 0 then sPhi N c n (sMv N σ up) else 0)) := by
      intro up _
      have e1 : sSum (fun r => sW N up * sRW N n r * (c (sMv N σ up) + sG N c n (sMv N σ up) r)) (2 ^ n) = sSum (fun r => sW N up * (c (sMv N σ up) * sRW N n r + sRW N n r * sG N c n (sMv N σ up) r)) (2 ^ n) := by
        refine sSum_congr _ (fun r _ => ?_)
        rw [Nat.mul_assoc, Nat.mul_add (sRW N n r), Nat.mul_comm (sRW N n r) (c _)]
      rw [e1, sSum_mul, sSum_add, sSum_mul, sRW_sum hN, Nat.mul_comm (c _)]
      congr 2
      split
      · rename_i hq; exact ih _ hq
      · rename_i hq
        have : ∀ m, sSum (fun r => sRW N n r * sG N c n (sMv N σ up) r) m = 0 := by
          intro m
          induction m with
          | zero => rfl
          | succ m im => show sSum _ m + sRW N n m * sG N c n (sMv N σ up) m = 0; rw [im, sG_over hq]; rfl
        exact this _
    have h0 : sSum (fun r => sRW N (n + 1) (2 * r) * sG N c (n + 1) σ (2 * r)) (2 ^ n) = sSum (fun r => sW N 0 * sRW N n r * (c (sMv N σ 0) + sG N c n (sMv N σ 0) r)) (2 ^ n) := by
      refine sSum_congr _ (fun r _ => ?_)
      show sW N (2 * r % 2) * sRW N n (2 * r / 2) * (if σ 5 = 0 then c (sMv N σ (2 * r % 2)) + sG N c n (sMv N σ (2 * r % 2)) (2 * r / 2) else 0) = _
      rw [if_pos h5, two_mod0, two_div0]
    have h1 : sSum (fun r => sRW N (n + 1) (2 * r + 1) * sG N c (n + 1) σ (2 * r + 1)) (2 ^ n) = sSum (fun r => sW N 1 * sRW N n r * (c (sMv N σ 1) + sG N c n (sMv N σ 1) r)) (2 ^ n) := by
      refine sSum_congr _ (fun r _ => ?_)
      show sW N ((2 * r + 1) % 2) * sRW N n ((2 * r + 1) / 2) * (if σ 5 = 0 then c (sMv N σ ((2 * r + 1) % 2)) + sG N c n (sMv N σ ((2 * r + 1) % 2)) ((2 * r + 1) / 2) else 0) = _
      rw [if_pos h5, two_mod1, two_div1]
    rw [h0, h1, key 0 (Or.inl rfl), key 1 (Or.inr rfl), Nat.add_comm]
    rfl
theorem sPhi_like {N : Nat → Nat} {c : (Nat → Nat) → Nat} (hc : Cok N c) : ∀ n (σ τ : Nat → Nat), Like σ τ → sPhi N c n σ = sPhi N c n τ := by
  intro n
  induction n with
  | zero => intro σ τ _; rfl
  | succ n ih =>
    intro σ τ h
    have a := (sMv_like (N := N) (up := 1) h).1
    have b := (sMv_like (N := N) (up := 0) h).1
    show sW N 1 * (10 ^ n * c (sMv N σ 1) + (if (sMv N σ 1) 5 = 0 then sPhi N c n (sMv N σ 1) else 0)) + sW N 0 * (10 ^ n * c (sMv N σ 0) + (if (sMv N σ 0) 5 = 0 then sPhi N c n (sMv N σ 0) else 0)) = sW N 1 * (10 ^ n * c (sMv N τ 1) + (if (sMv N τ 1) 5 = 0 then sPhi N c n (sMv N τ 1) else 0)) + sW N 0 * (10 ^ n * c (sMv N τ 0) + (if (sMv N τ 0) 5 = 0 then sPhi N c n (sMv N τ 0) else 0))
    rw [hc σ τ 1 h, hc σ τ 0 h, a.2.2.2.2.2, b.2.2.2.2.2, ih _ _ a, ih _ _ b]
theorem sRow_like {N : Nat → Nat} : ∀ n (σ τ : Nat → Nat) (r : Nat), Like σ τ → Like (sRow N n σ r) (sRow N n τ r) := by
  intro n
  induction n with
  | zero => intro σ τ r h; exact h
  | succ n ih =>
    intro σ τ r h
    show Like (if σ 5 = 0 then sRow N n (sMv N σ (r % 2)) (r / 2) else σ) (if τ 5 = 0 then sRow N n (sMv N τ (r % 2)) (r / 2) else τ)
    rw [h.2.2.2.2.2]
    split
    · exact ih _ _ _ (sMv_like h).1
    · exact h
/-- three costs: what is paid, the knock at the end, an end in the period d -/
def cPay (τ : Nat → Nat) : Nat := τ 6
def cKno (τ : Nat → Nat) : Nat := if τ 5 = 0 then 0 else τ 4
def cEnd (d : Nat) (τ : Nat → Nat) : Nat := if τ 5 = 0 then 0 else if τ 0 = d then 1 else 0
theorem cPay_ok (N : Nat → Nat) : Cok N cPay := fun σ τ up h => (sMv_like h).2
theorem cKno_ok (N : Nat → Nat) : Cok N cKno := fun σ τ up h => by have a := (sMv_like (N := N) (up := up) h).1; unfold cKno; rw [a.2.2.2.2.2, a.2.2.2.2.1]
theorem cEnd_ok (N : Nat → Nat) (d : Nat) : Cok N (cEnd d) := fun σ τ up h => by have a := (sMv_like (N := N) (up := up) h).1; unfold cEnd; rw [a.2.2.2.2.2, a.1]
theorem sG_pay {N : Nat → Nat} : ∀ n (σ : Nat → Nat) (r : Nat), (sRow N n σ r) 7 = σ 7 + sG N cPay n σ r := by
  intro n
  induction n with
  | zero => intro σ r; rfl
  | succ n ih =>
    intro σ r
    show (if σ 5 = 0 then sRow N n (sMv N σ (r % 2)) (r / 2) else σ) 7 = σ 7 + (if σ 5 = 0 then cPay (sMv N σ (r % 2)) + sG N cPay n (sMv N σ (r % 2)) (r / 2) else 0)
    split
    · rw [ih]
      show (σ 7 + sPay N σ (r % 2)) + _ = σ 7 + (sPay N σ (r % 2) + _)
      omega
    · rfl
/-- a row through all the periods left ends the note -/
theorem sRow_end {N : Nat → Nat} : ∀ n (σ : Nat → Nat) (r : Nat), N 8 ≤ σ 0 + n → σ 5 = 0 → 0 < n → ¬ (sRow N n σ r) 5 = 0 := by
  intro n
  induction n with
  | zero => intro σ r _ _ h; exact absurd h (by decide)
  | succ n ih =>
    intro σ r h h5 _
    show ¬ (if σ 5 = 0 then sRow N n (sMv N σ (r % 2)) (r / 2) else σ) 5 = 0
    rw [if_pos h5]
    cases n with
    | zero =>
      show ¬ (sMv N σ (r % 2)) 5 = 0
      rw [sMv_last (by omega)]
      decide
    | succ n =>
      by_cases q : (sMv N σ (r % 2)) 5 = 0
      · exact ih _ _ (by show N 8 ≤ σ 0 + 1 + (n + 1); omega) q (by omega)
      · show ¬ (if (sMv N σ (r % 2)) 5 = 0 then sRow N n (sMv N (sMv N σ (r % 2)) (r / 2 % 2)) (r / 2 / 2) else sMv N σ (r % 2)) 5 = 0
        rw [if_neg q]; exact q
theorem sRow_over {N : Nat → Nat} {n r : Nat} {σ : Nat → Nat} (h : ¬ σ 5 = 0) : sRow N n σ r = σ := by
  cases n with
  | zero => rfl
  | succ n => show (if σ 5 = 0 then _ else σ) = σ; rw [if_neg h]
theorem sG_kno {N : Nat → Nat} : ∀ n (σ : Nat → Nat) (r : Nat), N 8 ≤ σ 0 + n → σ 5 = 0 → 0 < n → sG N cKno n σ r = (sRow N n σ r) 4 := by
  intro n
  induction n with
  | zero => intro σ r _ _ h; exact absurd h (by decide)
  | succ n ih =>
    intro σ r h h5 _
    show (if σ 5 = 0 then cKno (sMv N σ (r % 2)) + sG N cKno n (sMv N σ (r % 2)) (r / 2) else 0) = (if σ 5 = 0 then sRow N n (sMv N σ (r % 2)) (r / 2) else σ) 4
    rw [if_pos h5, if_pos h5]
    by_cases q : (sMv N σ (r % 2)) 5 = 0
    · have hn : 0 < n := by
        rcases Nat.eq_zero_or_pos n with e | e
        · subst e; rw [sMv_last (by omega)] at q; exact absurd q (by decide)
        · exact e
      rw [ih _ _ (by show N 8 ≤ σ 0 + 1 + n; omega) q hn]
      unfold cKno; rw [if_pos q, Nat.zero_add]
    · rw [sG_over q, sRow_over q]
      unfold cKno; rw [if_neg q]; rfl
theorem sG_end {N : Nat → Nat} (d : Nat) : ∀ n (σ : Nat → Nat) (r : Nat), N 8 ≤ σ 0 + n → σ 5 = 0 → 0 < n → sG N (cEnd d) n σ r = if (sRow N n σ r) 0 = d then 1 else 0 := by
  intro n
  induction n with
  | zero => intro σ r _ _ h; exact absurd h (by decide)
  | succ n ih =>
    intro σ r h h5 _
    show (if σ 5 = 0 then cEnd d (sMv N σ (r % 2)) + sG N (cEnd d) n (sMv N σ (r % 2)) (r / 2) else 0) = if (if σ 5 = 0 then sRow N n (sMv N σ (r % 2)) (r / 2) else σ) 0 = d then 1 else 0
    rw [if_pos h5, if_pos h5]
    by_cases q : (sMv N σ (r % 2)) 5 = 0
    · have hn : 0 < n := by
        rcases Nat.eq_zero_or_pos n with e | e
        · subst e; rw [sMv_last (by omega)] at q; exact absurd q (by decide)
        · exact e
      rw [ih _ _ (by show N 8 ≤ σ 0 + 1 + n; omega) q hn]
      unfold cEnd; rw [if_pos q, Nat.zero_add]
    · rw [sG_over q, sRow_over q]
      unfold cEnd; rw [if_neg q, Nat.add_zero]
/-- the least and the most of the rows -/
def sLo (N : Nat → Nat) : Nat → (Nat → Nat) → Nat
  | 0, _ => 0
  | n + 1, σ => min ((sMv N σ 1) 6 + (if (sMv N σ 1) 5 = 0 then sLo N n (sMv N σ 1) else 0)) ((sMv N σ 0) 6 + (if (sMv N σ 0) 5 = 0 then sLo N n (sMv N σ 0) else 0))
def sHi (N : Nat → Nat) : Nat → (Nat → Nat) → Nat
  | 0, _ => 0
  | n + 1, σ => max ((sMv N σ 1) 6 + (if (sMv N σ 1) 5 = 0 then sHi N n (sMv N σ 1) else 0)) ((sMv N σ 0) 6 + (if (sMv N σ 0) 5 = 0 then sHi N n (sMv N σ 0) else 0))
theorem sG_step {N : Nat → Nat} {c : (Nat → Nat) → Nat} {n r : Nat} {σ : Nat → Nat} (h : σ 5 = 0) : sG N c (n + 1) σ r = c (sMv N σ (r % 2)) + sG N c n (sMv N σ (r % 2)) (r / 2) := by
  show (if σ 5 = 0 then _ else 0) = _
  rw [if_pos h]
theorem mod2 (r : Nat) : r % 2 = 0 ∨ r % 2 = 1 := by omega
theorem sLo_le {N : Nat → Nat} : ∀ n (σ : Nat → Nat) (r : Nat), σ 5 = 0 → sLo N n σ ≤ sG N cPay n σ r := by
  intro n
  induction n with
  | zero => intro σ r _; exact Nat.le_refl 0
  | succ n ih =>
    intro σ r h5
    rw [sG_step h5]
    have key : ∀ up, (sMv N σ up) 6 + (if (sMv N σ up) 5 = 0 then sLo N n (sMv N σ up) else 0) ≤ cPay (sMv N σ up) + sG N cPay n (sMv N σ up) (r / 2) := by
      intro up
      refine Nat.add_le_add (Nat.le_refl _) ?_
      split
      · rename_i q; exact ih _ _ q
      · exact Nat.zero_le _
    rcases mod2 r with e | e
    · rw [e]; exact Nat.le_trans (Nat.min_le_right _ _) (key 0)
    · rw [e]; exact Nat.le_trans (Nat.min_le_left _ _) (key 1)
theorem sHi_ge {N : Nat → Nat} : ∀ n (σ : Nat → Nat) (r : Nat), σ 5 = 0 → sG N cPay n σ r ≤ sHi N n σ := by
  intro n
  induction n with
  | zero => intro σ r _; exact Nat.le_refl 0
  | succ n ih =>
    intro σ r h5
    rw [sG_step h5]
    have key : ∀ up, cPay (sMv N σ up) + sG N cPay n (sMv N σ up) (r / 2) ≤ (sMv N σ up) 6 + (if (sMv N σ up) 5 = 0 then sHi N n (sMv N σ up) else 0) := by
      intro up
      refine Nat.add_le_add (Nat.le_refl _) ?_
      split
      · rename_i q; exact ih _ _ q
      · rename_i q; rw [sG_over q]; exact Nat.le_refl 0
    rcases mod2 r with e | e
    · rw [e]; exact Nat.le_trans (key 0) (Nat.le_max_right _ _)
    · rw [e]; exact Nat.le_trans (key 1) (Nat.le_max_left _ _)
theorem sLo_at {N : Nat → Nat} : ∀ n (σ : Nat → Nat), σ 5 = 0 → ∃ r, r < 2 ^ n ∧ sG N cPay n σ r = sLo N n σ := by
  intro n
  induction n with
  | zero => intro σ _; exact ⟨0, by decide, rfl⟩
  | succ n ih =>
    intro σ h5
    have key : ∀ up, ∃ r, r < 2 ^ n ∧ sG N cPay n (sMv N σ up) r = (if (sMv N σ up) 5 = 0 then sLo N n (sMv N σ up) else 0) := by
      intro up
      by_cases q : (sMv N σ up) 5 = 0
      · obtain ⟨r, hr, e⟩ := ih _ q
        exact ⟨r, hr, by rw [e, if_pos q]⟩
      · exact ⟨0, Nat.pow_pos (by decide), by rw [sG_over q, if_neg q]⟩
    rcases Nat.le_total ((sMv N σ 1) 6 + (if (sMv N σ 1) 5 = 0 then sLo N n (sMv N σ 1) else 0)) ((sMv N σ 0) 6 + (if (sMv N σ 0) 5 = 0 then sLo N n (sMv N σ 0) else 0)) with q | q
    · obtain ⟨r, hr, e⟩ := key 1
      refine ⟨2 * r + 1, by rw [Nat.pow_succ]; omega, ?_⟩
      rw [sG_step h5, two_mod1, two_div1, e]
      exact (Nat.min_eq_left q).symm
    · obtain ⟨r, hr, e⟩ := key 0
      refine ⟨2 * r, by rw [Nat.pow_succ]; omega, ?_⟩
      rw [sG_step h5, two_mod0, two_div0, e]
      exact (Nat.min_eq_right q).symm
theorem sHi_at {N : Nat → Nat} : ∀ n (σ : Nat → Nat), σ 5 = 0 → ∃ r, r < 2 ^ n ∧ sG N cPay n σ r = sHi N n σ := by
  intro n
  induction n with
  | zero => intro σ _; exact ⟨0, by decide, rfl⟩
  | succ n ih =>
    intro σ h5
    have key : ∀ up, ∃ r, r < 2 ^ n ∧ sG N cPay n (sMv N σ up) r = (if (sMv N σ up) 5 = 0 then sHi N n (sMv N σ up) else 0) := by
      intro up
      by_cases q : (sMv N σ up) 5 = 0
      · obtain ⟨r, hr, e⟩ := ih _ q
        exact ⟨r, hr, by rw [e, if_pos q]⟩
      · exact ⟨0, Nat.pow_pos (by decide), by rw [sG_over q, if_neg q]⟩
    rcases Nat.le_total ((sMv N σ 0) 6 + (if (sMv N σ 0) 5 = 0 then sHi N n (sMv N σ 0) else 0)) ((sMv N σ 1) 6 + (if (sMv N σ 1) 5 = 0 then sHi N n (sMv N σ 1) else 0)) with q | q
    · obtain ⟨r, hr, e⟩ := key 1
      refine ⟨2 * r + 1, by rw [Nat.pow_succ]; omega, ?_⟩
      rw [sG_step h5, two_mod1, two_div1, e]
      exact (Nat.max_eq_left q).symm
    · obtain ⟨r, hr, e⟩ := key 0
      refine ⟨2 * r, by rw [Nat.pow_succ]; omega, ?_⟩
      rw [sG_step h5, two_mod0, two_div0, e]
      exact (Nat.max_eq_right q).symm
theorem sLo_like {N : Nat → Nat} : ∀ n (σ τ : Nat → Nat), Like σ τ → sLo N n σ = sLo N n τ ∧ sHi N n σ = sHi N n τ := by
  intro n
  induction n with
  | zero => intro σ τ _; exact ⟨rfl, rfl⟩
  | succ n ih =>
    intro σ τ h
    obtain ⟨a, a6⟩ := sMv_like (N := N) (up := 1) h
    obtain ⟨b, b6⟩ := sMv_like (N := N) (up := 0) h
    have a6 : (sMv N σ 1) 6 = (sMv N τ 1) 6 := a6
    have b6 : (sMv N σ 0) 6 = (sMv N τ 0) 6 := b6
    constructor
    · show min _ _ = min _ _
      rw [a6, b6, a.2.2.2.2.2, b.2.2.2.2.2, (ih _ _ a).1, (ih _ _ b).1]
    · show max _ _ = max _ _
      rw [a6, b6, a.2.2.2.2.2, b.2.2.2.2.2, (ih _ _ a).2, (ih _ _ b).2]
/-! Layers of unlike states. An entry e: 0 and 1 the prices, 2 missed, 3 knocked, 4 its weight, 5 and 6 the least and the most paid. -/
def sMax (x y : Nat) : Nat := if x < y then y else x
theorem sMin_eq (x y : Nat) : sMin x y = min x y := by unfold sMin; split <;> omega
theorem sMax_eq (x y : Nat) : sMax x y = max x y := by unfold sMax; split <;> omega
/-- alike: both prices, the missed periods and the knock -/
abbrev keq (e σ : Nat → Nat) : Prop := e 0 = σ 1 ∧ e 1 = σ 2 ∧ e 2 = σ 3 ∧ e 3 = σ 4
def eOf (σ : Nat → Nat) (w l m : Nat) : Nat → Nat := x8n (σ 1) (σ 2) (σ 3) (σ 4) w l m 0
def eMg (e : Nat → Nat) (w l m : Nat) : Nat → Nat := x8n (e 0) (e 1) (e 2) (e 3) (e 4 + w) (sMin (e 5) l) (sMax (e 6) m) 0
/-- the state of an entry, behind the period t -/
def eSt (t : Nat) (e : Nat → Nat) : Nat → Nat := x8n t (e 0) (e 1) (e 2) (e 3) 0 0 0
def sAdd : List (Nat → Nat) → (Nat → Nat) → Nat → Nat → Nat → List (Nat → Nat)
  | [], σ, w, l, m => [eOf σ w l m]
  | e :: E, σ, w, l, m => if keq e σ then eMg e w l m :: E else e :: sAdd E σ w l m
theorem sAdd_at {σ : Nat → Nat} {w l m : Nat} : ∀ (E : List (Nat → Nat)) (j : Nat) (e : Nat → Nat), E[j]? = some e → keq e σ → (∀ (i : Nat) (e' : Nat → Nat), i < j → E[i]? = some e' → ¬ keq e' σ) → sAdd E σ w l m = E.set j (eMg e w l m) := by
  intro E
  induction E with
  | nil => intro j e h; simp at h
  | cons a E ih =>
    intro j e h hk hn
    cases j with
    | zero =>
      have : a = e := by simpa using h
      subst this
      show (if keq a σ then eMg a w l m :: E else a :: sAdd E σ w l m) = _
      rw [if_pos hk]; rfl
    | succ j =>
      have ha : ¬ keq a σ := hn 0 a (by omega) rfl
      show (if keq a σ then eMg a w l m :: E else a :: sAdd E σ w l m) = a :: E.set j (eMg e w l m)
      rw [if_neg ha, ih j e (by simpa using h) hk (fun i e' hi he => hn (i + 1) e' (by omega) (by simpa using he))]
theorem sAdd_new {σ : Nat → Nat} {w l m : Nat} : ∀ (E : List (Nat → Nat)), (∀ (i : Nat) (e' : Nat → Nat), E[i]? = some e' → ¬ keq e' σ) → sAdd E σ w l m = E ++ [eOf σ w l m] := by
  intro E
  induction E with
  | nil => intro _; rfl
  | cons a E ih =>
    intro hn
    show (if keq a σ then eMg a w l m :: E else a :: sAdd E σ w l m) = a :: (E ++ [eOf σ w l m])
    rw [if_neg (hn 0 a rfl), ih (fun i e' he => hn (i + 1) e' (by simpa using he))]
theorem sAdd_len {σ : Nat → Nat} {w l m : Nat} : ∀ (E : List (Nat → Nat)), (sAdd E σ w l m).length ≤ E.length + 1 := by
  intro E
  induction E with
  | nil => exact Nat.le_refl 1
  | cons a E ih =>
    show (if keq a σ then eMg a w l m :: E else a :: sAdd E σ w l m).length ≤ E.length + 1 + 1
    split
    · show E.length + 1 ≤ E.length + 1 + 1; omega
    · show (sAdd E σ w l m).length + 1 ≤ E.length + 1 + 1; omega
/-- what holds of every entry -/
theorem sAdd_all {σ : Nat → Nat} {w l m : Nat} {P : (Nat → Nat) → Prop} (hnew : P (eOf σ w l m)) (hmg : ∀ e, P e → keq e σ → P (eMg e w l m)) : ∀ (E : List (Nat → Nat)), (∀ e ∈ E, P e) → ∀ e ∈ sAdd E σ w l m, P e := by
  intro E
  induction E with
  | nil => intro _ e he; rw [show sAdd [] σ w l m = [eOf σ w l m] from rfl, List.mem_singleton] at he; rw [he]; exact hnew
  | cons a E ih =>
    intro h e he
    rw [show sAdd (a :: E) σ w l m = (if keq a σ then eMg a w l m :: E else a :: sAdd E σ w l m) from rfl] at he
    split at he
    · rename_i q
      rcases List.mem_cons.mp he with r | r
      · rw [r]; exact hmg a (h a List.mem_cons_self) q
      · exact h e (List.mem_cons_of_mem _ r)
    · rcases List.mem_cons.mp he with r | r
      · rw [r]; exact h a List.mem_cons_self
      · exact ih (fun e he => h e (List.mem_cons_of_mem _ he)) e r
/-- what some entry's state is -/
theorem sAdd_ex {σ : Nat → Nat} {w l m : Nat} {P : (Nat → Nat) → Prop} (hP : ∀ e e' : Nat → Nat, e 0 = e' 0 → e 1 = e' 1 → e 2 = e' 2 → e 3 = e' 3 → (P e ↔ P e')) : ∀ (E : List (Nat → Nat)), (∃ e ∈ sAdd E σ w l m, P e) ↔ (∃ e ∈ E, P e) ∨ P (eOf σ w l m) := by
  intro E
  induction E with
  | nil =>
    constructor
    · rintro ⟨e, he, h⟩
      rw [show sAdd [] σ w l m = [eOf σ w l m] from rfl, List.mem_singleton] at he
      rw [he] at h; exact Or.inr h
    · rintro (⟨e, he, h⟩ | h)
      · cases he
      · exact ⟨_, List.mem_singleton.mpr rfl, h⟩
  | cons a E ih =>
    rw [show sAdd (a :: E) σ w l m = (if keq a σ then eMg a w l m :: E else a :: sAdd E σ w l m) from rfl]
    split
    · rename_i q
      have e1 : P (eMg a w l m) ↔ P a := hP _ _ rfl rfl rfl rfl
      have e2 : P (eOf σ w l m) ↔ P a := hP _ _ q.1.symm q.2.1.symm q.2.2.1.symm q.2.2.2.symm
      simp only [List.mem_cons, exists_eq_or_imp, e1, e2]
      constructor
      · rintro (h | h)
        · exact Or.inr h
        · exact Or.inl (Or.inr h)
      · rintro ((h | h) | h)
        · exact Or.inl h
        · exact Or.inr h
        · exact Or.inl h
    · simp only [List.mem_cons, exists_eq_or_imp, ih, or_assoc]
/-- unlike one another -/
def Unl : List (Nat → Nat) → Prop
  | [] => True
  | e :: E => (∀ e' ∈ E, ¬ (e 0 = e' 0 ∧ e 1 = e' 1 ∧ e 2 = e' 2 ∧ e 3 = e' 3)) ∧ Unl E
theorem sAdd_unl {σ : Nat → Nat} {w l m : Nat} : ∀ (E : List (Nat → Nat)), Unl E → Unl (sAdd E σ w l m) := by
  intro E
  induction E with
  | nil => intro _; exact ⟨fun e h => (by cases h), trivial⟩
  | cons a E ih =>
    intro h
    rw [show sAdd (a :: E) σ w l m = (if keq a σ then eMg a w l m :: E else a :: sAdd E σ w l m) from rfl]
    split
    · exact ⟨h.1, h.2⟩
    · rename_i q
      refine ⟨?_, ih h.2⟩
      refine sAdd_all (P := fun e' => ¬ (a 0 = e' 0 ∧ a 1 = e' 1 ∧ a 2 = e' 2 ∧ a 3 = e' 3)) q ?_ E h.1
      intro e he _
      exact he
def lS (f : (Nat → Nat) → Nat) : List (Nat → Nat) → Nat
  | [] => 0
  | e :: E => f e + lS f E
theorem sAdd_sum {σ : Nat → Nat} {w l m : Nat} {g : (Nat → Nat) → Nat} (hg : ∀ e e' : Nat → Nat, e 0 = e' 0 → e 1 = e' 1 → e 2 = e' 2 → e 3 = e' 3 → g e = g e') : ∀ (E : List (Nat → Nat)), lS (fun e => e 4 * g e) (sAdd E σ w l m) = lS (fun e => e 4 * g e) E + w * g (eOf σ w l m) := by
  intro E
  induction E with
  | nil => show w * g (eOf σ w l m) + 0 = 0 + w * g (eOf σ w l m); omega
  | cons a E ih =>
    rw [show sAdd (a :: E) σ w l m = (if keq a σ then eMg a w l m :: E else a :: sAdd E σ w l m) from rfl]
    split
    · rename_i q
      show (a 4 + w) * g (eMg a w l m) + lS (fun e => e 4 * g e) E = a 4 * g a + lS (fun e => e 4 * g e) E + w * g (eOf σ w l m)
      rw [hg (eMg a w l m) a rfl rfl rfl rfl, hg (eOf σ w l m) a q.1.symm q.2.1.symm q.2.2.1.symm q.2.2.2.symm, Nat.add_mul]
      omega
    · show a 4 * g a + lS (fun e => e 4 * g e) (sAdd E σ w l m) = a 4 * g a + lS (fun e => e 4 * g e) E + w * g (eOf σ w l m)
      rw [ih]; omega
/-- the least over the entries, B if there is none -/
def lMin (B : Nat) (f : (Nat → Nat) → Nat) : List (Nat → Nat) → Nat
  | [] => B
  | e :: E => min (f e) (lMin B f E)
def lMax (f : (Nat → Nat) → Nat) : List (Nat → Nat) → Nat
  | [] => 0
  | e :: E => max (f e) (lMax f E)
theorem sAdd_min {σ : Nat → Nat} {w l m B : Nat} {g : (Nat → Nat) → Nat} (hg : ∀ e e' : Nat → Nat, e 0 = e' 0 → e 1 = e' 1 → e 2 = e' 2 → e 3 = e' 3 → g e = g e') : ∀ (E : List (Nat → Nat)), lMin B (fun e => e 5 + g e) (sAdd E σ w l m) = min (lMin B (fun e => e 5 + g e) E) (l + g (eOf σ w l m)) := by
  intro E
  induction E with
  | nil => show min (l + g (eOf σ w l m)) B = min B (l + g (eOf σ w l m)); omega
  | cons a E ih =>
    rw [show sAdd (a :: E) σ w l m = (if keq a σ then eMg a w l m :: E else a :: sAdd E σ w l m) from rfl]
    split
    · rename_i q
      show min (sMin (a 5) l + g (eMg a w l m)) (lMin B (fun e => e 5 + g e) E) = min (min (a 5 + g a) (lMin B (fun e => e 5 + g e) E)) (l + g (eOf σ w l m))
      rw [hg (eMg a w l m) a rfl rfl rfl rfl, hg (eOf σ w l m) a q.1.symm q.2.1.symm q.2.2.1.symm q.2.2.2.symm, sMin_eq]
      omega
    · show min (a 5 + g a) (lMin B (fun e => e 5 + g e) (sAdd E σ w l m)) = min (min (a 5 + g a) (lMin B (fun e => e 5 + g e) E)) (l + g (eOf σ w l m))
      rw [ih]; omega
theorem sAdd_max {σ : Nat → Nat} {w l m : Nat} {g : (Nat → Nat) → Nat} (hg : ∀ e e' : Nat → Nat, e 0 = e' 0 → e 1 = e' 1 → e 2 = e' 2 → e 3 = e' 3 → g e = g e') : ∀ (E : List (Nat → Nat)), lMax (fun e => e 6 + g e) (sAdd E σ w l m) = max (lMax (fun e => e 6 + g e) E) (m + g (eOf σ w l m)) := by
  intro E
  induction E with
  | nil => show max (m + g (eOf σ w l m)) 0 = max 0 (m + g (eOf σ w l m)); omega
  | cons a E ih =>
    rw [show sAdd (a :: E) σ w l m = (if keq a σ then eMg a w l m :: E else a :: sAdd E σ w l m) from rfl]
    split
    · rename_i q
      show max (sMax (a 6) m + g (eMg a w l m)) (lMax (fun e => e 6 + g e) E) = max (max (a 6 + g a) (lMax (fun e => e 6 + g e) E)) (m + g (eOf σ w l m))
      rw [hg (eMg a w l m) a rfl rfl rfl rfl, hg (eOf σ w l m) a q.1.symm q.2.1.symm q.2.2.1.symm q.2.2.2.symm, sMax_eq]
      omega
    · show max (a 6 + g a) (lMax (fun e => e 6 + g e) (sAdd E σ w l m)) = max (max (a 6 + g a) (lMax (fun e => e 6 + g e) E)) (m + g (eOf σ w l m))
      rw [ih]; omega
/-! The tree. An account α: 0 the sum paid, 1 the sum knocked, 2 the least, 3 the most, 4 + d what ends in the period d. -/
def sT (N : Nat → Nat) (t : Nat) (e : Nat → Nat) (up : Nat) : Nat → Nat := sMv N (eSt (t - 1) e) up
def sWh (N : Nat → Nat) (t : Nat) (e : Nat → Nat) (up : Nat) : Nat := e 4 * sW N up * 10 ^ (N 8 - t)
def sAcc (N : Nat → Nat) (t : Nat) (e : Nat → Nat) (up : Nat) (α : Nat → Nat) : Nat → Nat := fun k => match k with
  | 0 => α 0 + sWh N t e up * (sT N t e up) 6
  | 1 => if (sT N t e up) 5 = 0 then α 1 else if (sT N t e up) 4 = 0 then α 1 else α 1 + sWh N t e up
  | 2 => if (sT N t e up) 5 = 0 then α 2 else sMin (α 2) (e 5 + (sT N t e up) 6)
  | 3 => if (sT N t e up) 5 = 0 then α 3 else sMax (α 3) (e 6 + (sT N t e up) 6)
  | d + 4 => if (sT N t e up) 5 = 0 then α (d + 4) else if d = t then α (d + 4) + sWh N t e up else α (d + 4)
def sF (N : Nat → Nat) (t : Nat) (e : Nat → Nat) (up : Nat) (F : List (Nat → Nat)) : List (Nat → Nat) :=
  if (sT N t e up) 5 = 0 ∨ t = N 8 then sAdd F (sT N t e up) (e 4 * sW N up) (e 5 + (sT N t e up) 6) (e 6 + (sT N t e up) 6) else F
def sGB (N : Nat → Nat) (t : Nat) (e : Nat → Nat) (up : Nat) (s : List (Nat → Nat) × (Nat → Nat)) : List (Nat → Nat) × (Nat → Nat) := (sF N t e up s.1, sAcc N t e up s.2)
def sGP (N : Nat → Nat) (t : Nat) (E : List (Nat → Nat)) (s : List (Nat → Nat) × (Nat → Nat)) : List (Nat → Nat) × (Nat → Nat) := E.foldl (fun s e => sGB N t e 0 (sGB N t e 1 s)) s
def sA0 : Nat → Nat := fun k => if k = 2 then 2147483647 else 0
def sGr (N : Nat → Nat) (σ : Nat → Nat) : Nat → List (Nat → Nat) × (Nat → Nat)
  | 0 => ([eOf σ 1 0 0], sA0)
  | n + 1 => sGP N (σ 0 + n + 1) (sGr N σ n).1 ([], (sGr N σ n).2)
/-- entries within the machine's reach, behind the period t -/
def Eok (t : Nat) (E : List (Nat → Nat)) : Prop := ∀ e ∈ E, Sok (eSt t e) ∧ e 5 ≤ 6000 * t ∧ e 6 ≤ 6000 * t
theorem sT_ok {N : Nat → Nat} {t : Nat} {e : Nat → Nat} {up : Nat} (hN : Nok N) (ht : 1 ≤ t) (ht8 : t ≤ N 8) (he : Sok (eSt (t - 1) e)) : Sok (sT N t e up) ∧ (sT N t e up) 0 = t := by
  have h8 : N 8 ≤ 8 := hN.2.2.2.2.2.1
  refine ⟨sMv_ok hN he (by show t - 1 < 8; omega), ?_⟩
  show t - 1 + 1 = t
  omega
theorem sF_ok {N : Nat → Nat} {t : Nat} {e : Nat → Nat} {up : Nat} {F : List (Nat → Nat)} (hN : Nok N) (ht : 1 ≤ t) (ht8 : t ≤ N 8) (he : Sok (eSt (t - 1) e) ∧ e 5 ≤ 6000 * (t - 1) ∧ e 6 ≤ 6000 * (t - 1)) (hF : Eok t F) : Eok t (sF N t e up F) := by
  obtain ⟨hs, h0⟩ := sT_ok (up := up) hN ht ht8 he.1
  have h6 : (sT N t e up) 6 ≤ 6000 := hs.2.2.2.2.2.2.2.2.1
  unfold sF
  split
  · refine sAdd_all ?_ ?_ F hF
    · refine ⟨?_, ?_, ?_⟩
      · obtain ⟨a0, a1, a2, a3, a4, a5, a6, -, -, -⟩ := hs
        rw [h0] at a0 a2 a4 a5
        exact ⟨a0, a1, a2, a3, a4, a5, a6, Nat.zero_le _, Nat.zero_le _, Nat.zero_le _⟩
      · show e 5 + (sT N t e up) 6 ≤ 6000 * t; omega
      · show e 6 + (sT N t e up) 6 ≤ 6000 * t; omega
    · rintro a ⟨b1, b2, b3⟩ -
      refine ⟨b1, ?_, ?_⟩
      · show sMin (a 5) _ ≤ _; rw [sMin_eq]; omega
      · show sMax (a 6) _ ≤ _; rw [sMax_eq]; omega
  · exact hF
theorem sF_len {N : Nat → Nat} {t : Nat} {e : Nat → Nat} {up : Nat} {F : List (Nat → Nat)} : (sF N t e up F).length ≤ F.length + 1 := by
  unfold sF
  split
  · exact sAdd_len F
  · omega
theorem sF_unl {N : Nat → Nat} {t : Nat} {e : Nat → Nat} {up : Nat} {F : List (Nat → Nat)} (h : Unl F) : Unl (sF N t e up F) := by
  unfold sF
  split
  · exact sAdd_unl F h
  · exact h
theorem sGP_ok {N : Nat → Nat} {t : Nat} (hN : Nok N) (ht : 1 ≤ t) (ht8 : t ≤ N 8) : ∀ (E : List (Nat → Nat)) (s : List (Nat → Nat) × (Nat → Nat)), Eok (t - 1) E → Eok t s.1 → Unl s.1 → Eok t (sGP N t E s).1 ∧ (sGP N t E s).1.length ≤ s.1.length + 2 * E.length ∧ Unl (sGP N t E s).1 := by
  intro E
  induction E with
  | nil => intro s _ h u; exact ⟨h, Nat.le_refl _, u⟩
  | cons e E ih =>
    intro s hE hs hu
    have he := hE e List.mem_cons_self
    have a := sF_ok (up := 1) hN ht ht8 he hs
    have b := sF_ok (up := 0) hN ht ht8 he a
    obtain ⟨c1, c2, c3⟩ := ih (sGB N t e 0 (sGB N t e 1 s)) (fun x hx => hE x (List.mem_cons_of_mem _ hx)) b (sF_unl (sF_unl hu))
    refine ⟨c1, Nat.le_trans c2 ?_, c3⟩
    have l1 : (sF N t e 1 s.1).length ≤ s.1.length + 1 := sF_len
    have l2 : (sF N t e 0 (sF N t e 1 s.1)).length ≤ (sF N t e 1 s.1).length + 1 := sF_len
    show (sF N t e 0 (sF N t e 1 s.1)).length + 2 * E.length ≤ s.1.length + 2 * (E.length + 1)
    omega
theorem sGr_ok {N σ : Nat → Nat} (hN : Nok N) (hs : Sok σ) : ∀ n, σ 0 + n ≤ N 8 → Eok (σ 0 + n) (sGr N σ n).1 ∧ (sGr N σ n).1.length ≤ 2 ^ n ∧ Unl (sGr N σ n).1 := by
  intro n
  induction n with
  | zero =>
    intro _
    refine ⟨?_, Nat.le_refl _, ⟨fun e h => (by cases h), trivial⟩⟩
    intro e he
    rw [show (sGr N σ 0).1 = [eOf σ 1 0 0] from rfl, List.mem_singleton] at he
    rw [he]
    obtain ⟨a0, a1, a2, a3, a4, a5, a6, -, -, -⟩ := hs
    exact ⟨⟨a0, a1, a2, a3, a4, a5, a6, Nat.zero_le _, Nat.zero_le _, Nat.zero_le _⟩, Nat.zero_le _, Nat.zero_le _⟩
  | succ n ih =>
    intro h
    obtain ⟨a, b, c⟩ := ih (by omega)
    obtain ⟨d, e, f⟩ := sGP_ok (t := σ 0 + n + 1) hN (by omega) (by omega) (sGr N σ n).1 ([], (sGr N σ n).2) a (fun x hx => by cases hx) trivial
    refine ⟨d, Nat.le_trans e ?_, f⟩
    rw [Nat.pow_succ]
    show 0 + 2 * (sGr N σ n).1.length ≤ _
    omega
theorem eOf_like {τ : Nat → Nat} {t w l m : Nat} (h5 : τ 5 = 0) (h0 : τ 0 = t) : Like (eSt t (eOf τ w l m)) τ := ⟨h0.symm, rfl, rfl, rfl, rfl, h5.symm⟩
/-- one branch, for an account that grows by whole weights times a cost -/
theorem sGB_sum {N : Nat → Nat} {c : (Nat → Nat) → Nat} {v : (Nat → Nat) → Nat} {t : Nat} {e : Nat → Nat} {up : Nat} (hN : Nok N) (hc : Cok N c) (hv : ∀ α, v (sAcc N t e up α) = v α + sWh N t e up * c (sT N t e up)) (ht : 1 ≤ t) (ht8 : t ≤ N 8) (he : Sok (eSt (t - 1) e)) (s : List (Nat → Nat) × (Nat → Nat)) :
    v (sGB N t e up s).2 + lS (fun e => e 4 * sPhi N c (N 8 - t) (eSt t e)) (sGB N t e up s).1 = v s.2 + lS (fun e => e 4 * sPhi N c (N 8 - t) (eSt t e)) s.1 + e 4 * (sW N up * (10 ^ (N 8 - t) * c (sT N t e up) + (if (sT N t e up) 5 = 0 then sPhi N c (N 8 - t) (sT N t e up) else 0))) := by
  show v (sAcc N t e up s.2) + lS (fun e => e 4 * sPhi N c (N 8 - t) (eSt t e)) (sF N t e up s.1) = _
  rw [hv]
  have hx : sWh N t e up * c (sT N t e up) = e 4 * (sW N up * (10 ^ (N 8 - t) * c (sT N t e up))) := by unfold sWh; simp only [Nat.mul_assoc]
  obtain ⟨-, h0⟩ := sT_ok (up := up) hN ht ht8 he
  unfold sF
  rw [hx]
  by_cases q : (sT N t e up) 5 = 0
  · rw [if_pos (Or.inl q), if_pos q, sAdd_sum (g := fun e => sPhi N c (N 8 - t) (eSt t e)) (fun a b h0 h1 h2 h3 => by show sPhi N c (N 8 - t) (eSt t a) = sPhi N c (N 8 - t) (eSt t b); unfold eSt; rw [h0, h1, h2, h3])]
    show _ + (_ + e 4 * sW N up * sPhi N c (N 8 - t) (eSt t (eOf (sT N t e up) (e 4 * sW N up) (e 5 + (sT N t e up) 6) (e 6 + (sT N t e up) 6)))) = _
    rw [sPhi_like hc _ _ _ (eOf_like q h0), Nat.mul_assoc (e 4) (sW N up) (sPhi N c (N 8 - t) (sT N t e up))]
    simp only [Nat.mul_add]
    omega
  · rw [if_neg q]
    by_cases q2 : t = N 8
    · rw [if_pos (Or.inr q2), sAdd_sum (g := fun e => sPhi N c (N 8 - t) (eSt t e)) (fun a b h0 h1 h2 h3 => by show sPhi N c (N 8 - t) (eSt t a) = sPhi N c (N 8 - t) (eSt t b); unfold eSt; rw [h0, h1, h2, h3])]
      have z : N 8 - t = 0 := by omega
      show _ + (_ + e 4 * sW N up * sPhi N c (N 8 - t) (eSt t (eOf (sT N t e up) (e 4 * sW N up) (e 5 + (sT N t e up) 6) (e 6 + (sT N t e up) 6)))) = _
      have z2 : ∀ x, sPhi N c (N 8 - t) x = 0 := fun x => by rw [z]; rfl
      rw [z2 (eSt t _), Nat.mul_zero, Nat.add_zero, Nat.add_zero]
      omega
    · rw [if_neg (by intro h; rcases h with h | h; exact q h; exact q2 h), Nat.add_zero]
      omega
theorem sGP_sum {N : Nat → Nat} {c : (Nat → Nat) → Nat} {v : (Nat → Nat) → Nat} {t : Nat} (hN : Nok N) (hc : Cok N c) (ht : 1 ≤ t) (ht8 : t ≤ N 8) (hv : ∀ e up α, up ≤ 1 → Sok (eSt (t - 1) e) → v (sAcc N t e up α) = v α + sWh N t e up * c (sT N t e up)) : ∀ (E : List (Nat → Nat)) (s : List (Nat → Nat) × (Nat → Nat)), Eok (t - 1) E →
    v (sGP N t E s).2 + lS (fun e => e 4 * sPhi N c (N 8 - t) (eSt t e)) (sGP N t E s).1 = v s.2 + lS (fun e => e 4 * sPhi N c (N 8 - t) (eSt t e)) s.1 + lS (fun e => e 4 * sPhi N c (N 8 - (t - 1)) (eSt (t - 1) e)) E := by
  intro E
  induction E with
  | nil => intro s _; rfl
  | cons e E ih =>
    intro s hE
    have he := (hE e List.mem_cons_self).1
    have a := sGB_sum (up := 1) hN hc (fun α => hv e 1 α (by omega) he) ht ht8 he s
    have b := sGB_sum (up := 0) hN hc (fun α => hv e 0 α (by omega) he) ht ht8 he (sGB N t e 1 s)
    have g := ih (sGB N t e 0 (sGB N t e 1 s)) (fun x hx => hE x (List.mem_cons_of_mem _ hx))
    have z : N 8 - (t - 1) = N 8 - t + 1 := by omega
    have w : sPhi N c (N 8 - (t - 1)) (eSt (t - 1) e) = sW N 1 * (10 ^ (N 8 - t) * c (sT N t e 1) + (if (sT N t e 1) 5 = 0 then sPhi N c (N 8 - t) (sT N t e 1) else 0)) + sW N 0 * (10 ^ (N 8 - t) * c (sT N t e 0) + (if (sT N t e 0) 5 = 0 then sPhi N c (N 8 - t) (sT N t e 0) else 0)) := by rw [z]; rfl
    show v (sGP N t E (sGB N t e 0 (sGB N t e 1 s))).2 + lS _ (sGP N t E (sGB N t e 0 (sGB N t e 1 s))).1 = v s.2 + lS _ s.1 + (e 4 * sPhi N c (N 8 - (t - 1)) (eSt (t - 1) e) + lS _ E)
    rw [g, b, a, w, Nat.mul_add (e 4)]
    omega
theorem sGr_sum {N σ : Nat → Nat} {c : (Nat → Nat) → Nat} {v : (Nat → Nat) → Nat} (hN : Nok N) (hs : Sok σ) (h5 : σ 5 = 0) (hc : Cok N c) (hv0 : v sA0 = 0) (hv : ∀ t e up α, 1 ≤ t → t ≤ N 8 → up ≤ 1 → Sok (eSt (t - 1) e) → v (sAcc N t e up α) = v α + sWh N t e up * c (sT N t e up)) : ∀ n, σ 0 + n ≤ N 8 →
    v (sGr N σ n).2 + lS (fun e => e 4 * sPhi N c (N 8 - (σ 0 + n)) (eSt (σ 0 + n) e)) (sGr N σ n).1 = sPhi N c (N 8 - σ 0) σ := by
  intro n
  induction n with
  | zero =>
    intro _
    show v sA0 + (1 * sPhi N c (N 8 - σ 0) (eSt (σ 0) (eOf σ 1 0 0)) + 0) = _
    rw [hv0, sPhi_like hc _ _ _ (eOf_like h5 rfl)]
    omega
  | succ n ih =>
    intro h
    have a := ih (by omega)
    have b := sGP_sum (c := c) (v := v) (t := σ 0 + n + 1) hN hc (by omega) (by omega) (fun e up α h1 h2 => hv _ e up α (by omega) (by omega) h1 h2) (sGr N σ n).1 ([], (sGr N σ n).2) (sGr_ok hN hs n (by omega)).1
    show v (sGP N (σ 0 + n + 1) (sGr N σ n).1 ([], (sGr N σ n).2)).2 + lS _ (sGP N (σ 0 + n + 1) (sGr N σ n).1 ([], (sGr N σ n).2)).1 = _
    rw [← a]
    refine Eq.trans b ?_
    show v (sGr N σ n).2 + 0 + lS _ (sGr N σ n).1 = _
    rw [Nat.add_zero]
    rfl
theorem lS_zero {f : (Nat → Nat) → Nat} (h : ∀ e, f e = 0) : ∀ E, lS f E = 0 := by
  intro E
  induction E with
  | nil => rfl
  | cons e E ih => show f e + lS f E = 0; rw [h, ih]
/-- the sums that the tree finds -/
theorem sTree_sum {N σ : Nat → Nat} {c : (Nat → Nat) → Nat} {v : (Nat → Nat) → Nat} (hN : Nok N) (hs : Sok σ) (h5 : σ 5 = 0) (h8 : σ 0 ≤ N 8) (hc : Cok N c) (hv0 : v sA0 = 0) (hv : ∀ t e up α, 1 ≤ t → t ≤ N 8 → up ≤ 1 → Sok (eSt (t - 1) e) → v (sAcc N t e up α) = v α + sWh N t e up * c (sT N t e up)) : v (sGr N σ (N 8 - σ 0)).2 = sPhi N c (N 8 - σ 0) σ := by
  have a := sGr_sum hN hs h5 hc hv0 hv (N 8 - σ 0) (by omega)
  rw [lS_zero (fun e => by rw [show N 8 - (σ 0 + (N 8 - σ 0)) = 0 by omega]; rfl), Nat.add_zero] at a
  exact a
theorem sTree_pay {N σ : Nat → Nat} (hN : Nok N) (hs : Sok σ) (h5 : σ 5 = 0) (h8 : σ 0 ≤ N 8) : (sGr N σ (N 8 - σ 0)).2 0 = sPhi N cPay (N 8 - σ 0) σ :=
  sTree_sum (v := fun α => α 0) hN hs h5 h8 (cPay_ok N) rfl (fun t e up α _ _ _ _ => rfl)
theorem sTree_kno {N σ : Nat → Nat} (hN : Nok N) (hs : Sok σ) (h5 : σ 5 = 0) (h8 : σ 0 ≤ N 8) : (sGr N σ (N 8 - σ 0)).2 1 = sPhi N cKno (N 8 - σ 0) σ := by
  refine sTree_sum (v := fun α => α 1) hN hs h5 h8 (cKno_ok N) rfl (fun t e up α h1 h2 _ he => ?_)
  have h4 : (sT N t e up) 4 ≤ 1 := (sT_ok (up := up) hN h1 h2 he).1.2.2.2.2.2.2.1
  show (if (sT N t e up) 5 = 0 then α 1 else if (sT N t e up) 4 = 0 then α 1 else α 1 + sWh N t e up) = α 1 + sWh N t e up * (if (sT N t e up) 5 = 0 then 0 else (sT N t e up) 4)
  split
  · rfl
  · split
    · rename_i q; rw [q]; rfl
    · rename_i q; rw [show (sT N t e up) 4 = 1 by omega, Nat.mul_one]
theorem sTree_end {N σ : Nat → Nat} (d : Nat) (hN : Nok N) (hs : Sok σ) (h5 : σ 5 = 0) (h8 : σ 0 ≤ N 8) : (sGr N σ (N 8 - σ 0)).2 (d + 4) = sPhi N (cEnd d) (N 8 - σ 0) σ := by
  refine sTree_sum (v := fun α => α (d + 4)) hN hs h5 h8 (cEnd_ok N d) (by show (if d + 4 = 2 then 2147483647 else 0) = 0; rw [if_neg (by omega)]) (fun t e up α h1 h2 _ he => ?_)
  have h0 := (sT_ok (up := up) hN h1 h2 he).2
  show (if (sT N t e up) 5 = 0 then α (d + 4) else if d = t then α (d + 4) + sWh N t e up else α (d + 4)) = α (d + 4) + sWh N t e up * (if (sT N t e up) 5 = 0 then 0 else if (sT N t e up) 0 = d then 1 else 0)
  rw [h0]
  split
  · rfl
  · by_cases q : d = t
    · rw [if_pos q, if_pos q.symm, Nat.mul_one]
    · rw [if_neg q, if_neg (fun h => q h.symm)]; rfl
/-! The least, the most and the unlike states that the tree finds. -/
def sBig : Nat := 2147483647
def gLo (N : Nat → Nat) (n : Nat) (σ : Nat → Nat) : Nat := if n = 0 then sBig else sLo N n σ
def mLo (N : Nat → Nat) (t : Nat) (s : List (Nat → Nat) × (Nat → Nat)) : Nat := min (s.2 2) (lMin sBig (fun e => e 5 + gLo N (N 8 - t) (eSt t e)) s.1)
def mHi (N : Nat → Nat) (t : Nat) (s : List (Nat → Nat) × (Nat → Nat)) : Nat := max (s.2 3) (lMax (fun e => e 6 + sHi N (N 8 - t) (eSt t e)) s.1)
theorem lMin_le {B : Nat} {f : (Nat → Nat) → Nat} : ∀ E, lMin B f E ≤ B := by
  intro E
  induction E with
  | nil => exact Nat.le_refl B
  | cons e E ih => show min (f e) (lMin B f E) ≤ B; omega
theorem eSt_c {t : Nat} {a b : Nat → Nat} (h0 : a 0 = b 0) (h1 : a 1 = b 1) (h2 : a 2 = b 2) (h3 : a 3 = b 3) : eSt t a = eSt t b := by unfold eSt; rw [h0, h1, h2, h3]
theorem sGB_lo {N : Nat → Nat} {t : Nat} {e : Nat → Nat} {up : Nat} (hN : Nok N) (ht : 1 ≤ t) (ht8 : t ≤ N 8) (he : Sok (eSt (t - 1) e)) (s : List (Nat → Nat) × (Nat → Nat)) :
    mLo N t (sGB N t e up s) = min (mLo N t s) (e 5 + ((sT N t e up) 6 + (if (sT N t e up) 5 = 0 then gLo N (N 8 - t) (sT N t e up) else 0))) := by
  obtain ⟨-, h0⟩ := sT_ok (up := up) hN ht ht8 he
  have hg : ∀ a b : Nat → Nat, a 0 = b 0 → a 1 = b 1 → a 2 = b 2 → a 3 = b 3 → gLo N (N 8 - t) (eSt t a) = gLo N (N 8 - t) (eSt t b) := fun a b h0 h1 h2 h3 => by rw [eSt_c h0 h1 h2 h3]
  show min (if (sT N t e up) 5 = 0 then s.2 2 else sMin (s.2 2) (e 5 + (sT N t e up) 6)) (lMin sBig (fun e => e 5 + gLo N (N 8 - t) (eSt t e)) (sF N t e up s.1)) = min (min (s.2 2) (lMin sBig (fun e => e 5 + gLo N (N 8 - t) (eSt t e)) s.1)) _
  unfold sF
  by_cases q : (sT N t e up) 5 = 0
  · rw [if_pos q, if_pos (Or.inl q), if_pos q, sAdd_min hg]
    have z : gLo N (N 8 - t) (eSt t (eOf (sT N t e up) (e 4 * sW N up) (e 5 + (sT N t e up) 6) (e 6 + (sT N t e up) 6))) = gLo N (N 8 - t) (sT N t e up) := by
      unfold gLo
      split
      · rfl
      · exact (sLo_like _ _ _ (eOf_like q h0)).1
    rw [z]
    omega
  · rw [if_neg q, if_neg q, sMin_eq]
    split
    · rw [sAdd_min hg]
      omega
    · omega
theorem sGP_lo {N : Nat → Nat} {t : Nat} (hN : Nok N) (ht : 1 ≤ t) (ht8 : t ≤ N 8) : ∀ (E : List (Nat → Nat)) (s : List (Nat → Nat) × (Nat → Nat)), Eok (t - 1) E → s.2 2 ≤ sBig →
    mLo N t (sGP N t E s) = min (mLo N t s) (lMin sBig (fun e => e 5 + gLo N (N 8 - (t - 1)) (eSt (t - 1) e)) E) ∧ (sGP N t E s).2 2 ≤ sBig := by
  intro E
  induction E with
  | nil => intro s _ h; refine ⟨?_, h⟩; show mLo N t s = min (mLo N t s) sBig; unfold mLo; omega
  | cons e E ih =>
    intro s hE h
    have he := (hE e List.mem_cons_self).1
    have a := sGB_lo (up := 1) hN ht ht8 he s
    have b := sGB_lo (up := 0) hN ht ht8 he (sGB N t e 1 s)
    have h1 : (sGB N t e 1 s).2 2 ≤ sBig := by
      show (if (sT N t e 1) 5 = 0 then s.2 2 else sMin (s.2 2) (e 5 + (sT N t e 1) 6)) ≤ sBig
      rw [sMin_eq]; split <;> omega
    have h2 : (sGB N t e 0 (sGB N t e 1 s)).2 2 ≤ sBig := by
      show (if (sT N t e 0) 5 = 0 then (sGB N t e 1 s).2 2 else sMin ((sGB N t e 1 s).2 2) (e 5 + (sT N t e 0) 6)) ≤ sBig
      rw [sMin_eq]; split <;> omega
    obtain ⟨g, g2⟩ := ih (sGB N t e 0 (sGB N t e 1 s)) (fun x hx => hE x (List.mem_cons_of_mem _ hx)) h2
    refine ⟨?_, g2⟩
    show mLo N t (sGP N t E (sGB N t e 0 (sGB N t e 1 s))) = min (mLo N t s) (min (e 5 + gLo N (N 8 - (t - 1)) (eSt (t - 1) e)) (lMin sBig (fun e => e 5 + gLo N (N 8 - (t - 1)) (eSt (t - 1) e)) E))
    rw [g, b, a]
    have z : N 8 - (t - 1) = N 8 - t + 1 := by omega
    have key : ∀ up, (if (sT N t e up) 5 = 0 then gLo N (N 8 - t) (sT N t e up) else 0) = (if (sT N t e up) 5 = 0 then sLo N (N 8 - t) (sT N t e up) else 0) := by
      intro up
      split
      · rename_i q
        unfold gLo
        rw [if_neg]
        intro z0
        have : (sT N t e up) 5 = 1 := sMv_last (by show N 8 ≤ t - 1 + 1; omega)
        omega
      · rfl
    have w : gLo N (N 8 - (t - 1)) (eSt (t - 1) e) = min ((sT N t e 1) 6 + (if (sT N t e 1) 5 = 0 then sLo N (N 8 - t) (sT N t e 1) else 0)) ((sT N t e 0) 6 + (if (sT N t e 0) 5 = 0 then sLo N (N 8 - t) (sT N t e 0) else 0)) := by
      unfold gLo; rw [if_neg (by omega), z]; rfl
    rw [w, key 1, key 0]
    omega
theorem sGr_lo {N σ : Nat → Nat} (hN : Nok N) (hs : Sok σ) (h5 : σ 5 = 0) : ∀ n, σ 0 + n ≤ N 8 → mLo N (σ 0 + n) (sGr N σ n) = min sBig (gLo N (N 8 - σ 0) σ) ∧ (sGr N σ n).2 2 ≤ sBig := by
  intro n
  induction n with
  | zero =>
    intro _
    refine ⟨?_, Nat.le_refl _⟩
    show min sBig (min (0 + gLo N (N 8 - σ 0) (eSt (σ 0) (eOf σ 1 0 0))) sBig) = _
    have z : gLo N (N 8 - σ 0) (eSt (σ 0) (eOf σ 1 0 0)) = gLo N (N 8 - σ 0) σ := by
      unfold gLo
      split
      · rfl
      · exact (sLo_like _ _ _ (eOf_like h5 rfl)).1
    rw [z]
    omega
  | succ n ih =>
    intro h
    obtain ⟨a, a2⟩ := ih (by omega)
    obtain ⟨b, b2⟩ := sGP_lo (t := σ 0 + n + 1) hN (by omega) (by omega) (sGr N σ n).1 ([], (sGr N σ n).2) (sGr_ok hN hs n (by omega)).1 a2
    refine ⟨?_, b2⟩
    refine Eq.trans b (Eq.trans ?_ a)
    have c := @lMin_le sBig (fun e => e 5 + gLo N (N 8 - (σ 0 + n)) (eSt (σ 0 + n) e)) (sGr N σ n).1
    show min (min ((sGr N σ n).2 2) sBig) (lMin sBig (fun e => e 5 + gLo N (N 8 - (σ 0 + n)) (eSt (σ 0 + n) e)) (sGr N σ n).1) = min ((sGr N σ n).2 2) (lMin sBig (fun e => e 5 + gLo N (N 8 - (σ 0 + n)) (eSt (σ 0 + n) e)) (sGr N σ n).1)
    omega
theorem sG_b {N : Nat → Nat} (hN : Nok N) : ∀ n (σ : Nat → Nat) (r : Nat), Sok σ → σ 0 + n ≤ 8 → sG N cPay n σ r ≤ 6000 * n := by
  intro n
  induction n with
  | zero => intro σ r _ _; exact Nat.zero_le _
  | succ n ih =>
    intro σ r hs h
    show (if σ 5 = 0 then cPay (sMv N σ (r % 2)) + sG N cPay n (sMv N σ (r % 2)) (r / 2) else 0) ≤ _
    split
    · have a := sMv_ok (up := r % 2) hN hs (by omega)
      have b := ih (sMv N σ (r % 2)) (r / 2) a (by show σ 0 + 1 + n ≤ 8; omega)
      have c : cPay (sMv N σ (r % 2)) ≤ 6000 := a.2.2.2.2.2.2.2.2.1
      omega
    · exact Nat.zero_le _
theorem sTree_lo {N σ : Nat → Nat} (hN : Nok N) (hs : Sok σ) (h5 : σ 5 = 0) (h8 : σ 0 < N 8) : (sGr N σ (N 8 - σ 0)).2 2 = sLo N (N 8 - σ 0) σ := by
  obtain ⟨a, a2⟩ := sGr_lo hN hs h5 (N 8 - σ 0) (by omega)
  have h88 : N 8 ≤ 8 := hN.2.2.2.2.2.1
  obtain ⟨r, -, e⟩ := sLo_at (N := N) (N 8 - σ 0) σ h5
  have b := sG_b hN (N 8 - σ 0) σ r hs (by omega)
  have c : gLo N (N 8 - σ 0) σ = sLo N (N 8 - σ 0) σ := by unfold gLo; rw [if_neg (by omega)]
  have d : ∀ E, sBig ≤ lMin sBig (fun e => e 5 + gLo N (N 8 - (σ 0 + (N 8 - σ 0))) (eSt (σ 0 + (N 8 - σ 0)) e)) E := by
    intro E
    induction E with
    | nil => exact Nat.le_refl _
    | cons x E ih =>
      show sBig ≤ min (x 5 + gLo N (N 8 - (σ 0 + (N 8 - σ 0))) (eSt (σ 0 + (N 8 - σ 0)) x)) _
      have : gLo N (N 8 - (σ 0 + (N 8 - σ 0))) (eSt (σ 0 + (N 8 - σ 0)) x) = sBig := by unfold gLo; rw [if_pos (by omega)]
      rw [this]
      exact Nat.le_min.mpr ⟨Nat.le_add_left _ _, ih⟩
  have f := d (sGr N σ (N 8 - σ 0)).1
  unfold mLo at a
  rw [c, ← e] at a
  rw [← e]
  have g : 6000 * (N 8 - σ 0) ≤ 48000 := by omega
  unfold sBig at *
  omega
theorem sGB_hi {N : Nat → Nat} {t : Nat} {e : Nat → Nat} {up : Nat} (hN : Nok N) (ht : 1 ≤ t) (ht8 : t ≤ N 8) (he : Sok (eSt (t - 1) e)) (s : List (Nat → Nat) × (Nat → Nat)) :
    mHi N t (sGB N t e up s) = max (mHi N t s) (e 6 + ((sT N t e up) 6 + (if (sT N t e up) 5 = 0 then sHi N (N 8 - t) (sT N t e up) else 0))) := by
  obtain ⟨-, h0⟩ := sT_ok (up := up) hN ht ht8 he
  have hg : ∀ a b : Nat → Nat, a 0 = b 0 → a 1 = b 1 → a 2 = b 2 → a 3 = b 3 → sHi N (N 8 - t) (eSt t a) = sHi N (N 8 - t) (eSt t b) := fun a b h0 h1 h2 h3 => by rw [eSt_c h0 h1 h2 h3]
  show max (if (sT N t e up) 5 = 0 then s.2 3 else sMax (s.2 3) (e 6 + (sT N t e up) 6)) (lMax (fun e => e 6 + sHi N (N 8 - t) (eSt t e)) (sF N t e up s.1)) = max (max (s.2 3) (lMax (fun e => e 6 + sHi N (N 8 - t) (eSt t e)) s.1)) _
  unfold sF
  by_cases q : (sT N t e up) 5 = 0
  · rw [if_pos q, if_pos (Or.inl q), if_pos q, sAdd_max hg, (sLo_like _ _ _ (eOf_like q h0)).2]
    omega
  · rw [if_neg q, if_neg q, sMax_eq]
    by_cases q2 : t = N 8
    · rw [if_pos (Or.inr q2), sAdd_max hg]
      have z : ∀ x, sHi N (N 8 - t) x = 0 := fun x => by rw [show N 8 - t = 0 by omega]; rfl
      rw [z]
      omega
    · rw [if_neg (by intro h; rcases h with h | h; exact q h; exact q2 h)]
      omega
theorem sGP_hi {N : Nat → Nat} {t : Nat} (hN : Nok N) (ht : 1 ≤ t) (ht8 : t ≤ N 8) : ∀ (E : List (Nat → Nat)) (s : List (Nat → Nat) × (Nat → Nat)), Eok (t - 1) E →
    mHi N t (sGP N t E s) = max (mHi N t s) (lMax (fun e => e 6 + sHi N (N 8 - (t - 1)) (eSt (t - 1) e)) E) := by
  intro E
  induction E with
  | nil => intro s _; show mHi N t s = max (mHi N t s) 0; omega
  | cons e E ih =>
    intro s hE
    have he := (hE e List.mem_cons_self).1
    have a := sGB_hi (up := 1) hN ht ht8 he s
    have b := sGB_hi (up := 0) hN ht ht8 he (sGB N t e 1 s)
    have g := ih (sGB N t e 0 (sGB N t e 1 s)) (fun x hx => hE x (List.mem_cons_of_mem _ hx))
    show mHi N t (sGP N t E (sGB N t e 0 (sGB N t e 1 s))) = max (mHi N t s) (max (e 6 + sHi N (N 8 - (t - 1)) (eSt (t - 1) e)) (lMax (fun e => e 6 + sHi N (N 8 - (t - 1)) (eSt (t - 1) e)) E))
    have z : N 8 - (t - 1) = N 8 - t + 1 := by omega
    have w : sHi N (N 8 - (t - 1)) (eSt (t - 1) e) = max ((sT N t e 1) 6 + (if (sT N t e 1) 5 = 0 then sHi N (N 8 - t) (sT N t e 1) else 0)) ((sT N t e 0) 6 + (if (sT N t e 0) 5 = 0 then sHi N (N 8 - t) (sT N t e 0) else 0)) := by rw [z]; rfl
    rw [g, b, a, w]
    omega
theorem sGr_hi {N σ : Nat → Nat} (hN : Nok N) (hs : Sok σ) (h5 : σ 5 = 0) : ∀ n, σ 0 + n ≤ N 8 → mHi N (σ 0 + n) (sGr N σ n) = sHi N (N 8 - σ 0) σ := by
  intro n
  induction n with
  | zero =>
    intro _
    show max 0 (max (0 + sHi N (N 8 - σ 0) (eSt (σ 0) (eOf σ 1 0 0))) 0) = _
    rw [(sLo_like _ _ _ (eOf_like h5 rfl)).2]
    omega
  | succ n ih =>
    intro h
    have a := ih (by omega)
    have b := sGP_hi (t := σ 0 + n + 1) hN (by omega) (by omega) (sGr N σ n).1 ([], (sGr N σ n).2) (sGr_ok hN hs n (by omega)).1
    refine Eq.trans b (Eq.trans ?_ a)
    show max (max ((sGr N σ n).2 3) 0) (lMax (fun e => e 6 + sHi N (N 8 - (σ 0 + n)) (eSt (σ 0 + n) e)) (sGr N σ n).1) = max ((sGr N σ n).2 3) (lMax (fun e => e 6 + sHi N (N 8 - (σ 0 + n)) (eSt (σ 0 + n) e)) (sGr N σ n).1)
    omega
/-- in the last period every branch is counted at once -/
theorem sGP_top {N : Nat → Nat} {t : Nat} (ht : 1 ≤ t) (ht8 : t = N 8) : ∀ (E : List (Nat → Nat)) (s : List (Nat → Nat) × (Nat → Nat)), lMax (fun e => e 6 + 0) s.1 ≤ s.2 3 → lMax (fun e => e 6 + 0) (sGP N t E s).1 ≤ (sGP N t E s).2 3 := by
  intro E
  induction E with
  | nil => intro s h; exact h
  | cons e E ih =>
    intro s h
    have key : ∀ up (s : List (Nat → Nat) × (Nat → Nat)), lMax (fun e => e 6 + 0) s.1 ≤ s.2 3 → lMax (fun e => e 6 + 0) (sGB N t e up s).1 ≤ (sGB N t e up s).2 3 := by
      intro up s h
      have q : (sT N t e up) 5 = 1 := sMv_last (by show N 8 ≤ t - 1 + 1; omega)
      show lMax (fun e => e 6 + 0) (sF N t e up s.1) ≤ (if (sT N t e up) 5 = 0 then s.2 3 else sMax (s.2 3) (e 6 + (sT N t e up) 6))
      unfold sF
      rw [if_pos (Or.inr ht8), if_neg (by omega), sAdd_max (g := fun _ => 0) (fun _ _ _ _ _ _ => rfl), sMax_eq]
      omega
    exact ih _ (key 0 _ (key 1 s h))
theorem sTree_hi {N σ : Nat → Nat} (hN : Nok N) (hs : Sok σ) (h5 : σ 5 = 0) (h8 : σ 0 < N 8) : (sGr N σ (N 8 - σ 0)).2 3 = sHi N (N 8 - σ 0) σ := by
  have a := sGr_hi hN hs h5 (N 8 - σ 0) (by omega)
  obtain ⟨n, hn⟩ : ∃ n, N 8 - σ 0 = n + 1 := ⟨N 8 - σ 0 - 1, by omega⟩
  have b : lMax (fun e => e 6 + 0) (sGr N σ (n + 1)).1 ≤ (sGr N σ (n + 1)).2 3 := sGP_top (by omega) (by omega) (sGr N σ n).1 ([], (sGr N σ n).2) (Nat.zero_le _)
  rw [← a, hn]
  unfold mHi
  have z : (fun e => e 6 + sHi N (N 8 - (σ 0 + (n + 1))) (eSt (σ 0 + (n + 1)) e)) = (fun e : Nat → Nat => e 6 + 0) := by
    funext e
    rw [show N 8 - (σ 0 + (n + 1)) = 0 by omega]; rfl
  rw [z]
  omega
/-! Unlike states behind the last period. -/
def kOf (τ : Nat → Nat) : Nat × Nat × Nat × Nat := (τ 1, τ 2, τ 3, τ 4)
/-- some row from σ on goes through all periods and ends in the state κ -/
def Qst (N : Nat → Nat) (n : Nat) (σ : Nat → Nat) (κ : Nat × Nat × Nat × Nat) : Prop := ∃ r, r < 2 ^ n ∧ (sRow N n σ r) 0 = N 8 ∧ kOf (sRow N n σ r) = κ
def Rch (N : Nat → Nat) (n t : Nat) (E : List (Nat → Nat)) (κ : Nat × Nat × Nat × Nat) : Prop := ∃ e ∈ E, Qst N n (eSt t e) κ
theorem kOf_like {σ τ : Nat → Nat} (h : Like σ τ) : kOf σ = kOf τ := by unfold kOf; rw [h.2.1, h.2.2.1, h.2.2.2.1, h.2.2.2.2.1]
theorem Qst_like {N : Nat → Nat} {n : Nat} {σ τ : Nat → Nat} {κ : Nat × Nat × Nat × Nat} (h : Like σ τ) : Qst N n σ κ ↔ Qst N n τ κ := by
  constructor
  · rintro ⟨r, h1, h2, h3⟩
    have l := sRow_like (N := N) n σ τ r h
    exact ⟨r, h1, by rw [← l.1]; exact h2, by rw [← kOf_like l]; exact h3⟩
  · rintro ⟨r, h1, h2, h3⟩
    have l := sRow_like (N := N) n σ τ r h
    exact ⟨r, h1, by rw [l.1]; exact h2, by rw [kOf_like l]; exact h3⟩
theorem sF_rch {N : Nat → Nat} {t : Nat} {e : Nat → Nat} {up : Nat} {κ : Nat × Nat × Nat × Nat} (hN : Nok N) (ht : 1 ≤ t) (ht8 : t ≤ N 8) (he : Sok (eSt (t - 1) e)) (F : List (Nat → Nat)) : Rch N (N 8 - t) t (sF N t e up F) κ ↔ Rch N (N 8 - t) t F κ ∨ Qst N (N 8 - t) (sT N t e up) κ := by
  obtain ⟨-, h0⟩ := sT_ok (up := up) hN ht ht8 he
  have hP : ∀ a b : Nat → Nat, a 0 = b 0 → a 1 = b 1 → a 2 = b 2 → a 3 = b 3 → (Qst N (N 8 - t) (eSt t a) κ ↔ Qst N (N 8 - t) (eSt t b) κ) := fun a b h0 h1 h2 h3 => by rw [eSt_c h0 h1 h2 h3]
  unfold Rch sF
  by_cases q : (sT N t e up) 5 = 0
  · rw [if_pos (Or.inl q), sAdd_ex (P := fun e => Qst N (N 8 - t) (eSt t e) κ) hP]
    rw [show Qst N (N 8 - t) (eSt t (eOf (sT N t e up) (e 4 * sW N up) (e 5 + (sT N t e up) 6) (e 6 + (sT N t e up) 6))) κ ↔ Qst N (N 8 - t) (sT N t e up) κ from Qst_like (eOf_like q h0)]
  · by_cases q2 : t = N 8
    · rw [if_pos (Or.inr q2), sAdd_ex (P := fun e => Qst N (N 8 - t) (eSt t e) κ) hP]
      have z : N 8 - t = 0 := by omega
      have w : Qst N (N 8 - t) (eSt t (eOf (sT N t e up) (e 4 * sW N up) (e 5 + (sT N t e up) 6) (e 6 + (sT N t e up) 6))) κ ↔ Qst N (N 8 - t) (sT N t e up) κ := by
        rw [z]
        constructor
        · rintro ⟨r, h1, -, h3⟩
          exact ⟨r, h1, by show (sT N t e up) 0 = N 8; rw [h0]; exact q2, h3⟩
        · rintro ⟨r, h1, -, h3⟩
          exact ⟨r, h1, q2, h3⟩
      rw [w]
    · rw [if_neg (by intro h; rcases h with h | h; exact q h; exact q2 h)]
      constructor
      · exact Or.inl
      · rintro (h | ⟨r, -, h2, -⟩)
        · exact h
        · rw [sRow_over q, h0] at h2
          exact absurd h2 q2
theorem Qst_step {N : Nat → Nat} {n : Nat} {σ : Nat → Nat} {κ : Nat × Nat × Nat × Nat} (h5 : σ 5 = 0) : Qst N (n + 1) σ κ ↔ Qst N n (sMv N σ 1) κ ∨ Qst N n (sMv N σ 0) κ := by
  have e : ∀ r, sRow N (n + 1) σ r = sRow N n (sMv N σ (r % 2)) (r / 2) := fun r => by show (if σ 5 = 0 then _ else _) = _; rw [if_pos h5]
  constructor
  · rintro ⟨r, h1, h2, h3⟩
    rw [e] at h2 h3
    rw [Nat.pow_succ] at h1
    rcases mod2 r with q | q
    · rw [q] at h2 h3; exact Or.inr ⟨r / 2, by omega, h2, h3⟩
    · rw [q] at h2 h3; exact Or.inl ⟨r / 2, by omega, h2, h3⟩
  · rintro (⟨r, h1, h2, h3⟩ | ⟨r, h1, h2, h3⟩)
    · refine ⟨2 * r + 1, by rw [Nat.pow_succ]; omega, ?_, ?_⟩
      · rw [e, two_mod1, two_div1]; exact h2
      · rw [e, two_mod1, two_div1]; exact h3
    · refine ⟨2 * r, by rw [Nat.pow_succ]; omega, ?_, ?_⟩
      · rw [e, two_mod0, two_div0]; exact h2
      · rw [e, two_mod0, two_div0]; exact h3
theorem sGP_rch {N : Nat → Nat} {t : Nat} {κ : Nat × Nat × Nat × Nat} (hN : Nok N) (ht : 1 ≤ t) (ht8 : t ≤ N 8) : ∀ (E : List (Nat → Nat)) (s : List (Nat → Nat) × (Nat → Nat)), Eok (t - 1) E → (Rch N (N 8 - t) t (sGP N t E s).1 κ ↔ Rch N (N 8 - t) t s.1 κ ∨ Rch N (N 8 - (t - 1)) (t - 1) E κ) := by
  intro E
  induction E with
  | nil =>
    intro s _
    constructor
    · exact Or.inl
    · rintro (h | ⟨e, he, -⟩)
      · exact h
      · cases he
  | cons e E ih =>
    intro s hE
    have he := (hE e List.mem_cons_self).1
    have g := ih (sGB N t e 0 (sGB N t e 1 s)) (fun x hx => hE x (List.mem_cons_of_mem _ hx))
    have b : Rch N (N 8 - t) t (sGB N t e 0 (sGB N t e 1 s)).1 κ ↔ Rch N (N 8 - t) t (sGB N t e 1 s).1 κ ∨ Qst N (N 8 - t) (sT N t e 0) κ := sF_rch hN ht ht8 he _
    have a : Rch N (N 8 - t) t (sGB N t e 1 s).1 κ ↔ Rch N (N 8 - t) t s.1 κ ∨ Qst N (N 8 - t) (sT N t e 1) κ := sF_rch hN ht ht8 he _
    have w : Qst N (N 8 - (t - 1)) (eSt (t - 1) e) κ ↔ Qst N (N 8 - t) (sT N t e 1) κ ∨ Qst N (N 8 - t) (sT N t e 0) κ := by
      rw [show N 8 - (t - 1) = N 8 - t + 1 by omega]
      exact Qst_step rfl
    have x : Rch N (N 8 - (t - 1)) (t - 1) (e :: E) κ ↔ Qst N (N 8 - (t - 1)) (eSt (t - 1) e) κ ∨ Rch N (N 8 - (t - 1)) (t - 1) E κ := by
      unfold Rch; simp only [List.mem_cons, exists_eq_or_imp]
    show Rch N (N 8 - t) t (sGP N t E (sGB N t e 0 (sGB N t e 1 s))).1 κ ↔ _
    rw [g, b, a, x, w]
    constructor
    · rintro (((h | h) | h) | h)
      · exact Or.inl h
      · exact Or.inr (Or.inl (Or.inl h))
      · exact Or.inr (Or.inl (Or.inr h))
      · exact Or.inr (Or.inr h)
    · rintro (h | (h | h) | h)
      · exact Or.inl (Or.inl (Or.inl h))
      · exact Or.inl (Or.inl (Or.inr h))
      · exact Or.inl (Or.inr h)
      · exact Or.inr h
theorem sGr_rch {N σ : Nat → Nat} {κ : Nat × Nat × Nat × Nat} (hN : Nok N) (hs : Sok σ) (h5 : σ 5 = 0) : ∀ n, σ 0 + n ≤ N 8 → (Rch N (N 8 - (σ 0 + n)) (σ 0 + n) (sGr N σ n).1 κ ↔ Qst N (N 8 - σ 0) σ κ) := by
  intro n
  induction n with
  | zero =>
    intro _
    unfold Rch
    rw [show (sGr N σ 0).1 = [eOf σ 1 0 0] from rfl]
    simp only [List.mem_singleton, exists_eq_left]
    exact Qst_like (eOf_like h5 rfl)
  | succ n ih =>
    intro h
    have b := sGP_rch (t := σ 0 + n + 1) (κ := κ) hN (by omega) (by omega) (sGr N σ n).1 ([], (sGr N σ n).2) (sGr_ok hN hs n (by omega)).1
    rw [← ih (by omega)]
    refine Iff.trans b ?_
    constructor
    · rintro (⟨e, he, -⟩ | h)
      · cases he
      · exact h
    · exact Or.inr
/-- the states that the machine has seen in the rows ahead of r -/
def sSeen (N : Nat → Nat) (n : Nat) (σ : Nat → Nat) : Nat → List (Nat × Nat × Nat × Nat)
  | 0 => []
  | r + 1 => if (sRow N n σ r) 0 = N 8 ∧ ¬ kOf (sRow N n σ r) ∈ sSeen N n σ r then sSeen N n σ r ++ [kOf (sRow N n σ r)] else sSeen N n σ r
theorem sSeen_len {N : Nat → Nat} {n : Nat} {σ : Nat → Nat} : ∀ r, (sSeen N n σ r).length ≤ r := by
  intro r
  induction r with
  | zero => exact Nat.le_refl 0
  | succ r ih =>
    show (if (sRow N n σ r) 0 = N 8 ∧ ¬ kOf (sRow N n σ r) ∈ sSeen N n σ r then sSeen N n σ r ++ [kOf (sRow N n σ r)] else sSeen N n σ r).length ≤ r + 1
    split
    · rw [List.length_append, List.length_singleton]; omega
    · omega
theorem sSeen_nd {N : Nat → Nat} {n : Nat} {σ : Nat → Nat} : ∀ r, (sSeen N n σ r).Nodup := by
  intro r
  induction r with
  | zero => exact List.nodup_nil
  | succ r ih =>
    show (if (sRow N n σ r) 0 = N 8 ∧ ¬ kOf (sRow N n σ r) ∈ sSeen N n σ r then sSeen N n σ r ++ [kOf (sRow N n σ r)] else sSeen N n σ r).Nodup
    split
    · rename_i q
      rw [List.nodup_append]
      refine ⟨ih, by simp, ?_⟩
      intro a ha b hb hab
      rw [List.mem_singleton] at hb
      rw [hab, hb] at ha
      exact q.2 ha
    · exact ih
theorem sSeen_mem {N : Nat → Nat} {n : Nat} {σ : Nat → Nat} {κ : Nat × Nat × Nat × Nat} : ∀ r, κ ∈ sSeen N n σ r ↔ ∃ i, i < r ∧ (sRow N n σ i) 0 = N 8 ∧ kOf (sRow N n σ i) = κ := by
  intro r
  induction r with
  | zero =>
    constructor
    · intro h; cases h
    · rintro ⟨i, h, -⟩; omega
  | succ r ih =>
    have e : (∃ i, i < r + 1 ∧ (sRow N n σ i) 0 = N 8 ∧ kOf (sRow N n σ i) = κ) ↔ (∃ i, i < r ∧ (sRow N n σ i) 0 = N 8 ∧ kOf (sRow N n σ i) = κ) ∨ ((sRow N n σ r) 0 = N 8 ∧ kOf (sRow N n σ r) = κ) := by
      constructor
      · rintro ⟨i, h1, h2, h3⟩
        rcases Nat.lt_or_ge i r with q | q
        · exact Or.inl ⟨i, q, h2, h3⟩
        · rw [show i = r by omega] at h2 h3; exact Or.inr ⟨h2, h3⟩
      · rintro (⟨i, h1, h2, h3⟩ | ⟨h2, h3⟩)
        · exact ⟨i, by omega, h2, h3⟩
        · exact ⟨r, by omega, h2, h3⟩
    rw [e, ← ih]
    show κ ∈ (if (sRow N n σ r) 0 = N 8 ∧ ¬ kOf (sRow N n σ r) ∈ sSeen N n σ r then sSeen N n σ r ++ [kOf (sRow N n σ r)] else sSeen N n σ r) ↔ _
    split
    · rename_i q
      rw [List.mem_append, List.mem_singleton]
      constructor
      · rintro (h | h)
        · exact Or.inl h
        · exact Or.inr ⟨q.1, h.symm⟩
      · rintro (h | h)
        · exact Or.inl h
        · exact Or.inr h.2.symm
    · rename_i q
      constructor
      · exact Or.inl
      · rintro (h | ⟨h1, h2⟩)
        · exact h
        · rw [← h2]
          exact Classical.byContradiction fun h3 => q ⟨h1, h3⟩
theorem nd_le {α : Type} [DecidableEq α] : ∀ (l k : List α), l.Nodup → (∀ x ∈ l, x ∈ k) → l.length ≤ k.length := by
  intro l
  induction l with
  | nil => intro k _ _; exact Nat.zero_le _
  | cons a l ih =>
    intro k h hk
    have ha : a ∈ k := hk a List.mem_cons_self
    obtain ⟨h1, h2⟩ := List.nodup_cons.mp h
    have b := ih (k.erase a) h2 (fun x hx => (List.mem_erase_of_ne (fun e => h1 (by rw [← e]; exact hx))).mpr (hk x (List.mem_cons_of_mem _ hx)))
    rw [List.length_erase_of_mem ha] at b
    have c : 0 < k.length := List.length_pos_of_mem ha
    show l.length + 1 ≤ k.length
    omega
def eKey (e : Nat → Nat) : Nat × Nat × Nat × Nat := (e 0, e 1, e 2, e 3)
theorem Unl_nd : ∀ E, Unl E → (E.map eKey).Nodup := by
  intro E
  induction E with
  | nil => intro _; exact List.nodup_nil
  | cons e E ih =>
    intro h
    rw [List.map_cons, List.nodup_cons]
    refine ⟨?_, ih h.2⟩
    intro hm
    obtain ⟨e', he', hk⟩ := List.mem_map.mp hm
    have := h.1 e' he'
    unfold eKey at hk
    simp only [Prod.mk.injEq] at hk
    exact this ⟨hk.1.symm, hk.2.1.symm, hk.2.2.1.symm, hk.2.2.2.symm⟩
/-- as many states in the tree's last layer as the rows see -/
theorem sTree_states {N σ : Nat → Nat} (hN : Nok N) (hs : Sok σ) (h5 : σ 5 = 0) (h8 : σ 0 ≤ N 8) : (sGr N σ (N 8 - σ 0)).1.length = (sSeen N (N 8 - σ 0) σ (2 ^ (N 8 - σ 0))).length := by
  have hm : ∀ κ, κ ∈ (sGr N σ (N 8 - σ 0)).1.map eKey ↔ κ ∈ sSeen N (N 8 - σ 0) σ (2 ^ (N 8 - σ 0)) := by
    intro κ
    rw [sSeen_mem]
    have a := sGr_rch (κ := κ) hN hs h5 (N 8 - σ 0) (by omega)
    refine Iff.trans ?_ a
    rw [List.mem_map]
    unfold Rch
    have z : N 8 - (σ 0 + (N 8 - σ 0)) = 0 := by omega
    have w : σ 0 + (N 8 - σ 0) = N 8 := by omega
    constructor
    · rintro ⟨e, he, hk⟩
      refine ⟨e, he, ?_⟩
      rw [z, w]
      exact ⟨0, by decide, rfl, hk⟩
    · rintro ⟨e, he, hq⟩
      rw [z, w] at hq
      obtain ⟨r, -, -, h3⟩ := hq
      exact ⟨e, he, h3⟩
  have u := (sGr_ok hN hs (N 8 - σ 0) (by omega)).2.2
  have p1 := nd_le _ _ (Unl_nd _ u) (fun x hx => (hm x).mp hx)
  have p2 := nd_le _ _ (sSeen_nd (N := N) (n := N 8 - σ 0) (σ := σ) (2 ^ (N 8 - σ 0))) (fun x hx => (hm x).mpr hx)
  rw [List.length_map] at p1 p2
  omega
end
