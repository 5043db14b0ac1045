/-! Methods that throw and catch, in the standard form. -/
section XX
/-- the exceptions' names -/
def xE (u : Nat) : String := match u with | 1 => "java/lang/IndexOutOfBoundsException" | 2 => "java/lang/IllegalArgumentException" | _ => "java/lang/IllegalStateException"
/-- what the tables say of texts and exception classes; sa: where the texts lie -/
def xV (sa : Nat → Nat) (U : State) : Prop := (vk_R RX5 43 "the asset is not 0 or 1" (sa 0) U ∧ vk_R RX5 54 "first, rise or fall is out of range" (sa 1) U ∧ vk_R RX5 79 "the chance is out of range" (sa 2) U ∧ vk_R RX5 88 "periods, barrier, couponLevel, callLevel or coupon is out of range" (sa 3) U ∧ vk_R RX5 116 "the note is over" (sa 4) U ∧ vk_R RX5 129 "no move is told" (sa 5) U ∧ vk_R RX5 179 "the period is out of range" (sa 6) U) ∧ (va_Nw (.castable (xE 1) (xE 1)) U ∧ va_Nw (.castable (xE 2) (xE 2)) U ∧ va_Nw (.castable (xE 3) (xE 3)) U) ∧ va_Nc (xE 2) (xE 1) U ∧ va_Nw (.declares (Bundle.initS "java/lang/RuntimeException")) U ∧ va_Nw (.declares (Bundle.initS "java/lang/Exception")) U ∧ va_Nw (.declares (Bundle.initS Bundle.tN)) U
theorem xV.same {sa : Nat → Nat} {u U : State} (h : u.vm = U.vm) (n : xV sa u) : xV sa U :=
  ⟨⟨vk_R.same h.symm n.1.1, vk_R.same h.symm n.1.2.1, vk_R.same h.symm n.1.2.2.1, vk_R.same h.symm n.1.2.2.2.1, vk_R.same h.symm n.1.2.2.2.2.1, vk_R.same h.symm n.1.2.2.2.2.2.1, vk_R.same h.symm n.1.2.2.2.2.2.2⟩, ⟨va_Nw.same rfl h n.2.1.1, va_Nw.same rfl h n.2.1.2.1, va_Nw.same rfl h n.2.1.2.2⟩, va_Nc.moved (by rw [h]; exact Vm.Alike.refl _) n.2.2.1, va_Nw.same rfl h n.2.2.2.1, va_Nw.same rfl h n.2.2.2.2.1, va_Nw.same rfl h n.2.2.2.2.2⟩
theorem xV.warm {sa : Nat → Nat} {s U : State} (h : s.WarmedH U.vm) (n : xV sa s) : xV sa U :=
  ⟨⟨vk_R.warm h n.1.1, vk_R.warm h n.1.2.1, vk_R.warm h n.1.2.2.1, vk_R.warm h n.1.2.2.2.1, vk_R.warm h n.1.2.2.2.2.1, vk_R.warm h n.1.2.2.2.2.2.1, vk_R.warm h n.1.2.2.2.2.2.2⟩, ⟨va_Nw.warmC h n.2.1.1, va_Nw.warmC h n.2.1.2.1, va_Nw.warmC h n.2.1.2.2⟩, va_Nc.moved h.alike n.2.2.1, va_Nw.warmD h n.2.2.2.1, va_Nw.warmD h n.2.2.2.2.1, va_Nw.warmD h n.2.2.2.2.2⟩
def xZ (A : Nat → Prop) (U : State) (H : Heap) : Prop := vx_Zq Bundle.tN "UNASSIGNED_STACK" Bundle.steD A U H ∧ vx_Zq Bundle.tN "SUPPRESSED_SENTINEL" Bundle.listD A U H
def xB9 (D : va_G) (tys : List (ClassId × FieldType)) (ws : va_W) (sz : Nat) (sa : Nat → Nat) (U : State) : Prop := xB D tys ws sz U ∧ xN U ∧ xV sa U ∧ xZ (va_A ws sz) U U.heap
theorem xB9_blind {D : va_G} {tys : List (ClassId × FieldType)} {ws : va_W} {sz : Nat} {sa : Nat → Nat} {av : List Value} : FrameBlind (va_Pc av (xB9 D tys ws sz sa)) := fun a U g mk h =>
  ⟨h.1, xB_calling a U g mk h.2.1, xN.same (u := U) (U := U.calling g mk a) rfl h.2.2.1, xV.same (u := U) (U := U.calling g mk a) rfl h.2.2.2.1, vx_Zq.moved (u := U) (U := U.calling g mk a) (Vm.Alike.refl U.vm) h.2.2.2.2.1, vx_Zq.moved (u := U) (U := U.calling g mk a) (Vm.Alike.refl U.vm) h.2.2.2.2.2⟩
theorem xZ_at {A B : Nat → Prop} {s U : State} {H : Heap} {locs : List Loc} (hZ : xZ A s s.heap) (hS : va_S A s.heap H locs) (hAB : ∀ q, B q → A q) (hW : s.WarmedH U.vm) (hU : U.heap = H) : xZ B U U.heap := by
  rw [hU]
  exact ⟨vx_Zq.moved hW.alike ((hZ.1.kept hS.2.1).narrow hAB), vx_Zq.moved hW.alike ((hZ.2.kept hS.2.1).narrow hAB)⟩
theorem xB9_at {s U : State} {H : Heap} {D : va_G} {tys : List (ClassId × FieldType)} {ws wc : va_W} {A : Nat → Prop} {locs : List Loc} {sa : Nat → Nat} (hN : xN s) (hV : xV sa s) (hZ : xZ A s s.heap) (hS : va_S A s.heap H locs) (hA : ∀ q, s.heap.size ≤ q → A q) (hK : va_K D vwCl tys s) (hP : va_P D vwCl ws H) (hD : va_D A ws) (isC : List Nat) (hC : isC.map (fun i => ws[i]?) = wc.map some) (hn : va_nd isC = true) (hU : U.heap = H) (hW : s.WarmedH U.vm) : xB9 D tys wc H.size sa U :=
  ⟨xB_at hK hP hD isC hC hn hU hW, hN.warm hW, hV.warm hW, xZ_at hZ hS (va_free (wc := wc) hD hS hA isC hC) hW hU⟩
theorem xPV9 {s : State} {H : Heap} {D : va_G} {tys : List (ClassId × FieldType)} {ws wc : va_W} {A : Nat → Prop} {locs : List Loc} {sa : Nat → Nat} {b ci : Nat} {fs : List Value} {As : List Value} {qc : vw_C} (hN : xN s) (hV : xV sa s) (hZ : xZ A s s.heap) (hS : va_S A s.heap H locs) (hA : ∀ q, s.heap.size ≤ q → A q) (hK : va_K D vwCl tys s) (hP : va_P D vwCl ws H) (hD : va_D A ws) (isC : List Nat) (hC : isC.map (fun i => ws[i]?) = wc.map some) (hn : va_nd isC = true) (q0 : Nat) (he : wc[q0]? = some (b, .inr (ci, fs))) (hc : vwCl[ci]? = some qc) : PreV s H qc.1 b (va_Pc (.ref b :: As) (xB9 D tys wc H.size sa)) As :=
  ⟨xB9_blind, va_recv hK (xPs hP isC hC) hc he, fun _ hU hW => ⟨rfl, xB9_at hN hV hZ hS hA hK hP hD isC hC hn hU hW⟩⟩
theorem xPS9 {s : State} {H : Heap} {D : va_G} {tys : List (ClassId × FieldType)} {ws wc : va_W} {A : Nat → Prop} {locs : List Loc} {sa : Nat → Nat} {As : List Value} (hN : xN s) (hV : xV sa s) (hZ : xZ A s s.heap) (hS : va_S A s.heap H locs) (hA : ∀ q, s.heap.size ≤ q → A q) (hK : va_K D vwCl tys s) (hP : va_P D vwCl ws H) (hD : va_D A ws) (isC : List Nat) (hC : isC.map (fun i => ws[i]?) = wc.map some) (hn : va_nd isC = true) : PreS s H (va_Pc As (xB9 D tys wc H.size sa)) As :=
  ⟨xB9_blind, fun _ hU hW => ⟨rfl, xB9_at hN hV hZ hS hA hK hP hD isC hC hn hU hW⟩⟩
/-- a contract that returns or throws -/
theorem xMetX {l : Launch} {y : MethodName} {ws ws' : List Cond} {rm : Room} {av : List Value} {D : va_G} {tys : List (ClassId × FieldType)} {w0 : va_W} {sz : Nat} {sa : Nat → Nat} {QF : (Nat → Prop) → Array Value → State → Outcome → State → Prop} {XF : (Nat → Prop) → String → State → State → Prop} {mc ms : Nat} {cc : ByteArray} {maxL : Nat} {ret : Option FieldType}
    (hy : plainName y.cls = true) (hw : ws = Cond.code y cc maxL ret :: ws') (hv : (lg_sl av).length ≤ maxL)
    (body : ∀ (p : Program) (e : Env) (s : State) (m : MethodId) (below : List Frame) (meth : Method) (c : Code) (ls : Array Slot) (A : Nat → Prop), CallFix p m c cc maxL s av.toArray ws y.cls → meth.sig.returnType = ret → meth.locks = false → meth.name = y.name → va_K D vwCl tys s → va_P D vwCl w0 s.heap → va_D A w0 → (∀ q, s.heap.size ≤ q → A q) → va_S A s.heap s.heap [] → lv_has ls maxL (lv_args 0 av) → xN s → xV sa s → xZ A s s.heap → (∀ x ∈ c.exceptionTable.toList, False) →
      W p l e rm s m av.toArray below meth c s.heap [] 0 0 (vx_MQ below (QF A) (XF A) av.toArray s mc ms A) (F0 m 0 ls [])) : vx_Met l y ws rm (va_Pc av (xB9 D tys w0 sz sa)) (QF (va_A w0 sz)) (XF (va_A w0 sz)) mc ms (va_A w0 sz) := by
  refine vx_ofW (cc := cc) (maxL := maxL) (ret := ret) hy hw ?_
  intro p e s m args below meth c s₁ B hml hout hv'
  obtain ⟨rfl, ⟨hsz, hP, hK, hD0⟩, hN, hV, hZ⟩ := hv'
  subst hsz
  rw [lg_entry_eq]
  exact body p e s m below meth c _ (va_A w0 s.heap.size) ⟨B.exec, B.bytes, hml, findClass_of_methodNamed B.named, atoms_spec (ws := ws) B.pre⟩ B.returns B.notSynchronized (name_of_methodNamed B.named B.method).1 hK hP hD0.self (fun q h => Or.inr h) va_S.rf (lv_entry av hv) hN hV hZ hout
/-- a contract of a method that catches all that is thrown in it -/
theorem xMetH {l : Launch} {y : MethodName} {ws ws' : List Cond} {rm : Room} {av : List Value} {D : va_G} {tys : List (ClassId × FieldType)} {w0 : va_W} {sz : Nat} {sa : Nat → Nat} {QF : (Nat → Prop) → Array Value → State → Outcome → State → Prop} {mc ms : Nat} {cc : ByteArray} {maxL : Nat} {ret : Option FieldType} {hh : List (Nat × Nat × Nat × Nat)}
    (hy : plainName y.cls = true) (hw : ws = Cond.codeWith y cc maxL ret hh :: ws') (hv : (lg_sl av).length ≤ maxL)
    (body : ∀ (p : Program) (e : Env) (s : State) (m : MethodId) (below : List Frame) (meth : Method) (c : Code) (ls : Array Slot) (A : Nat → Prop), CallFix p m c cc maxL s av.toArray ws y.cls → meth.sig.returnType = ret → meth.locks = false → meth.name = y.name → va_K D vwCl tys s → va_P D vwCl w0 s.heap → va_D A w0 → (∀ q, s.heap.size ≤ q → A q) → va_S A s.heap s.heap [] → lv_has ls maxL (lv_args 0 av) → xN s → xV sa s → xZ A s s.heap → c.exceptionTable.toList = tableOf hh →
      W p l e rm s m av.toArray below meth c s.heap [] 0 0 (vx_MQ below (QF A) (fun _ _ _ => False) av.toArray s mc ms A) (F0 m 0 ls [])) : Met l y ws rm (va_Pc av (xB9 D tys w0 sz sa)) (QF (va_A w0 sz)) mc ms (va_A w0 sz) := by
  have h : vx_Met l y ws rm (va_Pc av (xB9 D tys w0 sz sa)) (QF (va_A w0 sz)) (fun _ _ _ => False) mc ms (va_A w0 sz) := by
    refine vx_ofWH (cc := cc) (maxL := maxL) (ret := ret) (hh := hh) hy hw ?_
    intro p e s m args below meth c s₁ B hml hv'
    obtain ⟨rfl, ⟨hsz, hP, hK, hD0⟩, hN, hV, hZ⟩ := hv'
    subst hsz
    have hts := atoms_spec (ws := ws) B.pre
    rw [lg_entry_eq]
    exact body p e s m below meth c _ (va_A w0 s.heap.size) ⟨B.exec, B.bytes, hml, findClass_of_methodNamed B.named, hts⟩ B.returns B.notSynchronized (name_of_methodNamed B.named B.method).1 hK hP hD0.self (fun q h => Or.inr h) va_S.rf (lv_entry av hv) hN hV hZ (vx_table (x := y) B (hts _ (by rw [hw]; exact List.mem_cons_self)))
  intro p e ha hf hk s m args below h1 h2 h3 h4
  obtain ⟨n, o, a1, a2, a3, a4⟩ := h p e ha hf hk s m args below h1 h2 h3 h4
  rcases a4 with a4 | ⟨q, -, E, ce, L, hF, -⟩
  · exact ⟨n, o, a1, a2, a3, a4⟩
  · exact hF.elim
section
variable {p : Program} {l : Launch} {e : Env} {R : Room} {s : State} {m : MethodId} {args : Array Value} {below : List Frame} {meth : Method} {c : Code} {H : Heap} {locs : List Loc} {cells slots : Nat} {Q : State → Prop} {pc : Nat} {ls : Array Slot} {st0 rest : List Value} {mc ms : Nat} {a : Array Value} {A : Nat → Prop} {H0 : Heap} {D : va_G} {tys tys' : List (ClassId × FieldType)} {ws wc wr : va_W} {cc : ByteArray}
/-- what a throw leaves -/
theorem xtp {px : Nat → Prop} {u : Nat} (hu : px u) (hP : va_P D vwCl ws H) (hD : va_D A ws) (hK : va_K D vwCl tys s) (hS : va_S A s.heap H locs) : ∀ t : State, s.vm.Alike t.vm → H.size ≤ t.heap.size → (∀ q : Nat, q < H.size → t.heap[q]? = H[q]?) → vx_X px (fun E u t => E = xE u ∧ xA D tys ws A t) A (xE u) s t := by
  intro t hvm hz hk
  refine ⟨u, hu, ⟨rfl, hP.kept (fun k q hq => hk q.1 (vx_lt hP hq)), va_K.moved hvm hK, hD⟩, Nat.le_trans hS.1 hz, fun q h1 h2 => ?_⟩
  rw [hk q (Nat.lt_of_lt_of_le h1 hS.1)]
  exact hS.2.1 q h1 h2
/-- a call that returns an int, or throws: the callee's cells cut out by their places -/
theorem xxi {S : Type} {post : Int32 → S → Prop} {w1 : S → va_W} {px : Nat → Prop} {wx : va_W} (hr : vx_Run p l e R s m args below meth c H locs cells slots mc ms (F0 m pc ls st0) rest (va_Qi post (fun u t => xA D tys' (w1 u) (va_A wc H.size) t) (va_A wc H.size) a) (vx_X px (fun E u t => E = xE u ∧ xA D tys' wx (va_A wc H.size) t) (va_A wc H.size)) (va_A wc H.size))
    (hP : va_P D vwCl ws H) (hD : va_D A ws) (hS : va_S A H0 H locs) (hA : ∀ q, H0.size ≤ q → A q) (isC isR : List Nat) (hC : isC.map (fun i => ws[i]?) = wc.map some) (hR : isR.map (fun i => ws[i]?) = wr.map some) (hn : va_nd isR = true) (hdis : ∀ i ∈ isR, i ∉ isC)
    (kx : ∀ (u : Nat) (ce : Cell) (q9 : Addr) (H1 : Heap) (locs1 : List Loc), px u → va_P D vwCl (wr ++ wx) H1 → va_D A (wr ++ wx) → va_S A H0 H1 locs1 → H1[q9]? = some ce → ce.vm = .none → s.vm.findClass (xE u) = some ce.cls → vx_W p l e R s m args below meth c H1 locs1 (cells + mc) (slots + ms) Q (F0 m pc ls rest) q9)
    (kk : ∀ (r : Int32) (u : S) (H1 : Heap) (locs1 : List Loc), post r u → va_P D vwCl (wr ++ w1 u) H1 → va_D A (wr ++ w1 u) → va_S A H0 H1 locs1 → W p l e R s m args below meth c H1 locs1 (cells + mc) (slots + ms) Q (F0 m (pc + 3) ls (.int r :: rest))) : W p l e R s m args below meth c H locs cells slots Q (F0 m pc ls st0) := by
  have hF := va_free (wc := wc) hD hS hA isC hC
  refine vx_calli hr hS (fun q _ h => hF q h) hF (fun q _ h => hF q h) (fun E ce q9 u t H1 locs1 ht hvm hw hB hz1 hk1 hS1 hc1 hc2 hc3 => ?_) (fun r u t H1 locs1 ht hvm hw hB hz1 hk1 hS1 => ?_)
  · obtain ⟨rfl, hP1, -, hD1⟩ := hB
    rw [ht] at hP1
    obtain ⟨x1, x2⟩ := va_join hP hD isC isR hC hR hn hdis hk1 hF hP1 hD1
    exact kx u ce q9 H1 locs1 hw x1 x2 hS1 hc1 hc2 hc3
  · obtain ⟨hP1, -, hD1⟩ := hB
    rw [ht] at hP1
    obtain ⟨x1, x2⟩ := va_join hP hD isC isR hC hR hn hdis hk1 hF hP1 hD1
    exact kk r u H1 locs1 hw x1 x2 hS1
theorem xxl {S : Type} {post : Int64 → S → Prop} {w1 : S → va_W} {px : Nat → Prop} {wx : va_W} (hr : vx_Run p l e R s m args below meth c H locs cells slots mc ms (F0 m pc ls st0) rest (va_Ql post (fun u t => xA D tys' (w1 u) (va_A wc H.size) t) (va_A wc H.size) a) (vx_X px (fun E u t => E = xE u ∧ xA D tys' wx (va_A wc H.size) t) (va_A wc H.size)) (va_A wc H.size))
    (hP : va_P D vwCl ws H) (hD : va_D A ws) (hS : va_S A H0 H locs) (hA : ∀ q, H0.size ≤ q → A q) (isC isR : List Nat) (hC : isC.map (fun i => ws[i]?) = wc.map some) (hR : isR.map (fun i => ws[i]?) = wr.map some) (hn : va_nd isR = true) (hdis : ∀ i ∈ isR, i ∉ isC)
    (kx : ∀ (u : Nat) (ce : Cell) (q9 : Addr) (H1 : Heap) (locs1 : List Loc), px u → va_P D vwCl (wr ++ wx) H1 → va_D A (wr ++ wx) → va_S A H0 H1 locs1 → H1[q9]? = some ce → ce.vm = .none → s.vm.findClass (xE u) = some ce.cls → vx_W p l e R s m args below meth c H1 locs1 (cells + mc) (slots + ms) Q (F0 m pc ls rest) q9)
    (kk : ∀ (r : Int64) (u : S) (H1 : Heap) (locs1 : List Loc), post r u → va_P D vwCl (wr ++ w1 u) H1 → va_D A (wr ++ w1 u) → va_S A H0 H1 locs1 → W p l e R s m args below meth c H1 locs1 (cells + mc) (slots + ms) Q (F0 m (pc + 3) ls (.long r :: rest))) : W p l e R s m args below meth c H locs cells slots Q (F0 m pc ls st0) := by
  have hF := va_free (wc := wc) hD hS hA isC hC
  refine vx_calll hr hS (fun q _ h => hF q h) hF (fun q _ h => hF q h) (fun E ce q9 u t H1 locs1 ht hvm hw hB hz1 hk1 hS1 hc1 hc2 hc3 => ?_) (fun r u t H1 locs1 ht hvm hw hB hz1 hk1 hS1 => ?_)
  · obtain ⟨rfl, hP1, -, hD1⟩ := hB
    rw [ht] at hP1
    obtain ⟨x1, x2⟩ := va_join hP hD isC isR hC hR hn hdis hk1 hF hP1 hD1
    exact kx u ce q9 H1 locs1 hw x1 x2 hS1 hc1 hc2 hc3
  · obtain ⟨hP1, -, hD1⟩ := hB
    rw [ht] at hP1
    obtain ⟨x1, x2⟩ := va_join hP hD isC isR hC hR hn hdis hk1 hF hP1 hD1
    exact kk r u H1 locs1 hw x1 x2 hS1
theorem xxv {S : Type} {post : S → Prop} {w1 : S → va_W} {px : Nat → Prop} {wx : va_W} (hr : vx_Run p l e R s m args below meth c H locs cells slots mc ms (F0 m pc ls st0) rest (va_Qv post (fun u t => xA D tys' (w1 u) (va_A wc H.size) t) (va_A wc H.size) a) (vx_X px (fun E u t => E = xE u ∧ xA D tys' wx (va_A wc H.size) t) (va_A wc H.size)) (va_A wc H.size))
    (hP : va_P D vwCl ws H) (hD : va_D A ws) (hS : va_S A H0 H locs) (hA : ∀ q, H0.size ≤ q → A q) (isC isR : List Nat) (hC : isC.map (fun i => ws[i]?) = wc.map some) (hR : isR.map (fun i => ws[i]?) = wr.map some) (hn : va_nd isR = true) (hdis : ∀ i ∈ isR, i ∉ isC)
    (kx : ∀ (u : Nat) (ce : Cell) (q9 : Addr) (H1 : Heap) (locs1 : List Loc), px u → va_P D vwCl (wr ++ wx) H1 → va_D A (wr ++ wx) → va_S A H0 H1 locs1 → H1[q9]? = some ce → ce.vm = .none → s.vm.findClass (xE u) = some ce.cls → vx_W p l e R s m args below meth c H1 locs1 (cells + mc) (slots + ms) Q (F0 m pc ls rest) q9)
    (kk : ∀ (u : S) (H1 : Heap) (locs1 : List Loc), post u → va_P D vwCl (wr ++ w1 u) H1 → va_D A (wr ++ w1 u) → va_S A H0 H1 locs1 → W p l e R s m args below meth c H1 locs1 (cells + mc) (slots + ms) Q (F0 m (pc + 3) ls rest)) : W p l e R s m args below meth c H locs cells slots Q (F0 m pc ls st0) := by
  have hF := va_free (wc := wc) hD hS hA isC hC
  refine vx_callv hr hS (fun q _ h => hF q h) hF (fun q _ h => hF q h) (fun E ce q9 u t H1 locs1 ht hvm hw hB hz1 hk1 hS1 hc1 hc2 hc3 => ?_) (fun u t H1 locs1 ht hvm hw hB hz1 hk1 hS1 => ?_)
  · obtain ⟨rfl, hP1, -, hD1⟩ := hB
    rw [ht] at hP1
    obtain ⟨x1, x2⟩ := va_join hP hD isC isR hC hR hn hdis hk1 hF hP1 hD1
    exact kx u ce q9 H1 locs1 hw x1 x2 hS1 hc1 hc2 hc3
  · obtain ⟨hP1, -, hD1⟩ := hB
    rw [ht] at hP1
    obtain ⟨x1, x2⟩ := va_join hP hD isC isR hC hR hn hdis hk1 hF hP1 hD1
    exact kk u H1 locs1 hw x1 x2 hS1
end
end XX
