/-! The standard form of a contract here: a list of cells before (xB), a list of cells after (xA). -/
section XK
/-- eight, twelve numbers as a function of the place -/
abbrev x8f (a b c d e f g h : Int32) : Nat → Int32 := fun k => match k with | 0 => a | 1 => b | 2 => c | 3 => d | 4 => e | 5 => f | 6 => g | _ => h
abbrev x12f (a b c d e f g h i j k l : Int32) : Nat → Int32 := fun z => match z with | 0 => a | 1 => b | 2 => c | 3 => d | 4 => e | 5 => f | 6 => g | 7 => h | 8 => i | 9 => j | 10 => k | _ => l
/-- the array classes that the worlds hold: ints, booleans, longs -/
abbrev xT (cI cZ cJ : ClassId) : List (ClassId × FieldType) := [(cI, .int), (cZ, .boolean), (cJ, .long)]
def xB (D : va_G) (tys : List (ClassId × FieldType)) (ws : va_W) (sz : Nat) (U : State) : Prop := U.heap.size = sz ∧ va_P D vwCl ws U.heap ∧ va_K D vwCl tys U ∧ va_D (fun _ => True) ws
def xA (D : va_G) (tys : List (ClassId × FieldType)) (ws : va_W) (A : Nat → Prop) (t : State) : Prop := va_P D vwCl ws t.heap ∧ va_K D vwCl tys t ∧ va_D A ws
/-- private calls from nest mates that the tables know -/
def xN (U : State) : Prop := va_Nw (.methodLinkNest RX2 11 yX0_init RX5) U ∧ va_Nw (.methodLinkNest RX4 11 yX3_init RX5) U ∧ va_Nw (.methodLinkNest RX4 24 yX1_init RX5) U ∧ va_Nw (.methodLinkNest RX4 101 yX5_wholeWeightOf RX5) U ∧ va_Nw (.methodLinkNest RX5 11 yX2_init RX5) U ∧ va_Nw (.methodLinkNest RX5 18 yX3_init RX5) U ∧ va_Nw (.methodLinkNest RX5 28 yX4_init RX5) U
theorem xN.same {u U : State} (h : u.vm = U.vm) (n : xN u) : xN U := ⟨va_Nw.same rfl h n.1, va_Nw.same rfl h n.2.1, va_Nw.same rfl h n.2.2.1, va_Nw.same rfl h n.2.2.2.1, va_Nw.same rfl h n.2.2.2.2.1, va_Nw.same rfl h n.2.2.2.2.2.1, va_Nw.same rfl h n.2.2.2.2.2.2⟩
theorem xN.warm {s U : State} (h : s.WarmedH U.vm) (n : xN s) : xN U := ⟨va_Nw.warmM h n.1, va_Nw.warmM h n.2.1, va_Nw.warmM h n.2.2.1, va_Nw.warmM h n.2.2.2.1, va_Nw.warmM h n.2.2.2.2.1, va_Nw.warmM h n.2.2.2.2.2.1, va_Nw.warmM h n.2.2.2.2.2.2⟩
theorem xPs {D : va_G} {cl : List vw_C} {ws wc : va_W} {H : Heap} (h : va_P D cl ws H) (is : List Nat) (hC : is.map (fun i => ws[i]?) = wc.map some) : va_P D cl wc H := by
  intro k q hk
  have h1 : (is.map (fun i => ws[i]?))[k]? = some (some q) := by rw [hC, List.getElem?_map, hk]; rfl
  rw [List.getElem?_map] at h1
  obtain ⟨i, -, hi⟩ := Option.map_eq_some_iff.mp h1
  exact h i q hi
theorem xB_calling {D : va_G} {tys : List (ClassId × FieldType)} {ws : va_W} {sz : Nat} (a : Array Value) (U : State) (g : JFrame) (mk : MethodId) (h : xB D tys ws sz U) : xB D tys ws sz (U.calling g mk a) := by
  obtain ⟨e, qP, qK, qD⟩ := h
  exact ⟨e, qP, va_K.moved (u := U) (U := U.calling g mk a) (Vm.Alike.refl U.vm) qK, qD⟩
theorem xB_blind {D : va_G} {tys : List (ClassId × FieldType)} {ws : va_W} {sz : Nat} {av : List Value} : FrameBlind (va_Pc av (xB D tys ws sz)) := fun a U g mk h => ⟨h.1, xB_calling a U g mk h.2⟩
theorem xB_blindN {D : va_G} {tys : List (ClassId × FieldType)} {ws : va_W} {sz : Nat} {av : List Value} : FrameBlind (va_Pc av (fun U => xB D tys ws sz U ∧ xN U)) := fun a U g mk h => ⟨h.1, xB_calling a U g mk h.2.1, xN.same (u := U) (U := U.calling g mk a) rfl h.2.2⟩
theorem xB_at {s U : State} {H : Heap} {D : va_G} {tys : List (ClassId × FieldType)} {ws wc : va_W} {A : Nat → Prop} (hK : va_K D vwCl tys s) (hP : va_P D vwCl ws H) (hD : va_D A ws) (isC : List Nat) (hC : isC.map (fun i => ws[i]?) = wc.map some) (hn : va_nd isC = true) (hU : U.heap = H) (hW : s.WarmedH U.vm) : xB D tys wc H.size U :=
  ⟨by rw [hU], by rw [hU]; exact xPs hP isC hC, va_K.moved hW.alike hK, (hD.sub isC hn hC).weaken (fun _ _ _ _ => trivial)⟩
theorem xPV {s : State} {H : Heap} {D : va_G} {tys : List (ClassId × FieldType)} {ws wc : va_W} {A : Nat → Prop} {b ci : Nat} {fs : List Value} {As : List Value} {qc : vw_C} (hK : va_K D vwCl tys s) (hP : va_P D vwCl ws H) (hD : va_D A ws) (isC : List Nat) (hC : isC.map (fun i => ws[i]?) = wc.map some) (hn : va_nd isC = true) (q0 : Nat) (he : wc[q0]? = some (b, .inr (ci, fs))) (hc : vwCl[ci]? = some qc) : PreV s H qc.1 b (va_Pc (.ref b :: As) (xB D tys wc H.size)) As :=
  ⟨xB_blind, va_recv hK (xPs hP isC hC) hc he, fun _ hU hW => ⟨rfl, xB_at hK hP hD isC hC hn hU hW⟩⟩
theorem xPVN {s : State} {H : Heap} {D : va_G} {tys : List (ClassId × FieldType)} {ws wc : va_W} {A : Nat → Prop} {b ci : Nat} {fs : List Value} {As : List Value} {qc : vw_C} (hN : xN s) (hK : va_K D vwCl tys s) (hP : va_P D vwCl ws H) (hD : va_D A ws) (isC : List Nat) (hC : isC.map (fun i => ws[i]?) = wc.map some) (hn : va_nd isC = true) (q0 : Nat) (he : wc[q0]? = some (b, .inr (ci, fs))) (hc : vwCl[ci]? = some qc) : PreV s H qc.1 b (va_Pc (.ref b :: As) (fun U => xB D tys wc H.size U ∧ xN U)) As :=
  ⟨xB_blindN, va_recv hK (xPs hP isC hC) hc he, fun _ hU hW => ⟨rfl, xB_at hK hP hD isC hC hn hU hW, hN.warm hW⟩⟩
theorem xPS {s : State} {H : Heap} {D : va_G} {tys : List (ClassId × FieldType)} {ws wc : va_W} {A : Nat → Prop} {As : List Value} (hK : va_K D vwCl tys s) (hP : va_P D vwCl ws H) (hD : va_D A ws) (isC : List Nat) (hC : isC.map (fun i => ws[i]?) = wc.map some) (hn : va_nd isC = true) : PreS s H (va_Pc As (xB D tys wc H.size)) As :=
  ⟨xB_blind, fun _ hU hW => ⟨rfl, xB_at hK hP hD isC hC hn hU hW⟩⟩
theorem xPSN {s : State} {H : Heap} {D : va_G} {tys : List (ClassId × FieldType)} {ws wc : va_W} {A : Nat → Prop} {As : List Value} (hN : xN s) (hK : va_K D vwCl tys s) (hP : va_P D vwCl ws H) (hD : va_D A ws) (isC : List Nat) (hC : isC.map (fun i => ws[i]?) = wc.map some) (hn : va_nd isC = true) : PreS s H (va_Pc As (fun U => xB D tys wc H.size U ∧ xN U)) As :=
  ⟨xB_blindN, fun _ hU hW => ⟨rfl, xB_at hK hP hD isC hC hn hU hW, hN.warm hW⟩⟩
section
variable {p : Program} {l : Launch} {e : Env} {R : Room} {s : State} {m : MethodId} {args : Array Value} {below : List Frame} {meth : Method} {c : Code} {H : Heap} {locs : List Loc} {cells slots : Nat} {Q : State → Prop} {pc : Nat} {ls : Array Slot} {st0 rest : List Value} {mc ms : Nat} {a : Array Value} {A : Nat → Prop} {H0 : Heap} {D : va_G} {tys tys' : List (ClassId × FieldType)} {ws wc wr : va_W} {cc : ByteArray}
/-- a call that answers an int: the callee's cells are cut out by their places, what comes back stands behind the rest -/
theorem xci {S : Type} {post : Int32 → S → Prop} {w1 : S → va_W} (hr : va_Run p l e R s m args below meth c H locs cells slots mc ms (F0 m pc ls st0) rest (va_Qi post (fun u t => xA D tys' (w1 u) (va_A wc H.size) t) (va_A wc H.size) a) (va_A wc H.size))
    (hP : va_P D vwCl ws H) (hD : va_D A ws) (hS : va_S A H0 H locs) (hA : ∀ q, H0.size ≤ q → A q) (isC isR : List Nat) (hC : isC.map (fun i => ws[i]?) = wc.map some) (hR : isR.map (fun i => ws[i]?) = wr.map some) (hn : va_nd isR = true) (hdis : ∀ i ∈ isR, i ∉ isC)
    (kk : ∀ (r : Int32) (u : S) (H1 : Heap) (locs1 : List Loc), post r u → va_P D vwCl (wr ++ w1 u) H1 → va_D A (wr ++ w1 u) → va_S A H0 H1 locs1 → W p l e R s m args below meth c H1 locs1 (cells + mc) (slots + ms) Q (F0 m (pc + 3) ls (.int r :: rest))) : W p l e R s m args below meth c H locs cells slots Q (F0 m pc ls st0) := by
  have hF := va_free (wc := wc) hD hS hA isC hC
  refine va_calli hr hS (fun q _ h => hF q h) hF (fun r u t H1 locs1 ht hvm hw hB hz1 hk1 hS1 => ?_)
  obtain ⟨hP1, -, hD1⟩ := hB
  rw [ht] at hP1
  obtain ⟨x1, x2⟩ := va_join hP hD isC isR hC hR hn hdis hk1 hF hP1 hD1
  exact kk r u H1 locs1 hw x1 x2 hS1
theorem xcl {S : Type} {post : Int64 → S → Prop} {w1 : S → va_W} (hr : va_Run p l e R s m args below meth c H locs cells slots mc ms (F0 m pc ls st0) rest (va_Ql post (fun u t => xA D tys' (w1 u) (va_A wc H.size) t) (va_A wc H.size) a) (va_A wc H.size))
    (hP : va_P D vwCl ws H) (hD : va_D A ws) (hS : va_S A H0 H locs) (hA : ∀ q, H0.size ≤ q → A q) (isC isR : List Nat) (hC : isC.map (fun i => ws[i]?) = wc.map some) (hR : isR.map (fun i => ws[i]?) = wr.map some) (hn : va_nd isR = true) (hdis : ∀ i ∈ isR, i ∉ isC)
    (kk : ∀ (r : Int64) (u : S) (H1 : Heap) (locs1 : List Loc), post r u → va_P D vwCl (wr ++ w1 u) H1 → va_D A (wr ++ w1 u) → va_S A H0 H1 locs1 → W p l e R s m args below meth c H1 locs1 (cells + mc) (slots + ms) Q (F0 m (pc + 3) ls (.long r :: rest))) : W p l e R s m args below meth c H locs cells slots Q (F0 m pc ls st0) := by
  have hF := va_free (wc := wc) hD hS hA isC hC
  refine va_calll hr hS (fun q _ h => hF q h) hF (fun r u t H1 locs1 ht hvm hw hB hz1 hk1 hS1 => ?_)
  obtain ⟨hP1, -, hD1⟩ := hB
  rw [ht] at hP1
  obtain ⟨x1, x2⟩ := va_join hP hD isC isR hC hR hn hdis hk1 hF hP1 hD1
  exact kk r u H1 locs1 hw x1 x2 hS1
theorem xcv {S : Type} {post : S → Prop} {w1 : S → va_W} (hr : va_Run p l e R s m args below meth c H locs cells slots mc ms (F0 m pc ls st0) rest (va_Qv post (fun u t => xA D tys' (w1 u) (va_A wc H.size) t) (va_A wc H.size) a) (va_A wc H.size))
    (hP : va_P D vwCl ws H) (hD : va_D A ws) (hS : va_S A H0 H locs) (hA : ∀ q, H0.size ≤ q → A q) (isC isR : List Nat) (hC : isC.map (fun i => ws[i]?) = wc.map some) (hR : isR.map (fun i => ws[i]?) = wr.map some) (hn : va_nd isR = true) (hdis : ∀ i ∈ isR, i ∉ isC)
    (kk : ∀ (u : S) (H1 : Heap) (locs1 : List Loc), post u → va_P D vwCl (wr ++ w1 u) H1 → va_D A (wr ++ w1 u) → va_S A H0 H1 locs1 → W p l e R s m args below meth c H1 locs1 (cells + mc) (slots + ms) Q (F0 m (pc + 3) ls rest)) : W p l e R s m args below meth c H locs cells slots Q (F0 m pc ls st0) := by
  have hF := va_free (wc := wc) hD hS hA isC hC
  refine va_callv hr hS (fun q _ h => hF q h) hF (fun u t H1 locs1 ht hvm hw hB hz1 hk1 hS1 => ?_)
  obtain ⟨hP1, -, hD1⟩ := hB
  rw [ht] at hP1
  obtain ⟨x1, x2⟩ := va_join hP hD isC isR hC hR hn hdis hk1 hF hP1 hD1
  exact kk u H1 locs1 hw x1 x2 hS1
/-- the top of the stack under another name -/
theorem xti {x y : Int32} (h : x = y) (k : W p l e R s m args below meth c H locs cells slots Q (F0 m pc ls (.int y :: rest))) : W p l e R s m args below meth c H locs cells slots Q (F0 m pc ls (.int x :: rest)) := by subst h; exact k
theorem xtl {x y : Int64} (h : x = y) (k : W p l e R s m args below meth c H locs cells slots Q (F0 m pc ls (.long y :: rest))) : W p l e R s m args below meth c H locs cells slots Q (F0 m pc ls (.long x :: rest)) := by subst h; exact k
variable {nL : Nat} {Ts : List Cond} {own : String} {g : JFrame} {a0 : Nat}
/-- two roads meet at J: a walk from there for every x, then the walk that comes there -/
theorem xjoin {X : Type} (P : X → Prop) (w1 : X → va_W) (lv1 : X → List (Nat × Value)) (st1 : X → List Value) (J : Nat)
    (kJ : ∀ (x : X) (H1 : Heap) (locs1 : List Loc) (ls1 : Array Slot), P x → va_P D vwCl (w1 x) H1 → va_D A (w1 x) → va_S A H0 H1 locs1 → lv_has ls1 nL (lv1 x) → W p l e R s m args below meth c H1 locs1 cells slots Q (F0 m J ls1 (st1 x)))
    (k : (∀ (x : X) (H1 : Heap) (locs1 : List Loc) (ls1 : Array Slot), P x → va_P D vwCl (w1 x) H1 → va_D A (w1 x) → va_S A H0 H1 locs1 → lv_has ls1 nL (lv1 x) → W p l e R s m args below meth c H1 locs1 cells slots Q (F0 m J ls1 (st1 x))) → W p l e R s m args below meth c H locs cells slots Q g) : W p l e R s m args below meth c H locs cells slots Q g := k kJ
/-- a loop with its head at J, by a measure -/
theorem xloop {X : Type} (P : X → Prop) (μ : X → Nat) (w1 : X → va_W) (lv1 : X → List (Nat × Value)) (st1 : X → List Value) (J : Nat)
    (step : ∀ (x : X) (H1 : Heap) (locs1 : List Loc) (ls1 : Array Slot), P x → va_P D vwCl (w1 x) H1 → va_D A (w1 x) → va_S A H0 H1 locs1 → lv_has ls1 nL (lv1 x) → (∀ (y : X) (H2 : Heap) (locs2 : List Loc) (ls2 : Array Slot), P y → μ y < μ x → va_P D vwCl (w1 y) H2 → va_D A (w1 y) → va_S A H0 H2 locs2 → lv_has ls2 nL (lv1 y) → W p l e R s m args below meth c H2 locs2 cells slots Q (F0 m J ls2 (st1 y))) → W p l e R s m args below meth c H1 locs1 cells slots Q (F0 m J ls1 (st1 x)))
    (x : X) (H1 : Heap) (locs1 : List Loc) (ls1 : Array Slot) (hx : P x) (hP : va_P D vwCl (w1 x) H1) (hD : va_D A (w1 x)) (hS : va_S A H0 H1 locs1) (hl : lv_has ls1 nL (lv1 x)) : W p l e R s m args below meth c H1 locs1 cells slots Q (F0 m J ls1 (st1 x)) := by
  have key : ∀ (n : Nat) (x : X) (H1 : Heap) (locs1 : List Loc) (ls1 : Array Slot), μ x < n → P x → va_P D vwCl (w1 x) H1 → va_D A (w1 x) → va_S A H0 H1 locs1 → lv_has ls1 nL (lv1 x) → W p l e R s m args below meth c H1 locs1 cells slots Q (F0 m J ls1 (st1 x)) := by
    intro n
    induction n with
    | zero => intro x H1 locs1 ls1 h; exact absurd h (Nat.not_lt_zero _)
    | succ n ih => intro x H1 locs1 ls1 h h1 h2 h3 h4 h5; exact step x H1 locs1 ls1 h1 h2 h3 h4 h5 (fun y H2 locs2 ls2 g1 g2 g3 g4 g5 g6 => ih y H2 locs2 ls2 (Nat.lt_of_lt_of_le g2 (Nat.le_of_lt_succ h)) g1 g3 g4 g5 g6)
  exact key (μ x + 1) x H1 locs1 ls1 (Nat.lt_succ_self _) hx hP hD hS hl
/-- arrays at a known place -/
theorem xiald (hexec : p.tables.exec = Jvm.exec) (hb : c.code = cc) (hK : va_K D vwCl tys s) (hP : va_P D vwCl ws H) (q0 t0 : Nat) {cA : ClassId} {n : Nat} {f : Nat → Int32} (ha : ws[q0]? = some (a0, .inl (cA, n, .inl f))) (ht : tys[t0]? = some (cA, .int)) {k : Nat} (hk : k < n) (hn : n < 1000000) (hdg : decode cc pc = .ok (.iaload, 1))
    (kk : W p l e R s m args below meth c H locs cells slots Q (F0 m (pc + 1) ls (.int (f k) :: rest))) : W p l e R s m args below meth c H locs cells slots Q (F0 m pc ls (.int (nI k) :: .ref a0 :: rest)) :=
  va_iald hexec hb hK hP q0 t0 ha ht (vp_in_nI hk (by omega)) hdg (by rw [nI_clamp (by omega)]; exact kk)
theorem xzald (hexec : p.tables.exec = Jvm.exec) (hb : c.code = cc) (hK : va_K D vwCl tys s) (hP : va_P D vwCl ws H) (q0 t0 : Nat) {cA : ClassId} {n : Nat} {f : Nat → Int32} (ha : ws[q0]? = some (a0, .inl (cA, n, .inl f))) (ht : tys[t0]? = some (cA, .boolean)) {k : Nat} (hk : k < n) (hn : n < 1000000) (hdg : decode cc pc = .ok (.baload, 1))
    (kk : W p l e R s m args below meth c H locs cells slots Q (F0 m (pc + 1) ls (.int (f k) :: rest))) : W p l e R s m args below meth c H locs cells slots Q (F0 m pc ls (.int (nI k) :: .ref a0 :: rest)) :=
  va_zald hexec hb hK hP q0 t0 ha ht (vp_in_nI hk (by omega)) hdg (by rw [nI_clamp (by omega)]; exact kk)
theorem xlald (hexec : p.tables.exec = Jvm.exec) (hb : c.code = cc) (hK : va_K D vwCl tys s) (hP : va_P D vwCl ws H) (q0 t0 : Nat) {cA : ClassId} {n : Nat} {f : Nat → Int64} (ha : ws[q0]? = some (a0, .inl (cA, n, .inr (.inl f)))) (ht : tys[t0]? = some (cA, .long)) {k : Nat} (hk : k < n) (hn : n < 1000000) (hdg : decode cc pc = .ok (.laload, 1))
    (kk : W p l e R s m args below meth c H locs cells slots Q (F0 m (pc + 1) ls (.long (f k) :: rest))) : W p l e R s m args below meth c H locs cells slots Q (F0 m pc ls (.int (nI k) :: .ref a0 :: rest)) :=
  va_lald hexec hb hK hP q0 t0 ha ht (vp_in_nI hk (by omega)) hdg (by rw [nI_clamp (by omega)]; exact kk)
theorem xiast (hexec : p.tables.exec = Jvm.exec) (hb : c.code = cc) (hK : va_K D vwCl tys s) (hP : va_P D vwCl ws H) (hD : va_D A ws) (hS : va_S A H0 H locs) (q0 t0 : Nat) {cA : ClassId} {n : Nat} {f : Nat → Int32} (ha : ws[q0]? = some (a0, .inl (cA, n, .inl f))) (ht : tys[t0]? = some (cA, .int)) {k : Nat} {x : Int32} (hk : k < n) (hn : n < 1000000) (hdg : decode cc pc = .ok (.iastore, 1))
    (kk : ∀ (H1 : Heap) (locs1 : List Loc), va_P D vwCl (ws.set q0 (a0, .inl (cA, n, .inl (upd f k x)))) H1 → va_D A (ws.set q0 (a0, .inl (cA, n, .inl (upd f k x)))) → va_S A H0 H1 locs1 → W p l e R s m args below meth c H1 locs1 cells slots Q (F0 m (pc + 1) ls rest)) : W p l e R s m args below meth c H locs cells slots Q (F0 m pc ls (.int x :: .int (nI k) :: .ref a0 :: rest)) :=
  va_iast hexec hb hK hP hD hS q0 t0 ha ht (vp_in_nI hk (by omega)) hdg (fun H1 locs1 a1 a2 a3 => by rw [nI_clamp (by omega)] at a1 a2; exact kk H1 locs1 a1 a2 a3)
theorem xzast (hexec : p.tables.exec = Jvm.exec) (hb : c.code = cc) (hK : va_K D vwCl tys s) (hP : va_P D vwCl ws H) (hD : va_D A ws) (hS : va_S A H0 H locs) (q0 t0 : Nat) {cA : ClassId} {n : Nat} {f : Nat → Int32} (ha : ws[q0]? = some (a0, .inl (cA, n, .inl f))) (ht : tys[t0]? = some (cA, .boolean)) {k : Nat} {x : Int32} (hk : k < n) (hn : n < 1000000) (hx : x = 0 ∨ x = 1) (hdg : decode cc pc = .ok (.bastore, 1))
    (kk : ∀ (H1 : Heap) (locs1 : List Loc), va_P D vwCl (ws.set q0 (a0, .inl (cA, n, .inl (upd f k x)))) H1 → va_D A (ws.set q0 (a0, .inl (cA, n, .inl (upd f k x)))) → va_S A H0 H1 locs1 → W p l e R s m args below meth c H1 locs1 cells slots Q (F0 m (pc + 1) ls rest)) : W p l e R s m args below meth c H locs cells slots Q (F0 m pc ls (.int x :: .int (nI k) :: .ref a0 :: rest)) :=
  va_zast hexec hb hK hP hD hS q0 t0 ha ht (vp_in_nI hk (by omega)) hdg (fun H1 locs1 a1 a2 a3 => by rw [nI_clamp (by omega), show vp_nar .boolean x = x by rcases hx with rfl | rfl <;> rfl] at a1 a2; exact kk H1 locs1 a1 a2 a3)
theorem xlast (hexec : p.tables.exec = Jvm.exec) (hb : c.code = cc) (hK : va_K D vwCl tys s) (hP : va_P D vwCl ws H) (hD : va_D A ws) (hS : va_S A H0 H locs) (q0 t0 : Nat) {cA : ClassId} {n : Nat} {f : Nat → Int64} (ha : ws[q0]? = some (a0, .inl (cA, n, .inr (.inl f)))) (ht : tys[t0]? = some (cA, .long)) {k : Nat} {x : Int64} (hk : k < n) (hn : n < 1000000) (hdg : decode cc pc = .ok (.lastore, 1))
    (kk : ∀ (H1 : Heap) (locs1 : List Loc), va_P D vwCl (ws.set q0 (a0, .inl (cA, n, .inr (.inl (vp_updL f k x))))) H1 → va_D A (ws.set q0 (a0, .inl (cA, n, .inr (.inl (vp_updL f k x))))) → va_S A H0 H1 locs1 → W p l e R s m args below meth c H1 locs1 cells slots Q (F0 m (pc + 1) ls rest)) : W p l e R s m args below meth c H locs cells slots Q (F0 m pc ls (.long x :: .int (nI k) :: .ref a0 :: rest)) :=
  va_last hexec hb hK hP hD hS q0 t0 ha ht (vp_in_nI hk (by omega)) hdg (fun H1 locs1 a1 a2 a3 => by rw [nI_clamp (by omega)] at a1 a2; exact kk H1 locs1 a1 a2 a3)
theorem xri {v : Int32} {S : Type} {post : Int32 → S → Prop} {w1 : S → va_W} (hf : CallFix p m c cc nL s args Ts own) (hr : meth.sig.returnType = some .int) (hlk : meth.locks = false) (u : S) (hp : post v u) (hP : va_P D vwCl (w1 u) H) (hD : va_D A (w1 u)) (hK : va_K D vwCl tys s) (hS : va_S A s.heap H locs) (d : decode cc pc = .ok (.ireturn, 1)) :
    W p l e R s m args below meth c H locs cells slots (MQ below (va_Qi post (fun u t => xA D tys (w1 u) A t) A) args s cells slots A) (F0 m pc ls [.int v]) :=
  W.iret hf.1 hf.2.1 hr (fun t ht hW => ⟨⟨v, u, rfl, hp, by rw [ht]; exact hP, va_K.moved hW.alike hK, hD⟩, hS.F ht⟩) hS.2.2 d hlk
theorem xrz {v : Int32} {S : Type} {post : Int32 → S → Prop} {w1 : S → va_W} (hf : CallFix p m c cc nL s args Ts own) (hr : meth.sig.returnType = some .boolean) (hlk : meth.locks = false) (u : S) (hz : narrow .boolean (.int v) = .int v) (hp : post v u) (hP : va_P D vwCl (w1 u) H) (hD : va_D A (w1 u)) (hK : va_K D vwCl tys s) (hS : va_S A s.heap H locs) (d : decode cc pc = .ok (.ireturn, 1)) :
    W p l e R s m args below meth c H locs cells slots (MQ below (va_Qi post (fun u t => xA D tys (w1 u) A t) A) args s cells slots A) (F0 m pc ls [.int v]) :=
  W.zret hf.1 hf.2.1 hr hz (fun t ht hW => ⟨⟨v, u, rfl, hp, by rw [ht]; exact hP, va_K.moved hW.alike hK, hD⟩, hS.F ht⟩) hS.2.2 d hlk
theorem xrl {v : Int64} {S : Type} {post : Int64 → S → Prop} {w1 : S → va_W} (hf : CallFix p m c cc nL s args Ts own) (hr : meth.sig.returnType = some .long) (hlk : meth.locks = false) (u : S) (hp : post v u) (hP : va_P D vwCl (w1 u) H) (hD : va_D A (w1 u)) (hK : va_K D vwCl tys s) (hS : va_S A s.heap H locs) (d : decode cc pc = .ok (.lreturn, 1)) :
    W p l e R s m args below meth c H locs cells slots (MQ below (va_Ql post (fun u t => xA D tys (w1 u) A t) A) args s cells slots A) (F0 m pc ls [.long v]) :=
  W.lret hf.1 hf.2.1 hr (fun t ht hW => ⟨⟨v, u, rfl, hp, by rw [ht]; exact hP, va_K.moved hW.alike hK, hD⟩, hS.F ht⟩) hS.2.2 d hlk
theorem xrv {S : Type} {post : S → Prop} {w1 : S → va_W} (hf : CallFix p m c cc nL s args Ts own) (hr : meth.sig.returnType = none) (hlk : meth.locks = false) (u : S) (hp : post u) (hP : va_P D vwCl (w1 u) H) (hD : va_D A (w1 u)) (hK : va_K D vwCl tys s) (hS : va_S A s.heap H locs) (d : decode cc pc = .ok (.return_, 1)) :
    W p l e R s m args below meth c H locs cells slots (MQ below (va_Qv post (fun u t => xA D tys (w1 u) A t) A) args s cells slots A) (F0 m pc ls []) :=
  W.vret hf.1 hf.2.1 hr (fun t ht hW => ⟨⟨u, rfl, hp, by rw [ht]; exact hP, va_K.moved hW.alike hK, hD⟩, hS.F ht⟩) hS.2.2 d hlk
end
/-- a contract in the standard form out of the walk of the body -/
theorem xMet {l : Launch} {y : MethodName} {ws ws' : List Cond} {rm : Room} {av : List Value} {D : va_G} {tys : List (ClassId × FieldType)} {w0 : va_W} {sz : Nat} {QF : (Nat → Prop) → Array Value → State → Outcome → State → Prop} {mc ms : Nat} {cc : ByteArray} {maxL : Nat} {ret : Option FieldType}
    (hy : plainName y.cls = true) (hw : ws = Cond.code y cc maxL ret :: ws') (hv : (lg_sl av).length ≤ maxL)
    (body : ∀ (p : Program) (e : Env) (s : State) (m : MethodId) (below : List Frame) (meth : Method) (c : Code) (ls : Array Slot) (A : Nat → Prop), CallFix p m c cc maxL s av.toArray ws y.cls → meth.sig.returnType = ret → meth.locks = false → meth.name = y.name → va_K D vwCl tys s → va_P D vwCl w0 s.heap → va_D A w0 → (∀ q, s.heap.size ≤ q → A q) → va_S A s.heap s.heap [] → lv_has ls maxL (lv_args 0 av) →
      W p l e rm s m av.toArray below meth c s.heap [] 0 0 (MQ below (QF A) av.toArray s mc ms A) (F0 m 0 ls [])) : Met l y ws rm (va_Pc av (xB D tys w0 sz)) (QF (va_A w0 sz)) mc ms (va_A w0 sz) := by
  refine Met.ofW (cc := cc) (maxL := maxL) (ret := ret) hy hw ?_
  intro p e s m args below meth c s₁ B hml hv'
  obtain ⟨rfl, hsz, hP, hK, hD0⟩ := hv'
  subst hsz
  rw [lg_entry_eq]
  exact body p e s m below meth c _ (va_A w0 s.heap.size) ⟨B.exec, B.bytes, hml, findClass_of_methodNamed B.named, atoms_spec (ws := ws) B.pre⟩ B.returns B.notSynchronized (name_of_methodNamed B.named B.method).1 hK hP hD0.self (fun q h => Or.inr h) va_S.rf (lv_entry av hv)
theorem xMetN {l : Launch} {y : MethodName} {ws ws' : List Cond} {rm : Room} {av : List Value} {D : va_G} {tys : List (ClassId × FieldType)} {w0 : va_W} {sz : Nat} {QF : (Nat → Prop) → Array Value → State → Outcome → State → Prop} {mc ms : Nat} {cc : ByteArray} {maxL : Nat} {ret : Option FieldType}
    (hy : plainName y.cls = true) (hw : ws = Cond.code y cc maxL ret :: ws') (hv : (lg_sl av).length ≤ maxL)
    (body : ∀ (p : Program) (e : Env) (s : State) (m : MethodId) (below : List Frame) (meth : Method) (c : Code) (ls : Array Slot) (A : Nat → Prop), CallFix p m c cc maxL s av.toArray ws y.cls → meth.sig.returnType = ret → meth.locks = false → meth.name = y.name → va_K D vwCl tys s → va_P D vwCl w0 s.heap → va_D A w0 → (∀ q, s.heap.size ≤ q → A q) → va_S A s.heap s.heap [] → lv_has ls maxL (lv_args 0 av) → xN s →
      W p l e rm s m av.toArray below meth c s.heap [] 0 0 (MQ below (QF A) av.toArray s mc ms A) (F0 m 0 ls [])) : Met l y ws rm (va_Pc av (fun U => xB D tys w0 sz U ∧ xN U)) (QF (va_A w0 sz)) mc ms (va_A w0 sz) := by
  refine Met.ofW (cc := cc) (maxL := maxL) (ret := ret) hy hw ?_
  intro p e s m args below meth c s₁ B hml hv'
  obtain ⟨rfl, ⟨hsz, hP, hK, hD0⟩, hN⟩ := hv'
  subst hsz
  rw [lg_entry_eq]
  exact body p e s m below meth c _ (va_A w0 s.heap.size) ⟨B.exec, B.bytes, hml, findClass_of_methodNamed B.named, atoms_spec (ws := ws) B.pre⟩ B.returns B.notSynchronized (name_of_methodNamed B.named B.method).1 hK hP hD0.self (fun q h => Or.inr h) va_S.rf (lv_entry av hv) hN
/-- one array class of a kind -/
theorem xKi {D : va_G} {cl : List vw_C} {tys : List (ClassId × FieldType)} {s : State} {c1 c2 : ClassId} (hK : va_K D cl tys s) (i j : Nat) (h1 : tys[i]? = some (c1, .int)) (h2 : tys[j]? = some (c2, .int)) : c1 = c2 :=
  Option.some.inj ((show s.vm.findClass _ = some c1 from (hK.2 i _ h1).2).symm.trans (show s.vm.findClass _ = some c2 from (hK.2 j _ h2).2))
theorem xKz {D : va_G} {cl : List vw_C} {tys : List (ClassId × FieldType)} {s : State} {c1 c2 : ClassId} (hK : va_K D cl tys s) (i j : Nat) (h1 : tys[i]? = some (c1, .boolean)) (h2 : tys[j]? = some (c2, .boolean)) : c1 = c2 :=
  Option.some.inj ((show s.vm.findClass _ = some c1 from (hK.2 i _ h1).2).symm.trans (show s.vm.findClass _ = some c2 from (hK.2 j _ h2).2))
theorem xKj {D : va_G} {cl : List vw_C} {tys : List (ClassId × FieldType)} {s : State} {c1 c2 : ClassId} (hK : va_K D cl tys s) (i j : Nat) (h1 : tys[i]? = some (c1, .long)) (h2 : tys[j]? = some (c2, .long)) : c1 = c2 :=
  Option.some.inj ((show s.vm.findClass _ = some c1 from (hK.2 i _ h1).2).symm.trans (show s.vm.findClass _ = some c2 from (hK.2 j _ h2).2))
/-- a boolean is 0 or 1 -/
theorem xnz {x : Int32} (h : x = 0 ∨ x = 1) : narrow .boolean (.int x) = .int x := by rcases h with rfl | rfl <;> rfl
theorem xfz {x : Int32} (h : x = 0 ∨ x = 1) : fits .boolean (.int x) = true := by rcases h with rfl | rfl <;> rfl
theorem xvz {x : Int32} (h : x = 0 ∨ x = 1) : vp_nar .boolean x = x := by rcases h with rfl | rfl <;> rfl
end XK
