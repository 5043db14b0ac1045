/-! THE CLAIM OUT OF ONE WALK OF THE LAW'S BODY. Your part is whole_start (and what it stands on); all else here is the same for every law, but numbers. -/
def R_law : String := "BarrierbookLaw"
def lw_P (b : Addr) (xs : List Int32) (args : Array Value) (s : State) : Prop := args = #[.ref b] ∧ s.IntsAt b xs ∧ xs.length ≤ 260 ∧ (Jvm.Cond.and given_1 narrow_1).before args s = true
def lw_Q (_ : Array Value) (s : State) (o : Outcome) (t : State) : Prop := o = .returned (some (.int 1)) ∧ Framed s o t [] 122 4434
def lw_Z (below : List Frame) (a : Array Value) (s : State) : State → Prop := fun t => ∃ o, t.status = .running ∧ Ended t below o ∧ lw_Q a s o t
/-- the law's own end, with 1 on the stack, nothing written that was there before, its room as the claim has it -/
theorem lw_ret {p : Program} {l : Launch} {e : Env} {s : State} {m : MethodId} {below : List Frame} {meth : Method} {c : Code} {b : Nat} (hx : p.tables.exec = Jvm.exec) (hb : c.code = code) (hr : meth.sig.returnType = ret) (hlocks : meth.locks = false) {pc : Nat} {H : Heap} {ls : Array Slot} (hdg : decode code pc = .ok (.ireturn, 1)) : W p l e room_1 s m #[Value.ref b] below meth c H [] 122 4434 (lw_Z below #[Value.ref b] s) (F0 m pc ls [.int 1]) := by
  intro T hT X
  obtain ⟨fs, hret, hrun, hended, hW, hframe⟩ := X.leave (v := some (.int 1)) (hlocks := hlocks) (fun h => by rw [hr] at h; cases h)
  have hmeth' : T.vm.method? m = some meth := X.method'
  refine ⟨T.setFrames fs, ?_, .returned (some (.int 1)), hrun, hended, rfl, ⟨_, rfl⟩, hW, hframe⟩
  jvm_step X.here [X.here.top, hx, hb, hdg, hmeth', hr, ret, narrow_b1]
  (try refine ⟨rfl, ?_⟩); (try refine ⟨rfl, ?_⟩)
  first | (intro acts; rw [hret _ acts rfl rfl rfl]) | rw [hret _ _ rfl rfl rfl]
  exact Steps.refl _
/-- what holds at the law's entry: the machine, the code, the tables' words (any of lw_tbl by 'hts w (by decide +kernel)'), the script of L ints xs at the cell b, what the Statement gives of the start (any of its parts by flat_of_before) -/
def lw_At (p : Program) (s : State) (m : MethodId) (meth : Method) (c : Code) (b L : Nat) (xs : Nat → Int32) : Prop :=
  p.tables.exec = Jvm.exec ∧ c.code = code ∧ meth.sig.returnType = ret ∧ c.maxLocals = 11 ∧ s.vm.findClass R_law = some m.cls ∧ (∀ w ∈ lw_tbl, w.before #[Value.ref b] s = true) ∧ va_X b L xs s s.heap ∧ b < s.heap.size ∧ meth.locks = false ∧ (Jvm.Cond.and given_1 narrow_1).before #[Value.ref b] s = true
/-- the end, told with the number of cells -/
theorem lw_ret9 {p : Program} {l : Launch} {e : Env} {s : State} {m : MethodId} {below : List Frame} {meth : Method} {c : Code} {b : Nat} (hx : p.tables.exec = Jvm.exec) (hb : c.code = code) (hr : meth.sig.returnType = ret) (hlocks : meth.locks = false) {pc : Nat} {H : Heap} {locs : List Loc} {cells slots : Nat} {ls : Array Slot} (hz : s.heap.size + 128 ≤ H.size) (hdg : decode code pc = .ok (.ireturn, 1)) : W p l e R9 s m #[Value.ref b] below meth c H locs cells slots (fun t => ∃ o, t.status = .running ∧ Ended t below o ∧ (∃ v, o = .returned v) ∧ s.heap.size + 128 ≤ t.heap.size) (F0 m pc ls [.int 1]) := by
  intro T hT X
  obtain ⟨fs, hret, hrun, hended, hW, hframe⟩ := X.leave (v := some (.int 1)) (hlocks := hlocks) (fun h => by rw [hr] at h; cases h)
  have hmeth' : T.vm.method? m = some meth := X.method'
  have hz9 : s.heap.size + 128 ≤ (T.setFrames fs).heap.size := by show s.heap.size + 128 ≤ T.heap.size; rw [hT]; exact hz
  refine ⟨T.setFrames fs, ?_, .returned (some (.int 1)), hrun, hended, ⟨_, rfl⟩, hz9⟩
  jvm_step X.here [X.here.top, hx, hb, hdg, hmeth', hr, ret, narrow_b1]
  (try refine ⟨rfl, ?_⟩); (try refine ⟨rfl, ?_⟩)
  first | (intro acts; rw [hret _ acts rfl rfl rfl]) | rw [hret _ _ rfl rfl rfl]
  exact Steps.refl _
set_option maxHeartbeats 8000000 in
set_option maxRecDepth 100000 in
theorem law_loop (l : Launch) {p : Program} {e : Env} {s : State} {m : MethodId} {below : List Frame} {meth : Method} {c : Code} {b L : Nat} {xs : Nat → Int32} {dC : Nat → ClassId} {dI : Nat → Nat → Nat} {cI cZ cJ : ClassId} {sa : Nat → Nat} {A : Nat → Prop} {h0 n0 a0 b0 w0 k0 t0 br es qr qp qe : Nat} (hr : meth.sig.returnType = ret) (hlocks : meth.locks = false) (hst : l.stackTraces = false) (hf : CallFix p m c code 11 s #[Value.ref b] wsL_law RL) (hK : va_K (dC, dI) vwCl (xT cI cZ cJ) s) (hXN : xN s) (hV : xV sa s) (hZ : xZ A s s.heap) (hA : ∀ q, s.heap.size ≤ q → A q) (hX : va_X b L xs s s.heap) (hbl : b < s.heap.size) (hbA : ¬ A b) (hL : L ≤ 260) (hL50 : 50 ≤ L) (h13 : ∀ j, j < 50 → xs j = 13) : ∀ (k n : Nat), n + k = 50 → ∀ (zz : xLX) (H : Heap) (locs : List Loc) (ls : Array Slot), va_P (dC, dI) vwCl (xLW cI cZ cJ h0 n0 a0 b0 w0 k0 t0 br es qr qp qe zz) H → va_D A (xLW cI cZ cJ h0 n0 a0 b0 w0 k0 t0 br es qr qp qe zz) → va_S A s.heap H locs → lv_has ls 11 (xLL b h0 qr qp qe n) → s.heap.size + cnt n ≤ H.size → W p l e R9 s m #[Value.ref b] below meth c H locs (80 + 20 * n) (4200 + 120 * n) (fun t => ∃ o, t.status = .running ∧ Ended t below o ∧ (∃ v, o = .returned v) ∧ s.heap.size + 128 ≤ t.heap.size) (F0 m 138 ls []) := by
  intro k
  induction k with
  | zero =>
    intro n hn zz H locs ls hP hD hS hl hz
    obtain rfl : n = 50 := by omega
    obtain ⟨hx, hb, hml, hown, hts⟩ := id hf
    have hl : lv_has ls 11 [(0, .ref b), (1, .ref h0), (2, .ref qr), (3, .ref qp), (4, .ref qe), (5, .int 1), (6, .int (nI 50))] := hl
    refine lv_iload hx hb dL_law_138 (lv_at hl 6 rfl) ?_
    refine lv_bipush (v := 50) hx hb dL_law_140 (by decide) ?_
    refine lv_icmp_ge (tgt := 818) hx hb dL_law_142 (by decide) (fun c_142 => ?_) (fun c_142 => ?_)
    · refine lv_iload hx hb dL_law_818 (lv_at hl 5 rfl) ?_
      exact lw_ret9 hx hb hr hlocks (by have h9 : cnt 50 = 128 := by decide
                                        omega) dL_law_820
    · exact absurd (show (50 : Int32) ≤ nI 50 by decide +kernel) c_142
  | succ k ih =>
    intro n hn zz H locs ls hP hD hS hl hz
    exact law_turn l hst hf hK hXN hV hZ hA hX hbl hbA hL hL50 h13 (n := n) (by omega) (ih (n + 1) (by omega)) zz H locs ls hP hD hS hl hz
