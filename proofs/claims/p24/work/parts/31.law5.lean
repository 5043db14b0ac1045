set_option maxHeartbeats 8000000 in
set_option maxRecDepth 100000 in
/-- from the entry, on a script of fifty 13s: the law comes to its end, and 128 cells and more are new -/
theorem whole9 {p : Program} {e : Env} {s : State} {m : MethodId} {below : List Frame} {meth : Method} {c : Code} (l : Launch) (hflags : l.flags = flags0) {b L : Nat} {xs : Nat → Int32} (hL : L ≤ 260) (hL50 : 50 ≤ L) (h13 : ∀ j, j < 50 → xs j = 13) (C0 : lw_At p s m meth c b L xs) : W p l e R9 s m #[Value.ref b] below meth c s.heap [] 0 0 (fun t => ∃ o, t.status = .running ∧ Ended t below o ∧ (∃ v, o = .returned v) ∧ s.heap.size + 128 ≤ t.heap.size) (entryFrame m ([Value.ref b] : List Value).toArray 11) := by
  obtain ⟨hx, hb, hr, hml, hown, hts, hX, hbl, hlocks, hgv⟩ := id C0
  have hst : l.stackTraces = false := by first | (unfold Launch.stackTraces; rw [hflags]; rfl) | (rw [Launch.stackTraces, hflags]; rfl)
  have hg := flat_of_before _ hgv
  have hf : CallFix p m c code 11 s #[Value.ref b] wsL_law RL := ⟨hx, hb, hml, hown, fun w h => hts w (wsL_law_in w h)⟩
  have hA : ∀ q : Nat, s.heap.size ≤ q → (fun q : Nat => s.heap.size ≤ q) q := fun _ h => h
  have hbA : ¬ (fun q : Nat => s.heap.size ≤ q) b := Nat.not_le.mpr hbl
  obtain ⟨c0, iS0, hKn0⟩ := u_known (C := RX0) (T := TX0) (N := 3) (n := 3) hts inX0 (hts (.instantiable RX0 3) (by decide +kernel))
  obtain ⟨c1, iS1, hKn1⟩ := u_known (C := RX1) (T := TX1) (N := 8) (n := 8) hts inX1 (hts (.instantiable RX1 8) (by decide +kernel))
  obtain ⟨c2, iS2, hKn2⟩ := u_known (C := RX2) (T := TX2) (N := 11) (n := 11) hts inX2 (hts (.instantiable RX2 11) (by decide +kernel))
  obtain ⟨c3, iS3, hKn3⟩ := u_known (C := RX3) (T := TX3) (N := 8) (n := 8) hts inX3 (hts (.instantiable RX3 8) (by decide +kernel))
  obtain ⟨c4, iS4, hKn4⟩ := u_known (C := RX4) (T := TX4) (N := 9) (n := 9) hts inX4 (hts (.instantiable RX4 9) (by decide +kernel))
  obtain ⟨c5, iS5, hKn5⟩ := u_known (C := RX5) (T := TX5) (N := 5) (n := 5) hts inX5 (hts (.instantiable RX5 5) (by decide +kernel))
  obtain ⟨dC, dI, hKc⟩ : ∃ (dC : Nat → ClassId) (dI : Nat → Nat → Nat), ∀ (k : Nat) (q : vw_C), vwCl[k]? = some q → u_Kn s q.1 q.2.1 q.2.2 (dC k) (dI k) := by
    refine ⟨fun k => match k with | 0 => c0 | 1 => c1 | 2 => c2 | 3 => c3 | 4 => c4 | _ => c5, fun k => match k with | 0 => iS0 | 1 => iS1 | 2 => iS2 | 3 => iS3 | 4 => iS4 | _ => iS5, ?_⟩
    intro k q hq
    match k, hq with
    | 0, hq => cases hq; exact hKn0
    | 1, hq => cases hq; exact hKn1
    | 2, hq => cases hq; exact hKn2
    | 3, hq => cases hq; exact hKn3
    | 4, hq => cases hq; exact hKn4
    | 5, hq => cases hq; exact hKn5
    | k + 6, hq => simp [vwCl] at hq
  obtain ⟨cI, kI, mI, hI1, hI2, hI3⟩ := Cond.arrayClass_spec (hts (.arrayClass .int) (by decide +kernel))
  obtain ⟨cZ, kZ, mZ, hZ1, hZ2, hZ3⟩ := Cond.arrayClass_spec (hts (.arrayClass .boolean) (by decide +kernel))
  obtain ⟨cJ, kJ, mJ, hJ1, hJ2, hJ3⟩ := Cond.arrayClass_spec (hts (.arrayClass .long) (by decide +kernel))
  have hK : va_K (dC, dI) vwCl (xT cI cZ cJ) s := by
    refine ⟨hKc, fun k q hk => ?_⟩
    match k, hk with
    | 0, hk => cases hk; exact ⟨fun n z => ⟨fun k h => (by cases h), kI, hI2, mI, hI3⟩, hI1⟩
    | 1, hk => cases hk; exact ⟨fun n z => ⟨fun k h => (by cases h), kZ, hZ2, mZ, hZ3⟩, hZ1⟩
    | 2, hk => cases hk; exact ⟨fun n z => ⟨fun k h => (by cases h), kJ, hJ2, mJ, hJ3⟩, hJ1⟩
    | k + 3, hk => simp [xT] at hk
  have hXN : xN s := ⟨va_Nw.of rfl (hts (.methodLinkNest RX2 11 yX0_init RX5) (by decide +kernel)), va_Nw.of rfl (hts (.methodLinkNest RX4 11 yX3_init RX5) (by decide +kernel)), va_Nw.of rfl (hts (.methodLinkNest RX4 24 yX1_init RX5) (by decide +kernel)), va_Nw.of rfl (hts (.methodLinkNest RX4 101 yX5_wholeWeightOf RX5) (by decide +kernel)), va_Nw.of rfl (hts (.methodLinkNest RX5 11 yX2_init RX5) (by decide +kernel)), va_Nw.of rfl (hts (.methodLinkNest RX5 18 yX3_init RX5) (by decide +kernel)), va_Nw.of rfl (hts (.methodLinkNest RX5 28 yX4_init RX5) (by decide +kernel))⟩
  obtain ⟨a0, cs0, ks0, kk0, hs0, -⟩ := Cond.exactly_spec (hg (.exactly (.string RX5 43) "java/lang/String") (by decide +kernel))
  obtain ⟨a1, cs1, ks1, kk1, hs1, -⟩ := Cond.exactly_spec (hg (.exactly (.string RX5 54) "java/lang/String") (by decide +kernel))
  obtain ⟨a2, cs2, ks2, kk2, hs2, -⟩ := Cond.exactly_spec (hg (.exactly (.string RX5 79) "java/lang/String") (by decide +kernel))
  obtain ⟨a3, cs3, ks3, kk3, hs3, -⟩ := Cond.exactly_spec (hg (.exactly (.string RX5 88) "java/lang/String") (by decide +kernel))
  obtain ⟨a4, cs4, ks4, kk4, hs4, -⟩ := Cond.exactly_spec (hg (.exactly (.string RX5 116) "java/lang/String") (by decide +kernel))
  obtain ⟨a5, cs5, ks5, kk5, hs5, -⟩ := Cond.exactly_spec (hg (.exactly (.string RX5 129) "java/lang/String") (by decide +kernel))
  obtain ⟨a6, cs6, ks6, kk6, hs6, -⟩ := Cond.exactly_spec (hg (.exactly (.string RX5 179) "java/lang/String") (by decide +kernel))
  have hV : xV (fun k => match k with | 0 => a0 | 1 => a1 | 2 => a2 | 3 => a3 | 4 => a4 | 5 => a5 | _ => a6) s := ⟨⟨vk_R.of (hts (.stringRef RX5 43 "the asset is not 0 or 1") (by decide +kernel)) hs0, vk_R.of (hts (.stringRef RX5 54 "first, rise or fall is out of range") (by decide +kernel)) hs1, vk_R.of (hts (.stringRef RX5 79 "the chance is out of range") (by decide +kernel)) hs2, vk_R.of (hts (.stringRef RX5 88 "periods, barrier, couponLevel, callLevel or coupon is out of range") (by decide +kernel)) hs3, vk_R.of (hts (.stringRef RX5 116 "the note is over") (by decide +kernel)) hs4, vk_R.of (hts (.stringRef RX5 129 "no move is told") (by decide +kernel)) hs5, vk_R.of (hts (.stringRef RX5 179 "the period is out of range") (by decide +kernel)) hs6⟩, ⟨va_Nw.of rfl (hts (.castable (xE 1) (xE 1)) (by decide +kernel)), va_Nw.of rfl (hts (.castable (xE 2) (xE 2)) (by decide +kernel)), va_Nw.of rfl (hts (.castable (xE 3) (xE 3)) (by decide +kernel))⟩, ⟨va_Nc.of (hg (.not (.castable (xE 2) (xE 1))) (by decide +kernel)), va_Nc.of (hg (.not (.castable (xE 3) (xE 1))) (by decide +kernel)), va_Nc.of (hg (.not (.castable (xE 3) (xE 2))) (by decide +kernel))⟩, va_Nw.of rfl (hts (.declares (Bundle.initS "java/lang/RuntimeException")) (by decide +kernel)), va_Nw.of rfl (hts (.declares (Bundle.initS "java/lang/Exception")) (by decide +kernel)), va_Nw.of rfl (hts (.declares (Bundle.initS Bundle.tN)) (by decide +kernel))⟩
  have hZ : xZ (fun q : Nat => s.heap.size ≤ q) s s.heap := ⟨vx_Zqof (hts (.laysStatic Bundle.tN "UNASSIGNED_STACK" Bundle.steD) (by decide +kernel)) (hts (.initialized Bundle.tN) (by decide +kernel)) (hg (.isRef (.static Bundle.tN "UNASSIGNED_STACK" Bundle.steD)) (by decide +kernel)) (fun a ha => Nat.not_le.mpr ha), vx_Zqof (hts (.laysStatic Bundle.tN "SUPPRESSED_SENTINEL" Bundle.listD) (by decide +kernel)) (hts (.initialized Bundle.tN) (by decide +kernel)) (hg (.isRef (.static Bundle.tN "SUPPRESSED_SENTINEL" Bundle.listD)) (by decide +kernel)) (fun a ha => Nat.not_le.mpr ha)⟩
  have hl := lv_entry ([.ref b]) (n := 11) (Nat.le_of_ble_eq_true rfl)
  rw [lg_entry_eq]
  generalize (lg_sl ([.ref b]) ++ List.replicate (11 - (lg_sl ([.ref b])).length) Slot.unset).toArray = ls at hl ⊢
  have hl : lv_has ls 11 [(0, .ref b)] := hl
  exact law_start (L := L) (xs := xs) l hst hf hK hXN hV hZ hA hl (fun h0 n0 a0 b0 w0 k0 t0 br es qr qp qe => law_loop l hr hlocks hst hf hK hXN hV hZ hA hX hbl hbA hL hL50 h13 50 0 (by omega))
set_option maxHeartbeats 4000000 in
theorem lw_walk9 (l : Launch) (hflags : l.flags = flags0) (b : Addr) (xs : List Int32) (hL50 : 50 ≤ xs.length) (h13 : ∀ j, j < 50 → xs.getD j 0 = 13) : MetFree l x (headSpec (Jvm.Cond.code x code maxLocals ret :: tables_1) R9) (lw_P b xs) (fun _ _ _ _ _ => True) (fun _ s o t => (∃ v, o = .returned v) ∧ s.heap.size + 128 ≤ t.heap.size) := by
  refine MetFree.of_bodyS (code := code) (maxLocals := maxLocals) (ret := ret) (by decide) ?_ ?_
  · intro args s m h hn
    obtain ⟨meth, c, h1, h2, h3, h4, h5, h6, -, -⟩ := Cond.code_spec hn (atoms_spec (ws := Jvm.Cond.code x code maxLocals ret :: tables_1) h _ List.mem_cons_self)
    exact ⟨meth, c, h1, h2, h3, h4, h5, h6⟩
  · intro p e s m args below meth c s₁ B hml0 hP _
    obtain ⟨rfl, hx, hbd, hgv⟩ := hP
    obtain ⟨scr, harrAt, hlist, hof, hsmall⟩ := hx
    obtain ⟨hcb, hkn, -, -⟩ := State.arrayAt?_spec harrAt
    have hown : s.vm.findClass R_law = some m.cls := findClass_of_methodNamed B.named
    have hts0 : ∀ c ∈ (Jvm.Cond.code x code maxLocals ret :: tables_1), c.before #[Value.ref b] s = true := atoms_spec (ws := Jvm.Cond.code x code maxLocals ret :: tables_1) B.pre
    have hts : ∀ w ∈ lw_tbl, w.before #[Value.ref b] s = true := k2_hts_sels lw_privs (fun w hw => hts0 w (List.mem_cons_of_mem _ hw)) lw_privs_ok
    have hml : c.maxLocals = 11 := B.maxLocals_eq (hts0 _ List.mem_cons_self)
    have X₀ : Stand p l e R9 s m #[Value.ref b] below meth c s₁ [] 0 0 := Stand.of_body B
    have hh0 : s₁.heap = s.heap := by rw [B.state]; rfl
    have hsz : scr.slots.size = xs.length := by rw [← Array.length_toList, hlist, List.length_map]
    have hval : ∀ j : Nat, j < xs.length → scr.slots[j]? = some (.int (xs.getD j 0)) := fun j hj => by
      rw [← Array.getElem?_toList, hlist]
      simp [hj]
    have hbl : b < s.heap.size := (Array.getElem?_eq_some_iff.mp hcb).1
    have hX : va_X b xs.length (fun j => xs.getD j 0) s s.heap := ⟨scr, hcb, hof, hkn, hsz, hval⟩
    have K : W p l e R9 s m #[Value.ref b] below meth c s₁.heap [] 0 0 (fun t => ∃ o, t.status = .running ∧ Ended t below o ∧ (∃ v, o = .returned v) ∧ s.heap.size + 128 ≤ t.heap.size) (entryFrame m ([Value.ref b] : List Value).toArray 11) := by
      rw [hh0]
      exact whole9 l hflags hbd hL50 h13 ⟨B.exec, B.bytes, B.returns, hml, hown, hts, hX, hbl, B.notSynchronized, hgv⟩
    obtain ⟨t, a1, o, b1, b2, b3⟩ := K s₁ rfl X₀
    exact ⟨t, o, a1, b1, b2, b3⟩

theorem lw_pre_spec {args : Array Value} {s : State} (h : (Jvm.Cond.and given_1 narrow_1).before args s = true) (hr : rest_1_c.before args s = true) : ∃ (b : Addr) (xs : List Int32), lw_P b xs args s := by
  have hs := flat_of_before _ h
  have hq := flat_of_before _ hr
  have hc : (Cond.count 1).before args s = true := hs _ (by decide +kernel)
  have harr : (Cond.arrayOf (.arg 0) .int).before args s = true := hs _ (by decide +kernel)
  have hle : (Cond.le (.length (.arg 0)) (.int 260)).before args s = true := hs _ (by decide +kernel)
  have hlen : (Cond.isInt (.length (.arg 0))).before args s = true := hq _ (by decide +kernel)
  have hall : (Cond.all (.arg 0) (.isInt (.elem (.arg 0) (.index 0)))).before args s = true := hq _ (by decide +kernel)
  obtain ⟨b, xs, hb, hx⟩ := State.ints_of_pre rfl harr hlen hall
  have hsm : xs.length < 2 ^ 31 := hx.choose_spec.2.2.2
  have hev : (Term.length (.arg 0)).eval args s none [] s = some (.int xs.length.toInt32) := hx.length_eval hb
  have hv := Cond.le_ints hev (show (Term.int 260).eval args s none [] s = some (.int 260) from rfl)
  have hd : xs.length.toInt32 ≤ 260 := by
    simpa [Cond.before, Cond.holds, hv] using hle
  have hN : xs.length ≤ 260 := (Int32.ofNat_le_ofNat hsm (by decide)).mp (show Int32.ofNat xs.length ≤ Int32.ofNat 260 from hd)
  exact ⟨b, xs, Cond.one_arg hc (show args[0]? = some (.ref b) from hb), hx, hN, h⟩

/-- where the law may begin on such a script, with room enough, it ends with 128 new cells and more: the printed end condition fails -/
theorem p24_at {l : Launch} {p : Program} {e : Env} {s : State} {m : MethodId} {args : Array Value} {below : List Frame} {b : Addr} {xs : List Int32} (hflags : l.flags = flags0) (h : AtStart classFile x code maxLocals ret World_1 tables_1 room_1 Calls_1 rest_1 Pre_1 l p e s m args below)
    (hroom : (headSpec (Jvm.Cond.code x code maxLocals ret :: tables_1) R9).applies x e.platform s = true) (hP : lw_P b xs args s) (hL50 : 50 ≤ xs.length) (h13 : ∀ j, j < 50 → xs.getD j 0 = 13) : RefutedClaimed_1_1 ∧ RefutedClaimed_1_2 := by
  obtain ⟨-, -, ha, -, hc, hk, hf, -⟩ := id h
  obtain ⟨k, o, h1, h2, h3, -, hz⟩ := lw_walk9 l hflags b xs hL50 h13 p e ha hc hk s m args below hf ((Spec.applies_iff_loose hf).mp hroom).1 hP trivial
  have no : ∀ L : List Loc, ¬ Framed s o (stepsAlone p.tables e k s) L 122 4434 := by
    rintro L ⟨-, -, -, -, hs, -⟩
    have hs : (stepsAlone p.tables e k s).heap.size ≤ s.heap.size + 122 := hs
    omega
  exact ⟨⟨l, p, e, s, m, args, below, hflags, h, k, o, h1, h2, h3, fun hpost => no _ hpost.2⟩, ⟨l, p, e, s, m, args, below, hflags, h, k, o, h1, h2, h3, fun hpost => no _ hpost.2⟩⟩
