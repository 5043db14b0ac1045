/-! The printed start, with another script: fifty 13s. It meets all premises; so the printed claim is refuted. (Over the printed witness rows: start1, su_.., lists_1.) -/
def s13.cells : Array Value := ⟨List.replicate 50 (.int 13)⟩
def s13.about : State := start1.aboutOf s13.cells
set_option maxRecDepth 16384 in
theorem s13.kept {c : Jvm.Cond} (h : su_isCode c = true) : c.before start1.args0 s13.about = c.before start1.args0 start1.about := by
  cases c <;> first | (simp [su_isCode] at h; done) | rfl
set_option maxRecDepth 16384 in
theorem s13.law0 : (Cond.code x code maxLocals ret).before start1.args0 s13.about = true := (s13.kept rfl).trans start1.word_code
def s13.ok (c : Jvm.Cond) : Bool := su_isCode c || c.before start1.args0 s13.about
theorem s13.cut (n : Nat) (L : List Jvm.Cond) (h1 : (L.take n).all s13.ok = true) (h2 : (L.drop n).all s13.ok = true) : L.all s13.ok = true := by
  rw [← List.take_append_drop n L, List.all_append, h1, h2]
  rfl
set_option maxRecDepth 16384 in
theorem s13.p_1_0 : List.all (tables_1_1.take 40) s13.ok = true := by decide +kernel
set_option maxRecDepth 16384 in
theorem s13.p_1_1 : List.all ((tables_1_1.drop 40).take 40) s13.ok = true := by decide +kernel
set_option maxRecDepth 16384 in
theorem s13.p_1_2 : List.all (((tables_1_1.drop 40).drop 40).take 40) s13.ok = true := by decide +kernel
set_option maxRecDepth 16384 in
theorem s13.p_1_3 : List.all ((((tables_1_1.drop 40).drop 40).drop 40).take 40) s13.ok = true := by decide +kernel
set_option maxRecDepth 16384 in
theorem s13.p_1_4 : List.all (((((tables_1_1.drop 40).drop 40).drop 40).drop 40).take 40) s13.ok = true := by decide +kernel
set_option maxRecDepth 16384 in
theorem s13.p_1_5 : List.all (((((tables_1_1.drop 40).drop 40).drop 40).drop 40).drop 40) s13.ok = true := by decide +kernel
theorem s13.all_1 : tables_1_1.all s13.ok = true := (s13.cut 40 tables_1_1 s13.p_1_0 (s13.cut 40 (tables_1_1.drop 40) s13.p_1_1 (s13.cut 40 ((tables_1_1.drop 40).drop 40) s13.p_1_2 (s13.cut 40 (((tables_1_1.drop 40).drop 40).drop 40) s13.p_1_3 (s13.cut 40 ((((tables_1_1.drop 40).drop 40).drop 40).drop 40) s13.p_1_4 s13.p_1_5)))))
set_option maxRecDepth 16384 in
theorem s13.p_2_0 : List.all (tables_1_2.take 40) s13.ok = true := by decide +kernel
set_option maxRecDepth 16384 in
theorem s13.p_2_1 : List.all ((tables_1_2.drop 40).take 40) s13.ok = true := by decide +kernel
set_option maxRecDepth 16384 in
theorem s13.p_2_2 : List.all (((tables_1_2.drop 40).drop 40).take 40) s13.ok = true := by decide +kernel
set_option maxRecDepth 16384 in
theorem s13.p_2_3 : List.all ((((tables_1_2.drop 40).drop 40).drop 40).take 40) s13.ok = true := by decide +kernel
set_option maxRecDepth 16384 in
theorem s13.p_2_4 : List.all (((((tables_1_2.drop 40).drop 40).drop 40).drop 40).take 40) s13.ok = true := by decide +kernel
set_option maxRecDepth 16384 in
theorem s13.p_2_5 : List.all (((((tables_1_2.drop 40).drop 40).drop 40).drop 40).drop 40) s13.ok = true := by decide +kernel
theorem s13.all_2 : tables_1_2.all s13.ok = true := (s13.cut 40 tables_1_2 s13.p_2_0 (s13.cut 40 (tables_1_2.drop 40) s13.p_2_1 (s13.cut 40 ((tables_1_2.drop 40).drop 40) s13.p_2_2 (s13.cut 40 (((tables_1_2.drop 40).drop 40).drop 40) s13.p_2_3 (s13.cut 40 ((((tables_1_2.drop 40).drop 40).drop 40).drop 40) s13.p_2_4 s13.p_2_5)))))
set_option maxRecDepth 16384 in
theorem s13.p_3_0 : List.all (tables_1_3.take 40) s13.ok = true := by decide +kernel
set_option maxRecDepth 16384 in
theorem s13.p_3_1 : List.all ((tables_1_3.drop 40).take 40) s13.ok = true := by decide +kernel
set_option maxRecDepth 16384 in
theorem s13.p_3_2 : List.all ((tables_1_3.drop 40).drop 40) s13.ok = true := by decide +kernel
theorem s13.all_3 : tables_1_3.all s13.ok = true := (s13.cut 40 tables_1_3 s13.p_3_0 (s13.cut 40 (tables_1_3.drop 40) s13.p_3_1 s13.p_3_2))
theorem s13.of {L : List Jvm.Cond} (h1 : L.all s13.ok = true) (h2 : ∀ c ∈ L.filter su_isCode, c.before start1.args0 start1.about = true) : ∀ c ∈ L, c.before start1.args0 s13.about = true :=
  fun c h => su_words (f := fun c => c.before start1.args0 s13.about) h1 (fun c hc => (s13.kept (List.mem_filter.mp hc).2).trans (h2 c hc)) c h
theorem s13.words : ∀ c ∈ (Cond.code x code maxLocals ret :: tables_1), c.before start1.args0 s13.about = true := by
  intro c hc
  rcases List.mem_cons.mp hc with h | h
  · rw [h]; exact s13.law0
  · have h1 : c ∈ tables_1_1 ++ (tables_1_2 ++ tables_1_3) := h
    rcases List.mem_append.mp h1 with h2 | h1
    · exact s13.of s13.all_1 start1.codes_hold_1 c h2
    rcases List.mem_append.mp h1 with h2 | h1
    · exact s13.of s13.all_2 start1.codes_hold_2 c h2
    exact s13.of s13.all_3 start1.codes_hold_3 c h1
set_option maxRecDepth 16384 in
theorem s13.room {R : Room} (h : s13.about.hasRoom start1.e0.platform R = true) : (headSpec (Jvm.Cond.code x code maxLocals ret :: tables_1) R).applies x start1.e0.platform s13.about = true :=
  (Spec.applies_iff rfl).mpr ⟨rfl, rfl, rfl, by decide +kernel, by decide +kernel, by decide +kernel, h, atoms_intro s13.words⟩
set_option maxRecDepth 16384 in
theorem s13.atStart : AtStart classFile x code maxLocals ret World_1 tables_1 room_1 Calls_1 rest_1 Pre_1 launch0 start1.p0 start1.e0 s13.about ⟨0, 0⟩ start1.args0 Lib.HandBits.below0 :=
  ⟨lists_1, trivial, launch0.admits_env _ _ _, launch0.least_env, fairChoices_fair.cas, fairChoices_fair.clock, rfl, by decide +kernel, by decide +kernel,
    s13.room (launch0.hasRoom_least _ room_1 (by decide +kernel) (by decide +kernel) (by decide +kernel) (by decide +kernel) (by decide +kernel) (by decide +kernel)),
    trivial, (show rest_1_c.before start1.args0 s13.about = true by decide +kernel), (show (Cond.and given_1 narrow_1).before start1.args0 s13.about = true by decide +kernel)⟩
set_option maxRecDepth 16384 in
theorem s13.room9 : (headSpec (Jvm.Cond.code x code maxLocals ret :: tables_1) R9).applies x start1.e0.platform s13.about = true :=
  s13.room (launch0.hasRoom_least _ R9 (by decide +kernel) (by decide +kernel) (by decide +kernel) (by decide +kernel) (by decide +kernel) (by decide +kernel))
set_option maxRecDepth 16384 in
theorem s13.script : ∃ (b : Addr) (xs : List Int32), lw_P b xs start1.args0 s13.about ∧ xs.length = 50 ∧ ∀ j, j < 50 → xs.getD j 0 = 13 := by
  obtain ⟨b, xs, hP⟩ := lw_pre_spec (args := start1.args0) (s := s13.about) (show (Cond.and given_1 narrow_1).before start1.args0 s13.about = true by decide +kernel) (show rest_1_c.before start1.args0 s13.about = true by decide +kernel)
  refine ⟨b, xs, hP, ?_⟩
  obtain ⟨hargs, ⟨scr, h1, h2, -, -⟩, -, -⟩ := hP
  have hb : b = 0 := by
    have h9 : start1.args0[0]? = some (Value.ref b) := by rw [hargs]; rfl
    have h8 : start1.args0[0]? = some (Value.ref 0) := rfl
    exact (Value.ref.inj (Option.some.inj (h8.symm.trans h9))).symm
  subst hb
  have h3 : scr.slots.toList = List.replicate 50 (Value.int 13) := by
    obtain ⟨q1, -⟩ := State.arrayAt?_spec h1
    have q2 : s13.about.heap[0]? = some { cls := 17, slots := s13.cells, vm := .none } := rfl
    rw [← Option.some.inj (q2.symm.trans q1)]
    rfl
  rw [h3] at h2
  have hl : xs.length = 50 := by
    have h9 := congrArg List.length h2
    rw [List.length_map, List.length_replicate] at h9
    exact h9.symm
  refine ⟨hl, fun j hj => ?_⟩
  have h9 := congrArg (fun z => z[j]?) h2
  simp only [List.getElem?_map] at h9
  rw [List.getElem?_replicate, if_pos hj] at h9
  have hx : xs[j]? = some (xs.getD j 0) := by
    rw [List.getD_eq_getElem?_getD, List.getElem?_eq_getElem (by omega)]
    rfl
  rw [hx] at h9
  exact (Value.int.inj (Option.some.inj h9)).symm
/-- p24 as printed is false: at the script of fifty 13s the law makes more cells than its room -/
theorem p24_refuted : RefutedClaimed_1_1 ∧ RefutedClaimed_1_2 := by
  obtain ⟨b, xs, hP, hl, h13⟩ := s13.script
  exact p24_at (l := launch0) rfl s13.atStart s13.room9 hP (by omega) h13
theorem p24_not : ¬ (Claimed_1_1 ∧ Claimed_1_2) := by
  rintro ⟨hA, -⟩
  obtain ⟨l, p, e, s, m, args, below, hfl, ⟨hL, hW, had, -, hcas, hclk, hfr, hfit, hheap, happ, hcalls, hrest, hpre⟩, n, o, hin, -, hend, hnot⟩ := p24_refuted.1
  obtain ⟨k, q, hin', -, hend', hpost⟩ := hA l hfl hL hW p e had hcas hclk s m args below hfr hfit hheap happ ⟨hcalls, hrest, hpre⟩
  have hnk : n = k := by
    rcases Nat.lt_trichotomy n k with h | h | h
    · exact absurd (hin' n h) hend.not_within
    · exact h
    · exact absurd (hin k h) hend'.not_within
  subst hnk
  cases hend.outcome_unique hend'
  exact hnot hpost
