/-! The reference's extremes, ends, knocks and states. -/
/-- the least or the most of the first rows -/
def eX (f : Nat → Nat) (im : Nat) : Nat → Nat
  | 0 => 0
  | r + 1 => if r = 0 then f 0 else if im = 0 then (if f r < eX f im r then f r else eX f im r) else (if eX f im r < f r then f r else eX f im r)
theorem eX_b {f : Nat → Nat} {im B : Nat} : ∀ m, (∀ r, r < m → f r ≤ B) → eX f im m ≤ B := by
  intro m
  induction m with
  | zero => intro _; exact Nat.zero_le _
  | succ m ih =>
    intro h
    have a := ih (fun r hr => h r (by omega))
    have b := h m (by omega)
    show (if m = 0 then f 0 else if im = 0 then (if f m < eX f im m then f m else eX f im m) else (if eX f im m < f m then f m else eX f im m)) ≤ B
    split
    · exact h 0 (by omega)
    · split
      · split <;> omega
      · split <;> omega
theorem eX_step {f : Nat → Nat} {im ro : Nat} {fd : Int32} (hi : im ≤ 1) (h0 : ro = 0 → fd = -1) (h1 : 0 < ro → fd = nI (eX f im ro)) (b : f ro ≤ 48000) (b2 : eX f im ro ≤ 48000) :
    nI (eX f im (ro + 1)) = if fd = -1 then nI (f ro) else if nI im = 0 then (if nI (f ro) < fd then nI (f ro) else fd) else (if fd < nI (f ro) then nI (f ro) else fd) := by
  rcases Nat.eq_zero_or_pos ro with q | q
  · subst q
    rw [h0 rfl, if_pos rfl]; rfl
  · have e := h1 q
    have n : ¬ fd = -1 := by
      rw [e]; intro h
      have := congrArg Int32.toInt h
      rw [nI_toInt (by omega), show (-1 : Int32).toInt = -1 from rfl] at this
      omega
    rw [if_neg n, e]
    show nI (if ro = 0 then f 0 else if im = 0 then (if f ro < eX f im ro then f ro else eX f im ro) else (if eX f im ro < f ro then f ro else eX f im ro)) = _
    rw [if_neg (by omega)]
    simp only [nz (show im < 2 ^ 31 by omega), nI_ltI (show f ro < 2 ^ 31 by omega) (show eX f im ro < 2 ^ 31 by omega), nI_ltI (show eX f im ro < 2 ^ 31 by omega) (show f ro < 2 ^ 31 by omega), nif]
theorem eX_lo {f : Nat → Nat} : ∀ m, 0 < m → (∀ r, r < m → eX f 0 m ≤ f r) ∧ ∃ r, r < m ∧ eX f 0 m = f r := by
  intro m
  induction m with
  | zero => intro h; omega
  | succ m ih =>
    intro _
    rcases Nat.eq_zero_or_pos m with q | q
    · subst q
      exact ⟨fun r hr => by rw [show r = 0 by omega]; exact Nat.le_refl _, 0, by omega, rfl⟩
    · obtain ⟨a, r, hr, e⟩ := ih q
      have z : eX f 0 (m + 1) = if f m < eX f 0 m then f m else eX f 0 m := by
        show (if m = 0 then f 0 else if 0 = 0 then (if f m < eX f 0 m then f m else eX f 0 m) else _) = _
        rw [if_neg (by omega), if_pos rfl]
      rw [z]
      split
      · rename_i c
        refine ⟨fun i hi => ?_, m, by omega, rfl⟩
        rcases Nat.lt_or_eq_of_le (Nat.le_of_lt_succ hi) with w | w
        · have := a i w; omega
        · rw [w]; exact Nat.le_refl _
      · rename_i c
        refine ⟨fun i hi => ?_, r, by omega, e⟩
        rcases Nat.lt_or_eq_of_le (Nat.le_of_lt_succ hi) with w | w
        · exact a i w
        · rw [w]; omega
theorem eX_hi {f : Nat → Nat} : ∀ m, 0 < m → (∀ r, r < m → f r ≤ eX f 1 m) ∧ ∃ r, r < m ∧ eX f 1 m = f r := by
  intro m
  induction m with
  | zero => intro h; omega
  | succ m ih =>
    intro _
    rcases Nat.eq_zero_or_pos m with q | q
    · subst q
      exact ⟨fun r hr => by rw [show r = 0 by omega]; exact Nat.le_refl _, 0, by omega, rfl⟩
    · obtain ⟨a, r, hr, e⟩ := ih q
      have z : eX f 1 (m + 1) = if eX f 1 m < f m then f m else eX f 1 m := by
        show (if m = 0 then f 0 else if 1 = 0 then _ else (if eX f 1 m < f m then f m else eX f 1 m)) = _
        rw [if_neg (by omega), if_neg (by decide)]
      rw [z]
      split
      · rename_i c
        refine ⟨fun i hi => ?_, m, by omega, rfl⟩
        rcases Nat.lt_or_eq_of_le (Nat.le_of_lt_succ hi) with w | w
        · have := a i w; omega
        · rw [w]; exact Nat.le_refl _
      · rename_i c
        refine ⟨fun i hi => ?_, r, by omega, e⟩
        rcases Nat.lt_or_eq_of_le (Nat.le_of_lt_succ hi) with w | w
        · exact a i w
        · rw [w]; omega
theorem eX_sLo {N σ : Nat → Nat} {n : Nat} (h5 : σ 5 = 0) : eX (fun z => sG N cPay n σ z) 0 (2 ^ n) = sLo N n σ := by
  obtain ⟨a, r, hr, e⟩ := eX_lo (f := fun z => sG N cPay n σ z) (2 ^ n) (Nat.pow_pos (by decide))
  obtain ⟨i, hi, e2⟩ := sLo_at (N := N) n σ h5
  have b : eX (fun z => sG N cPay n σ z) 0 (2 ^ n) ≤ sG N cPay n σ i := a i hi
  have c : sLo N n σ ≤ sG N cPay n σ r := sLo_le n σ r h5
  have e : eX (fun z => sG N cPay n σ z) 0 (2 ^ n) = sG N cPay n σ r := e
  omega
theorem eX_sHi {N σ : Nat → Nat} {n : Nat} (h5 : σ 5 = 0) : eX (fun z => sG N cPay n σ z) 1 (2 ^ n) = sHi N n σ := by
  obtain ⟨a, r, hr, e⟩ := eX_hi (f := fun z => sG N cPay n σ z) (2 ^ n) (Nat.pow_pos (by decide))
  obtain ⟨i, hi, e2⟩ := sHi_at (N := N) n σ h5
  have b : sG N cPay n σ i ≤ eX (fun z => sG N cPay n σ z) 1 (2 ^ n) := a i hi
  have c : sG N cPay n σ r ≤ sHi N n σ := sHi_ge n σ r h5
  have e : eX (fun z => sG N cPay n σ z) 1 (2 ^ n) = sG N cPay n σ r := e
  omega
def sExt (N : Nat → Nat) (n : Nat) (σ : Nat → Nat) (im : Nat) : Nat := if im = 0 then sLo N n σ else sHi N n σ
theorem eX_ext {N σ : Nat → Nat} {n im : Nat} (hi : im ≤ 1) (h5 : σ 5 = 0) : eX (fun z => sG N cPay n σ z) im (2 ^ n) = sExt N n σ im := by
  unfold sExt
  rcases Nat.lt_or_ge im 1 with q | q
  · rw [show im = 0 by omega, if_pos rfl]; exact eX_sLo h5
  · rw [show im = 1 by omega, if_neg (by decide)]; exact eX_sHi h5
/-- a row that goes on ends later than where it began -/
theorem sRow_gt {N : Nat → Nat} : ∀ n (σ : Nat → Nat) (r : Nat), σ 0 ≤ (sRow N n σ r) 0 := by
  intro n
  induction n with
  | zero => intro σ r; exact Nat.le_refl _
  | succ n ih =>
    intro σ r
    show σ 0 ≤ (if σ 5 = 0 then sRow N n (sMv N σ (r % 2)) (r / 2) else σ) 0
    split
    · exact Nat.le_trans (Nat.le_succ _) (ih (sMv N σ (r % 2)) (r / 2))
    · exact Nat.le_refl _
theorem sEnd_low {N σ : Nat → Nat} {n d : Nat} (hN : Nok N) (h : N 8 ≤ σ 0 + n) (hn : 0 < n) (h5 : σ 5 = 0) (hd : d ≤ σ 0) : sPhi N (cEnd d) n σ = 0 := by
  rw [← sG_sum hN (cEnd d) n σ h5]
  refine sSum_zero _ (fun r _ => ?_)
  rw [sG_end d n σ r h h5 hn, if_neg, Nat.mul_zero]
  obtain ⟨m, rfl⟩ : ∃ m, n = m + 1 := ⟨n - 1, by omega⟩
  show ¬ (if σ 5 = 0 then sRow N m (sMv N σ (r % 2)) (r / 2) else σ) 0 = d
  rw [if_pos h5]
  have := sRow_gt (N := N) m (sMv N σ (r % 2)) (r / 2)
  have e : (sMv N σ (r % 2)) 0 = σ 0 + 1 := rfl
  omega
/-! A state in one long. -/
def enc (κ : Nat × Nat × Nat × Nat) : Nat := κ.1 * 2 ^ 40 + κ.2.1 * 2 ^ 16 + κ.2.2.1 * 16 + κ.2.2.2
def kB (κ : Nat × Nat × Nat × Nat) : Prop := κ.1 ≤ 10000 ∧ κ.2.1 ≤ 10000 ∧ κ.2.2.1 ≤ 8 ∧ κ.2.2.2 ≤ 1
theorem enc_b {κ : Nat × Nat × Nat × Nat} (h : kB κ) : enc κ < 2 ^ 63 := by
  obtain ⟨a, b, c, d⟩ := κ
  obtain ⟨h1, h2, h3, h4⟩ := h
  have h1 : a ≤ 10000 := h1
  have h2 : b ≤ 10000 := h2
  have h3 : c ≤ 8 := h3
  have h4 : d ≤ 1 := h4
  show a * 2 ^ 40 + b * 2 ^ 16 + c * 16 + d < 2 ^ 63
  omega
theorem enc_inj {κ κ' : Nat × Nat × Nat × Nat} (h : kB κ) (h' : kB κ') (e : enc κ = enc κ') : κ = κ' := by
  obtain ⟨a, b, c, d⟩ := κ
  obtain ⟨a', b', c', d'⟩ := κ'
  obtain ⟨h1, h2, h3, h4⟩ := h
  obtain ⟨g1, g2, g3, g4⟩ := h'
  have h1 : a ≤ 10000 := h1
  have h2 : b ≤ 10000 := h2
  have h3 : c ≤ 8 := h3
  have h4 : d ≤ 1 := h4
  have g1 : a' ≤ 10000 := g1
  have g2 : b' ≤ 10000 := g2
  have g3 : c' ≤ 8 := g3
  have g4 : d' ≤ 1 := g4
  have e : a * 2 ^ 40 + b * 2 ^ 16 + c * 16 + d = a' * 2 ^ 40 + b' * 2 ^ 16 + c' * 16 + d' := e
  have e1 : a = a' := by omega
  have e2 : b = b' := by omega
  have e3 : c = c' := by omega
  have e4 : d = d' := by omega
  rw [e1, e2, e3, e4]
theorem or_add {a b k : Nat} (h : b < 2 ^ k) : a * 2 ^ k ||| b = a * 2 ^ k + b := by
  rw [Nat.mul_comm, ← Nat.two_pow_add_eq_or_of_lt h]
theorem enc_1 {a b : Nat} (ha : a ≤ 10000) (hb : b ≤ 10000) : lN (a * 2 ^ 40) ||| lN (b * 2 ^ 16) = lN (a * 2 ^ 40 + b * 2 ^ 16) := by
  rw [wb_or (by omega) (by omega), or_add (by omega)]
theorem enc_2 {a b c : Nat} (ha : a ≤ 10000) (hb : b ≤ 10000) (hc : c ≤ 8) : lN (a * 2 ^ 40 + b * 2 ^ 16) ||| lN (c * 16) = lN (a * 2 ^ 40 + b * 2 ^ 16 + c * 16) := by
  rw [wb_or (by omega) (by omega), show a * 2 ^ 40 + b * 2 ^ 16 = (a * 2 ^ 24 + b) * 2 ^ 16 by omega, or_add (by omega)]
theorem enc_3 {a b c d : Nat} (ha : a ≤ 10000) (hb : b ≤ 10000) (hc : c ≤ 8) (hd : d ≤ 1) : lN (a * 2 ^ 40 + b * 2 ^ 16 + c * 16) ||| lN d = lN (a * 2 ^ 40 + b * 2 ^ 16 + c * 16 + d) := by
  rw [wb_or (by omega) (by omega), show a * 2 ^ 40 + b * 2 ^ 16 + c * 16 = (a * 2 ^ 36 + b * 2 ^ 12 + c) * 2 ^ 4 by omega, or_add (by omega)]
theorem shl_4 {c : Nat} (hc : c ≤ 8) : nI c <<< (nI 4 &&& 31) = nI (c * 16) := by
  rw [pk_shlN (nI 4 &&& 31) 4 (s_l 4 (by decide)) (by omega)]
theorem sRow_ok {N μ : Nat → Nat} {T ro n : Nat} (hN : Nok N) (h : T + n ≤ 8) : Sok (sRow N n (sRun N μ T) ro) := by
  rw [← sRun_muR]; exact sRun_ok hN _ h
theorem kB_of {τ : Nat → Nat} (h : Sok τ) : kB (kOf τ) := by
  obtain ⟨h0, h1, h1', h2, h2', h3, h4, -⟩ := h
  refine ⟨?_, ?_, ?_, h4⟩
  · show τ 1 ≤ 10000; omega
  · show τ 2 ≤ 10000; omega
  · show τ 3 ≤ 8; omega
/-- whether the state of the row ro is none of the first j seen -/
def iNw (N : Nat → Nat) (n : Nat) (σ : Nat → Nat) (ro j : Nat) : Nat := if (sRow N n σ ro) 0 = N 8 ∧ ¬ kOf (sRow N n σ ro) ∈ (sSeen N n σ ro).take j then 1 else 0
theorem iNw_le {N σ : Nat → Nat} {n ro j : Nat} : iNw N n σ ro j ≤ 1 := by unfold iNw; split <;> omega
theorem iNw_0 {N σ : Nat → Nat} {n ro : Nat} : iNw N n σ ro 0 = if (sRow N n σ ro) 0 = N 8 then 1 else 0 := by
  unfold iNw
  by_cases q : (sRow N n σ ro) 0 = N 8
  · rw [if_pos q, if_pos ⟨q, by rw [List.take_zero]; exact List.not_mem_nil⟩]
  · rw [if_neg q, if_neg (fun h => q h.1)]
theorem iNw_y {N σ : Nat → Nat} {n ro j : Nat} (h : (sRow N n σ ro) 0 = N 8) (h2 : ¬ kOf (sRow N n σ ro) ∈ (sSeen N n σ ro).take j) : iNw N n σ ro j = 1 := if_pos ⟨h, h2⟩
theorem iNw_n {N σ : Nat → Nat} {n ro j : Nat} (h : (sRow N n σ ro) 0 = N 8 → kOf (sRow N n σ ro) ∈ (sSeen N n σ ro).take j) : iNw N n σ ro j = 0 := if_neg (fun q => q.2 (h q.1))
theorem iNw_s {N σ : Nat → Nat} {n ro j : Nat} {κ : Nat × Nat × Nat × Nat} (h : (sSeen N n σ ro)[j]? = some κ) : iNw N n σ ro (j + 1) = if iNw N n σ ro j = 0 then 0 else if κ = kOf (sRow N n σ ro) then 0 else 1 := by
  have e : kOf (sRow N n σ ro) ∈ (sSeen N n σ ro).take (j + 1) ↔ kOf (sRow N n σ ro) ∈ (sSeen N n σ ro).take j ∨ kOf (sRow N n σ ro) = κ := by
    rw [List.take_add_one, h]; simp
  by_cases q : (sRow N n σ ro) 0 = N 8
  · by_cases q2 : kOf (sRow N n σ ro) ∈ (sSeen N n σ ro).take j
    · rw [iNw_n (fun _ => e.mpr (Or.inl q2)), iNw_n (fun _ => q2), if_pos rfl]
    · rw [iNw_y q q2, if_neg (by decide)]
      by_cases q3 : κ = kOf (sRow N n σ ro)
      · rw [iNw_n (fun _ => e.mpr (Or.inr q3.symm)), if_pos q3]
      · rw [iNw_y q (fun z => (e.mp z).elim q2 (fun w => q3 w.symm)), if_neg q3]
  · rw [iNw_n (fun z => absurd z q), iNw_n (fun z => absurd z q), if_pos rfl]
theorem iNw_all {N σ : Nat → Nat} {n ro : Nat} : iNw N n σ ro (sSeen N n σ ro).length = if (sRow N n σ ro) 0 = N 8 ∧ ¬ kOf (sRow N n σ ro) ∈ sSeen N n σ ro then 1 else 0 := by unfold iNw; rw [List.take_length]
theorem sSeen_s {N σ : Nat → Nat} {n ro : Nat} : sSeen N n σ (ro + 1) = if iNw N n σ ro (sSeen N n σ ro).length = 0 then sSeen N n σ ro else sSeen N n σ ro ++ [kOf (sRow N n σ ro)] := by
  rw [iNw_all]
  show (if (sRow N n σ ro) 0 = N 8 ∧ ¬ kOf (sRow N n σ ro) ∈ sSeen N n σ ro then _ else _) = _
  split
  · rw [if_neg (by decide)]
  · rw [if_pos rfl]
theorem sSeen_l {N σ : Nat → Nat} {n ro : Nat} : (sSeen N n σ (ro + 1)).length = (sSeen N n σ ro).length + iNw N n σ ro (sSeen N n σ ro).length := by
  have := @iNw_le N σ n ro (sSeen N n σ ro).length
  rw [sSeen_s]
  split
  · omega
  · rw [List.length_append, List.length_singleton]; omega
theorem sSeen_e {N σ : Nat → Nat} {n ro : Nat} {sn : Nat → Int64} (h : ∀ (k : Nat) (κ : Nat × Nat × Nat × Nat), (sSeen N n σ ro)[k]? = some κ → sn k = lN (enc κ)) :
    ∀ (k : Nat) (κ : Nat × Nat × Nat × Nat), (sSeen N n σ (ro + 1))[k]? = some κ → vp_updL sn (sSeen N n σ ro).length (lN (if iNw N n σ ro (sSeen N n σ ro).length = 0 then 0 else enc (kOf (sRow N n σ ro)))) k = lN (enc κ) := by
  intro k κ hk
  rw [sSeen_s] at hk
  split at hk
  · rename_i q
    have : k < (sSeen N n σ ro).length := (List.getElem?_eq_some_iff.mp hk).1
    rw [updL_n (by omega)]; exact h k κ hk
  · rename_i q
    rcases Nat.lt_or_ge k (sSeen N n σ ro).length with w | w
    · rw [List.getElem?_append_left w] at hk
      rw [updL_n (by omega)]; exact h k κ hk
    · have hl : k < (sSeen N n σ ro ++ [kOf (sRow N n σ ro)]).length := (List.getElem?_eq_some_iff.mp hk).1
      rw [List.length_append, List.length_singleton] at hl
      have : k = (sSeen N n σ ro).length := by omega
      subst this
      rw [List.getElem?_append_right (Nat.le_refl _), Nat.sub_self] at hk
      have hk : κ = kOf (sRow N n σ ro) := by simpa using hk.symm
      rw [updL_s, if_neg q, hk]
theorem sSeen_b {N μ : Nat → Nat} {T n ro j : Nat} {κ : Nat × Nat × Nat × Nat} (hN : Nok N) (h : T + n ≤ 8) (hj : (sSeen N n (sRun N μ T) ro)[j]? = some κ) : kB κ := by
  obtain ⟨i, -, -, rfl⟩ := (sSeen_mem ro).mp (List.mem_of_getElem? hj)
  exact kB_of (sRow_ok hN h)
theorem cmpz {a b : Int64} (h : lg_cmp a b = 0) : a = b := (lg_cmp_eq a b).mp h
theorem cmpn {a b : Int64} (h : ¬ lg_cmp a b = 0) : ¬ a = b := fun q => h ((lg_cmp_eq a b).mpr q)
set_option maxHeartbeats 4000000 in
set_option maxRecDepth 100000 in
theorem c_X6_extreme (l : Launch) (dC : Nat → ClassId) (dI : Nat → Nat → Nat) (cI cZ cJ : ClassId) (sz : Nat) (h0 qF qR qL qM qP qS : Nat) (N μ : Nat → Nat) (T : Nat) (fi ri fl pr mb sc : Nat → Int32) (th : Int32) (im : Nat) (hN : Nok N) (hM : MoE N fi ri fl) (hTold : Told N μ T) (hT9 : T ≤ N 8) (hmb : ∀ k, k < T → mb k = nI (μ k)) (hμ : ∀ k, k < T → μ k ≤ 1) (h5 : (sRun N μ T) 5 = 0) (him : im ≤ 1) : Met l yX6_extreme wsX6_extreme ({ frames := 6, cells := 0, slots := 0, locals := 126 }) (va_Pc [.ref h0, .int (nI im)] (xB (dC, dI) (xT cI cZ cJ) [(h0, .inr (6, [.ref qF, .ref qR, .ref qL, .int (nI (N 6)), .int (nI (N 7)), .int (nI (N 8)), .int (nI (N 9)), .int (nI (N 10)), .int (nI (N 11)), .int (nI (N 12)), .int (nI (N 13)), .int (nI (N 14)), .ref qM, .int (nI T), .ref qP, .int (sc 15), .int (sc 16), .int (sc 17), .int (sc 18), .int (sc 19), .ref qS, .int th])), (qM, .inl (cZ, 8, .inl mb)), (qP, .inl (cI, 2, .inl pr)), (qF, .inl (cI, 2, .inl fi)), (qR, .inl (cI, 2, .inl ri)), (qL, .inl (cI, 2, .inl fl))] sz)) (va_Qi (fun (r : Int32) (u : (Nat → Int32) × (Nat → Int32) × (Nat → Int32)) => r = nI (sExt N (N 8 - T) (sRun N μ T) im) ∧ ∀ k, k < T → u.1 k = nI (μ k)) (fun (u : (Nat → Int32) × (Nat → Int32) × (Nat → Int32)) t9 => xA (dC, dI) (xT cI cZ cJ) [(h0, .inr (6, [.ref qF, .ref qR, .ref qL, .int (nI (N 6)), .int (nI (N 7)), .int (nI (N 8)), .int (nI (N 9)), .int (nI (N 10)), .int (nI (N 11)), .int (nI (N 12)), .int (nI (N 13)), .int (nI (N 14)), .ref qM, .int (nI T), .ref qP, .int (u.2.2 15), .int (u.2.2 16), .int (u.2.2 17), .int (u.2.2 18), .int (u.2.2 19), .ref qS, .int th])), (qM, .inl (cZ, 8, .inl u.1)), (qP, .inl (cI, 2, .inl u.2.1)), (qF, .inl (cI, 2, .inl fi)), (qR, .inl (cI, 2, .inl ri)), (qL, .inl (cI, 2, .inl fl))] (va_A [(h0, .inr (6, [.ref qF, .ref qR, .ref qL, .int (nI (N 6)), .int (nI (N 7)), .int (nI (N 8)), .int (nI (N 9)), .int (nI (N 10)), .int (nI (N 11)), .int (nI (N 12)), .int (nI (N 13)), .int (nI (N 14)), .ref qM, .int (nI T), .ref qP, .int (sc 15), .int (sc 16), .int (sc 17), .int (sc 18), .int (sc 19), .ref qS, .int th])), (qM, .inl (cZ, 8, .inl mb)), (qP, .inl (cI, 2, .inl pr)), (qF, .inl (cI, 2, .inl fi)), (qR, .inl (cI, 2, .inl ri)), (qL, .inl (cI, 2, .inl fl))] sz) t9) (va_A [(h0, .inr (6, [.ref qF, .ref qR, .ref qL, .int (nI (N 6)), .int (nI (N 7)), .int (nI (N 8)), .int (nI (N 9)), .int (nI (N 10)), .int (nI (N 11)), .int (nI (N 12)), .int (nI (N 13)), .int (nI (N 14)), .ref qM, .int (nI T), .ref qP, .int (sc 15), .int (sc 16), .int (sc 17), .int (sc 18), .int (sc 19), .ref qS, .int th])), (qM, .inl (cZ, 8, .inl mb)), (qP, .inl (cI, 2, .inl pr)), (qF, .inl (cI, 2, .inl fi)), (qR, .inl (cI, 2, .inl ri)), (qL, .inl (cI, 2, .inl fl))] sz)) 0 0 (va_A [(h0, .inr (6, [.ref qF, .ref qR, .ref qL, .int (nI (N 6)), .int (nI (N 7)), .int (nI (N 8)), .int (nI (N 9)), .int (nI (N 10)), .int (nI (N 11)), .int (nI (N 12)), .int (nI (N 13)), .int (nI (N 14)), .ref qM, .int (nI T), .ref qP, .int (sc 15), .int (sc 16), .int (sc 17), .int (sc 18), .int (sc 19), .ref qS, .int th])), (qM, .inl (cZ, 8, .inl mb)), (qP, .inl (cI, 2, .inl pr)), (qF, .inl (cI, 2, .inl fi)), (qR, .inl (cI, 2, .inl ri)), (qL, .inl (cI, 2, .inl fl))] sz) := by
  refine xMet (QF := fun A => va_Qi (fun (r : Int32) (u : (Nat → Int32) × (Nat → Int32) × (Nat → Int32)) => r = nI (sExt N (N 8 - T) (sRun N μ T) im) ∧ ∀ k, k < T → u.1 k = nI (μ k)) (fun (u : (Nat → Int32) × (Nat → Int32) × (Nat → Int32)) t9 => xA (dC, dI) (xT cI cZ cJ) [(h0, .inr (6, [.ref qF, .ref qR, .ref qL, .int (nI (N 6)), .int (nI (N 7)), .int (nI (N 8)), .int (nI (N 9)), .int (nI (N 10)), .int (nI (N 11)), .int (nI (N 12)), .int (nI (N 13)), .int (nI (N 14)), .ref qM, .int (nI T), .ref qP, .int (u.2.2 15), .int (u.2.2 16), .int (u.2.2 17), .int (u.2.2 18), .int (u.2.2 19), .ref qS, .int th])), (qM, .inl (cZ, 8, .inl u.1)), (qP, .inl (cI, 2, .inl u.2.1)), (qF, .inl (cI, 2, .inl fi)), (qR, .inl (cI, 2, .inl ri)), (qL, .inl (cI, 2, .inl fl))] A t9) A) (maxL := 6) (ret := (some .int)) (cc := cX6_extreme) (by decide) rfl (Nat.le_of_ble_eq_true rfl) ?_
  intro p e s m below meth c ls A hf hr hlk hnm hK hP hD hA hS hl
  obtain ⟨hx, hb, hml, hown, hts⟩ := id hf
  have iX6 : ∀ w ∈ wsX60, w ∈ wsX6_extreme := by decide +kernel
  have hl : lv_has ls 6 [(0, .ref h0), (1, .int (nI im))] := hl
  have hP : va_P (dC, dI) vwCl [(h0, .inr (6, [.ref qF, .ref qR, .ref qL, .int (nI (N 6)), .int (nI (N 7)), .int (nI (N 8)), .int (nI (N 9)), .int (nI (N 10)), .int (nI (N 11)), .int (nI (N 12)), .int (nI (N 13)), .int (nI (N 14)), .ref qM, .int (nI T), .ref qP, .int (sc 15), .int (sc 16), .int (sc 17), .int (sc 18), .int (sc 19), .ref qS, .int th])), (qM, .inl (cZ, 8, .inl mb)), (qP, .inl (cI, 2, .inl pr)), (qF, .inl (cI, 2, .inl fi)), (qR, .inl (cI, 2, .inl ri)), (qL, .inl (cI, 2, .inl fl))] s.heap := hP
  have h8 : N 8 ≤ 8 := hN.2.2.2.2.2.1
  have hs := sRun_ok (μ := μ) hN T (by omega)
  have s5 : (sRun N μ T) 5 ≤ 1 := hs.2.2.2.2.2.2.2.1
  have hTl : T < N 8 := sTold_lt hN hTold h5 hT9
  have hpw : 2 ^ (N 8 - T) ≤ 256 := two_pow_le (by omega)
  have hrs : sRws N (sRun N μ T) T = 2 ^ (N 8 - T) := if_pos h5
  have hgb : ∀ z, sG N cPay (N 8 - T) (sRun N μ T) z ≤ 48000 := fun z => by have hg := sG_b hN (N 8 - T) (sRun N μ T) z hs (by rw [sRun_t T hTold]; omega); omega
  refine lv_aload_n hx hb dX6_extreme_0 rfl (lv_at hl 0 rfl) ?_
  refine lv_aload_n hx hb dX6_extreme_1 rfl (lv_at hl 0 rfl) ?_
  refine va_get (D := (dC, dI)) (ci := 6) (v := .int (nI T)) (C := RX6) (T := TX6) (N := 22) hx hb hts iX6 hown hK hP 0 rfl rfl 13 (by decide) (hts (.fieldLink RX6 60 "BarrierbookModel" "told" "I") (by decide +kernel)) (fun _ h9 => h9) rfl dX6_extreme_2 ?_
  refine xci (wr := []) (va_runV (As := [.int (nI T)]) (rest := []) hf (c_X6_paidBy l dC dI cI cZ cJ s.heap.size h0 qF qR qL qM qP qS N μ fi ri fl pr mb sc (nI T) th T (hN) (hM) (hT9) (hmb) (hμ)) (cwV 1 hts gX6_extreme_X6_paidBy rfl rfl rfl (by decide +kernel) ⟨Nat.le_of_ble_eq_true rfl, Nat.le_of_ble_eq_true rfl⟩) (xPV (qc := (RX6, TX6, 22)) hK hP hD [0, 1, 2, 3, 4, 5] rfl rfl 0 rfl rfl) rfl rfl hl.1 rfl (lv_room (Nat.le_of_ble_eq_true rfl)) dX6_extreme_5 ⟨Nat.le_of_ble_eq_true rfl, Nat.le_of_ble_eq_true rfl⟩) hP hD hS hA [0, 1, 2, 3, 4, 5] [] rfl rfl rfl (by decide) (fun r_5 u_5 H locs w_5 hP hD hS => ?_)
  have hP : va_P (dC, dI) vwCl [(h0, .inr (6, [.ref qF, .ref qR, .ref qL, .int (nI (N 6)), .int (nI (N 7)), .int (nI (N 8)), .int (nI (N 9)), .int (nI (N 10)), .int (nI (N 11)), .int (nI (N 12)), .int (nI (N 13)), .int (nI (N 14)), .ref qM, .int (nI T), .ref qP, .int (nI ((sRun N μ T) 3)), .int (nI ((sRun N μ T) 4)), .int (nI ((sRun N μ T) 5)), .int (nI ((sRun N μ T) 0)), .int (nI ((sRun N μ T) 7)), .ref qS, .int th])), (qM, .inl (cZ, 8, .inl mb)), (qP, .inl (cI, 2, .inl u_5)), (qF, .inl (cI, 2, .inl fi)), (qR, .inl (cI, 2, .inl ri)), (qL, .inl (cI, 2, .inl fl))] H := hP
  have hD : va_D A [(h0, .inr (6, [.ref qF, .ref qR, .ref qL, .int (nI (N 6)), .int (nI (N 7)), .int (nI (N 8)), .int (nI (N 9)), .int (nI (N 10)), .int (nI (N 11)), .int (nI (N 12)), .int (nI (N 13)), .int (nI (N 14)), .ref qM, .int (nI T), .ref qP, .int (nI ((sRun N μ T) 3)), .int (nI ((sRun N μ T) 4)), .int (nI ((sRun N μ T) 5)), .int (nI ((sRun N μ T) 0)), .int (nI ((sRun N μ T) 7)), .ref qS, .int th])), (qM, .inl (cZ, 8, .inl mb)), (qP, .inl (cI, 2, .inl u_5)), (qF, .inl (cI, 2, .inl fi)), (qR, .inl (cI, 2, .inl ri)), (qL, .inl (cI, 2, .inl fl))] := hD
  refine xti (y := (nI ((sRun N μ T) 7))) (w_5.1) ?_
  refine lv_istore_n (lv' := [(2, .int (nI ((sRun N μ T) 7))), (0, .ref h0), (1, .int (nI im))]) hx hb dX6_extreme_8 rfl hl (by decide) rfl (fun ls hl => ?_)
  refine lv_iconst (v := (-1)) hx hb dX6_extreme_9 (by decide) ?_
  refine lv_istore_n (lv' := [(3, .int (-1)), (2, .int (nI ((sRun N μ T) 7))), (0, .ref h0), (1, .int (nI im))]) hx hb dX6_extreme_10 rfl hl (by decide) rfl (fun ls hl => ?_)
  refine lv_iconst (v := 0) hx hb dX6_extreme_11 (by decide) ?_
  refine xti (y := (nI 0)) (rfl) ?_
  refine lv_istore (lv' := [(4, .int (nI 0)), (3, .int (-1)), (2, .int (nI ((sRun N μ T) 7))), (0, .ref h0), (1, .int (nI im))]) hx hb dX6_extreme_12 hl (by decide) rfl (fun ls hl => ?_)
  have hPi : 0 ≤ 2 ^ (N 8 - T) ∧ (∀ k, k < T → mb k = nI (μ k)) ∧ (0 = 0 → ((-1) : Int32) = -1) ∧ (0 < 0 → ((-1) : Int32) = nI (eX (fun z => sG N cPay (N 8 - T) (sRun N μ T) z) im 0)) := ⟨Nat.zero_le _, hmb, fun _ => rfl, fun h => absurd h (by decide)⟩
  refine xloop (X := Nat × (Nat → Int32) × (Nat → Int32) × (Nat → Int32) × Int32) (D := (dC, dI)) (A := A) (H0 := s.heap) (nL := 6) (P := fun zz => zz.1 ≤ 2 ^ (N 8 - T) ∧ (∀ k, k < T → zz.2.1 k = nI (μ k)) ∧ (zz.1 = 0 → zz.2.2.2.2 = -1) ∧ (0 < zz.1 → zz.2.2.2.2 = nI (eX (fun z => sG N cPay (N 8 - T) (sRun N μ T) z) im zz.1))) (w1 := fun zz => [(h0, .inr (6, [.ref qF, .ref qR, .ref qL, .int (nI (N 6)), .int (nI (N 7)), .int (nI (N 8)), .int (nI (N 9)), .int (nI (N 10)), .int (nI (N 11)), .int (nI (N 12)), .int (nI (N 13)), .int (nI (N 14)), .ref qM, .int (nI T), .ref qP, .int (zz.2.2.2.1 15), .int (zz.2.2.2.1 16), .int (zz.2.2.2.1 17), .int (zz.2.2.2.1 18), .int (zz.2.2.2.1 19), .ref qS, .int th])), (qM, .inl (cZ, 8, .inl zz.2.1)), (qP, .inl (cI, 2, .inl zz.2.2.1)), (qF, .inl (cI, 2, .inl fi)), (qR, .inl (cI, 2, .inl ri)), (qL, .inl (cI, 2, .inl fl))]) (lv1 := fun zz => [(0, .ref h0), (1, .int (nI im)), (2, .int (nI ((sRun N μ T) 7))), (3, .int zz.2.2.2.2), (4, .int (nI zz.1))]) (st1 := fun zz => []) (J := 14) (μ := fun zz => 2 ^ (N 8 - T) - zz.1) ?_ (0, mb, u_5, (x15f (nI ((sRun N μ T) 3)) (nI ((sRun N μ T) 4)) (nI ((sRun N μ T) 5)) (nI ((sRun N μ T) 0)) (nI ((sRun N μ T) 7))), ((-1) : Int32)) H locs ls (hPi) (hP.sub [0, 1, 2, 3, 4, 5] rfl) (hD.sub [0, 1, 2, 3, 4, 5] rfl rfl) hS (lv_sub hl [3, 4, 2, 1, 0] rfl)
  intro zz H locs ls hcut hP hD hS hl ih_14
  obtain ⟨ro, mk, pk, sq, fd⟩ := zz
  have hcut : ro ≤ 2 ^ (N 8 - T) ∧ (∀ k, k < T → mk k = nI (μ k)) ∧ (ro = 0 → fd = -1) ∧ (0 < ro → fd = nI (eX (fun z => sG N cPay (N 8 - T) (sRun N μ T) z) im ro)) := hcut
  obtain ⟨hk, hmk, hf0, hf1⟩ := hcut
  have hl : lv_has ls 6 [(0, .ref h0), (1, .int (nI im)), (2, .int (nI ((sRun N μ T) 7))), (3, .int fd), (4, .int (nI ro))] := hl
  have hP : va_P (dC, dI) vwCl [(h0, .inr (6, [.ref qF, .ref qR, .ref qL, .int (nI (N 6)), .int (nI (N 7)), .int (nI (N 8)), .int (nI (N 9)), .int (nI (N 10)), .int (nI (N 11)), .int (nI (N 12)), .int (nI (N 13)), .int (nI (N 14)), .ref qM, .int (nI T), .ref qP, .int (sq 15), .int (sq 16), .int (sq 17), .int (sq 18), .int (sq 19), .ref qS, .int th])), (qM, .inl (cZ, 8, .inl mk)), (qP, .inl (cI, 2, .inl pk)), (qF, .inl (cI, 2, .inl fi)), (qR, .inl (cI, 2, .inl ri)), (qL, .inl (cI, 2, .inl fl))] H := hP
  have hD : va_D A [(h0, .inr (6, [.ref qF, .ref qR, .ref qL, .int (nI (N 6)), .int (nI (N 7)), .int (nI (N 8)), .int (nI (N 9)), .int (nI (N 10)), .int (nI (N 11)), .int (nI (N 12)), .int (nI (N 13)), .int (nI (N 14)), .ref qM, .int (nI T), .ref qP, .int (sq 15), .int (sq 16), .int (sq 17), .int (sq 18), .int (sq 19), .ref qS, .int th])), (qM, .inl (cZ, 8, .inl mk)), (qP, .inl (cI, 2, .inl pk)), (qF, .inl (cI, 2, .inl fi)), (qR, .inl (cI, 2, .inl ri)), (qL, .inl (cI, 2, .inl fl))] := hD
  refine lv_iload hx hb dX6_extreme_14 (lv_at hl 4 rfl) ?_
  refine lv_aload_n hx hb dX6_extreme_16 rfl (lv_at hl 0 rfl) ?_
  refine xci (wr := []) (va_runV (As := []) (rest := [.int (nI ro)]) hf (c_X6_rows l dC dI cI cZ cJ H.size h0 qF qR qL qM qP qS N μ T fi ri fl pk mk sq th (hN) (hM) (hTold) (hT9) (hmk) (hμ)) (cwV 0 hts gX6_extreme_X6_rows rfl rfl rfl (by decide +kernel) ⟨Nat.le_of_ble_eq_true rfl, Nat.le_of_ble_eq_true rfl⟩) (xPV (qc := (RX6, TX6, 22)) hK hP hD [0, 1, 2, 3, 4, 5] rfl rfl 0 rfl rfl) rfl rfl hl.1 rfl (lv_room (Nat.le_of_ble_eq_true rfl)) dX6_extreme_17 ⟨Nat.le_of_ble_eq_true rfl, Nat.le_of_ble_eq_true rfl⟩) hP hD hS hA [0, 1, 2, 3, 4, 5] [] rfl rfl rfl (by decide) (fun r_17 u_17 H locs w_17 hP hD hS => ?_)
  have hP : va_P (dC, dI) vwCl [(h0, .inr (6, [.ref qF, .ref qR, .ref qL, .int (nI (N 6)), .int (nI (N 7)), .int (nI (N 8)), .int (nI (N 9)), .int (nI (N 10)), .int (nI (N 11)), .int (nI (N 12)), .int (nI (N 13)), .int (nI (N 14)), .ref qM, .int (nI T), .ref qP, .int (nI ((sRun N μ T) 3)), .int (nI ((sRun N μ T) 4)), .int (nI ((sRun N μ T) 5)), .int (nI ((sRun N μ T) 0)), .int (nI ((sRun N μ T) 7)), .ref qS, .int th])), (qM, .inl (cZ, 8, .inl mk)), (qP, .inl (cI, 2, .inl u_17)), (qF, .inl (cI, 2, .inl fi)), (qR, .inl (cI, 2, .inl ri)), (qL, .inl (cI, 2, .inl fl))] H := hP
  have hD : va_D A [(h0, .inr (6, [.ref qF, .ref qR, .ref qL, .int (nI (N 6)), .int (nI (N 7)), .int (nI (N 8)), .int (nI (N 9)), .int (nI (N 10)), .int (nI (N 11)), .int (nI (N 12)), .int (nI (N 13)), .int (nI (N 14)), .ref qM, .int (nI T), .ref qP, .int (nI ((sRun N μ T) 3)), .int (nI ((sRun N μ T) 4)), .int (nI ((sRun N μ T) 5)), .int (nI ((sRun N μ T) 0)), .int (nI ((sRun N μ T) 7)), .ref qS, .int th])), (qM, .inl (cZ, 8, .inl mk)), (qP, .inl (cI, 2, .inl u_17)), (qF, .inl (cI, 2, .inl fi)), (qR, .inl (cI, 2, .inl ri)), (qL, .inl (cI, 2, .inl fl))] := hD
  refine xti (y := (nI (2 ^ (N 8 - T)))) ((by rw [← hrs]; exact w_17.1)) ?_
  refine lv_icmp_ge (tgt := 75) hx hb dX6_extreme_20 (by decide) (fun c_20 => ?_) (fun c_20 => ?_)
  · have n_20 : (2 ^ (N 8 - T)) ≤ ro := (nI_leI (a := (2 ^ (N 8 - T))) (b := ro) (by omega) (by omega)).mp c_20
    refine lv_iload_n hx hb dX6_extreme_75 rfl (lv_at hl 3 rfl) ?_
    exact xri hf hr hlk ((mk, u_17, (x15f (nI ((sRun N μ T) 3)) (nI ((sRun N μ T) 4)) (nI ((sRun N μ T) 5)) (nI ((sRun N μ T) 0)) (nI ((sRun N μ T) 7))))) (⟨by rw [hf1 (by have : 0 < 2 ^ (N 8 - T) := Nat.pow_pos (by decide); omega), show ro = 2 ^ (N 8 - T) by omega, eX_ext him h5], hmk⟩) (hP.sub [0, 1, 2, 3, 4, 5] rfl) (hD.sub [0, 1, 2, 3, 4, 5] rfl rfl) hK hS dX6_extreme_76
  have n_20 : ¬ (2 ^ (N 8 - T)) ≤ ro := fun h => c_20 ((nI_leI (a := (2 ^ (N 8 - T))) (b := ro) (by omega) (by omega)).mpr h)
  refine lv_aload_n hx hb dX6_extreme_23 rfl (lv_at hl 0 rfl) ?_
  refine lv_iload hx hb dX6_extreme_24 (lv_at hl 4 rfl) ?_
  refine xcl (wr := []) (va_runV (As := [.int (nI ro)]) (rest := []) hf (c_X6_weight l dC dI cI cZ cJ H.size h0 qF qR qL qM qP qS N μ T fi ri fl u_17 mk (x15f (nI ((sRun N μ T) 3)) (nI ((sRun N μ T) 4)) (nI ((sRun N μ T) 5)) (nI ((sRun N μ T) 0)) (nI ((sRun N μ T) 7))) th ro (hN) (hM) (hTold) (hT9) (hmk) (hμ) (by omega)) (cwV 1 hts gX6_extreme_X6_weight rfl rfl rfl (by decide +kernel) ⟨Nat.le_of_ble_eq_true rfl, Nat.le_of_ble_eq_true rfl⟩) (xPV (qc := (RX6, TX6, 22)) hK hP hD [0, 1, 2, 3, 4, 5] rfl rfl 0 rfl rfl) rfl rfl hl.1 rfl (lv_room (Nat.le_of_ble_eq_true rfl)) dX6_extreme_26 ⟨Nat.le_of_ble_eq_true rfl, Nat.le_of_ble_eq_true rfl⟩) hP hD hS hA [0, 1, 2, 3, 4, 5] [] rfl rfl rfl (by decide) (fun r_26 u_26 H locs w_26 hP hD hS => ?_)
  have hP : va_P (dC, dI) vwCl [(h0, .inr (6, [.ref qF, .ref qR, .ref qL, .int (nI (N 6)), .int (nI (N 7)), .int (nI (N 8)), .int (nI (N 9)), .int (nI (N 10)), .int (nI (N 11)), .int (nI (N 12)), .int (nI (N 13)), .int (nI (N 14)), .ref qM, .int (nI T), .ref qP, .int (nI ((sRow N (N 8 - T) (sRun N μ T) ro) 3)), .int (nI ((sRow N (N 8 - T) (sRun N μ T) ro) 4)), .int (nI ((sRow N (N 8 - T) (sRun N μ T) ro) 5)), .int (nI ((sRow N (N 8 - T) (sRun N μ T) ro) 0)), .int (nI ((sRow N (N 8 - T) (sRun N μ T) ro) 7)), .ref qS, .int th])), (qM, .inl (cZ, 8, .inl u_26.1)), (qP, .inl (cI, 2, .inl u_26.2)), (qF, .inl (cI, 2, .inl fi)), (qR, .inl (cI, 2, .inl ri)), (qL, .inl (cI, 2, .inl fl))] H := hP
  have hD : va_D A [(h0, .inr (6, [.ref qF, .ref qR, .ref qL, .int (nI (N 6)), .int (nI (N 7)), .int (nI (N 8)), .int (nI (N 9)), .int (nI (N 10)), .int (nI (N 11)), .int (nI (N 12)), .int (nI (N 13)), .int (nI (N 14)), .ref qM, .int (nI T), .ref qP, .int (nI ((sRow N (N 8 - T) (sRun N μ T) ro) 3)), .int (nI ((sRow N (N 8 - T) (sRun N μ T) ro) 4)), .int (nI ((sRow N (N 8 - T) (sRun N μ T) ro) 5)), .int (nI ((sRow N (N 8 - T) (sRun N μ T) ro) 0)), .int (nI ((sRow N (N 8 - T) (sRun N μ T) ro) 7)), .ref qS, .int th])), (qM, .inl (cZ, 8, .inl u_26.1)), (qP, .inl (cI, 2, .inl u_26.2)), (qF, .inl (cI, 2, .inl fi)), (qR, .inl (cI, 2, .inl ri)), (qL, .inl (cI, 2, .inl fl))] := hD
  refine xtl (y := (lN (sRW N (N 8 - T) ro))) (w_26.1) ?_
  refine lv_pop2_2 hx hb dX6_extreme_29 rfl ?_
  refine lv_aload_n hx hb dX6_extreme_30 rfl (lv_at hl 0 rfl) ?_
  refine va_get (D := (dC, dI)) (ci := 6) (v := .int (nI ((sRow N (N 8 - T) (sRun N μ T) ro) 7))) (C := RX6) (T := TX6) (N := 22) hx hb hts iX6 hown hK hP 0 rfl rfl 19 (by decide) (hts (.fieldLink RX6 90 "BarrierbookModel" "paid" "I") (by decide +kernel)) (fun _ h9 => h9) rfl dX6_extreme_31 ?_
  refine lv_iload_n hx hb dX6_extreme_34 rfl (lv_at hl 2 rfl) ?_
  refine lv_isub hx hb dX6_extreme_35 ?_
  refine xti (y := (nI (sG N cPay (N 8 - T) (sRun N μ T) ro))) (by rw [sG_pay, pk_sub (Nat.le_add_right _ _)]; exact congrArg nI (Nat.add_sub_cancel_left _ _)) ?_
  refine lv_istore (lv' := [(5, .int (nI (sG N cPay (N 8 - T) (sRun N μ T) ro))), (0, .ref h0), (1, .int (nI im)), (2, .int (nI ((sRun N μ T) 7))), (3, .int fd), (4, .int (nI ro))]) hx hb dX6_extreme_36 hl (by decide) rfl (fun ls hl => ?_)
  refine xjoin (X := Unit) (D := (dC, dI)) (A := A) (H0 := s.heap) (nL := 6) (P := fun zz => True) (w1 := fun zz => [(h0, .inr (6, [.ref qF, .ref qR, .ref qL, .int (nI (N 6)), .int (nI (N 7)), .int (nI (N 8)), .int (nI (N 9)), .int (nI (N 10)), .int (nI (N 11)), .int (nI (N 12)), .int (nI (N 13)), .int (nI (N 14)), .ref qM, .int (nI T), .ref qP, .int (nI ((sRow N (N 8 - T) (sRun N μ T) ro) 3)), .int (nI ((sRow N (N 8 - T) (sRun N μ T) ro) 4)), .int (nI ((sRow N (N 8 - T) (sRun N μ T) ro) 5)), .int (nI ((sRow N (N 8 - T) (sRun N μ T) ro) 0)), .int (nI ((sRow N (N 8 - T) (sRun N μ T) ro) 7)), .ref qS, .int th])), (qM, .inl (cZ, 8, .inl u_26.1)), (qP, .inl (cI, 2, .inl u_26.2)), (qF, .inl (cI, 2, .inl fi)), (qR, .inl (cI, 2, .inl ri)), (qL, .inl (cI, 2, .inl fl))]) (lv1 := fun zz => [(5, .int (nI (sG N cPay (N 8 - T) (sRun N μ T) ro))), (0, .ref h0), (1, .int (nI im)), (2, .int (nI ((sRun N μ T) 7))), (3, .int fd), (4, .int (nI ro))]) (st1 := fun zz => [.int (nI (eX (fun z => sG N cPay (N 8 - T) (sRun N μ T) z) im (ro + 1)))]) (J := 68) (fun zz H locs ls hcut hP hD hS hl => ?_) (fun j_68 => ?_)
  · have hl : lv_has ls 6 [(5, .int (nI (sG N cPay (N 8 - T) (sRun N μ T) ro))), (0, .ref h0), (1, .int (nI im)), (2, .int (nI ((sRun N μ T) 7))), (3, .int fd), (4, .int (nI ro))] := hl
    have hP : va_P (dC, dI) vwCl [(h0, .inr (6, [.ref qF, .ref qR, .ref qL, .int (nI (N 6)), .int (nI (N 7)), .int (nI (N 8)), .int (nI (N 9)), .int (nI (N 10)), .int (nI (N 11)), .int (nI (N 12)), .int (nI (N 13)), .int (nI (N 14)), .ref qM, .int (nI T), .ref qP, .int (nI ((sRow N (N 8 - T) (sRun N μ T) ro) 3)), .int (nI ((sRow N (N 8 - T) (sRun N μ T) ro) 4)), .int (nI ((sRow N (N 8 - T) (sRun N μ T) ro) 5)), .int (nI ((sRow N (N 8 - T) (sRun N μ T) ro) 0)), .int (nI ((sRow N (N 8 - T) (sRun N μ T) ro) 7)), .ref qS, .int th])), (qM, .inl (cZ, 8, .inl u_26.1)), (qP, .inl (cI, 2, .inl u_26.2)), (qF, .inl (cI, 2, .inl fi)), (qR, .inl (cI, 2, .inl ri)), (qL, .inl (cI, 2, .inl fl))] H := hP
    have hD : va_D A [(h0, .inr (6, [.ref qF, .ref qR, .ref qL, .int (nI (N 6)), .int (nI (N 7)), .int (nI (N 8)), .int (nI (N 9)), .int (nI (N 10)), .int (nI (N 11)), .int (nI (N 12)), .int (nI (N 13)), .int (nI (N 14)), .ref qM, .int (nI T), .ref qP, .int (nI ((sRow N (N 8 - T) (sRun N μ T) ro) 3)), .int (nI ((sRow N (N 8 - T) (sRun N μ T) ro) 4)), .int (nI ((sRow N (N 8 - T) (sRun N μ T) ro) 5)), .int (nI ((sRow N (N 8 - T) (sRun N μ T) ro) 0)), .int (nI ((sRow N (N 8 - T) (sRun N μ T) ro) 7)), .ref qS, .int th])), (qM, .inl (cZ, 8, .inl u_26.1)), (qP, .inl (cI, 2, .inl u_26.2)), (qF, .inl (cI, 2, .inl fi)), (qR, .inl (cI, 2, .inl ri)), (qL, .inl (cI, 2, .inl fl))] := hD
    refine lv_istore_n (lv' := [(3, .int (nI (eX (fun z => sG N cPay (N 8 - T) (sRun N μ T) z) im (ro + 1)))), (5, .int (nI (sG N cPay (N 8 - T) (sRun N μ T) ro))), (0, .ref h0), (1, .int (nI im)), (2, .int (nI ((sRun N μ T) 7))), (4, .int (nI ro))]) hx hb dX6_extreme_68 rfl hl (by decide) rfl (fun ls hl => ?_)
    refine lv_iinc (v := (nI (ro + 1))) (lv' := [(4, .int (nI (ro + 1))), (3, .int (nI (eX (fun z => sG N cPay (N 8 - T) (sRun N μ T) z) im (ro + 1)))), (5, .int (nI (sG N cPay (N 8 - T) (sRun N μ T) ro))), (0, .ref h0), (1, .int (nI im)), (2, .int (nI ((sRun N μ T) 7)))]) hx hb dX6_extreme_69 hl (k := 5) rfl (nI_1 ro) (by decide) rfl (fun ls hl => ?_)
    refine lv_goto (tgt := 14) hx hb dX6_extreme_72 (by decide) ?_
    have hPc : (ro + 1) ≤ 2 ^ (N 8 - T) ∧ (∀ k, k < T → u_26.1 k = nI (μ k)) ∧ ((ro + 1) = 0 → (nI (eX (fun z => sG N cPay (N 8 - T) (sRun N μ T) z) im (ro + 1))) = -1) ∧ (0 < (ro + 1) → (nI (eX (fun z => sG N cPay (N 8 - T) (sRun N μ T) z) im (ro + 1))) = nI (eX (fun z => sG N cPay (N 8 - T) (sRun N μ T) z) im (ro + 1))) := ⟨by omega, w_26.2.1, fun h => absurd h (by omega), fun _ => rfl⟩
    exact ih_14 ((ro + 1), u_26.1, u_26.2, (x15f (nI ((sRow N (N 8 - T) (sRun N μ T) ro) 3)) (nI ((sRow N (N 8 - T) (sRun N μ T) ro) 4)) (nI ((sRow N (N 8 - T) (sRun N μ T) ro) 5)) (nI ((sRow N (N 8 - T) (sRun N μ T) ro) 0)) (nI ((sRow N (N 8 - T) (sRun N μ T) ro) 7))), (nI (eX (fun z => sG N cPay (N 8 - T) (sRun N μ T) z) im (ro + 1)))) H locs ls (hPc) (by show 2 ^ (N 8 - T) - (ro + 1) < 2 ^ (N 8 - T) - ro; omega) (hP.sub [0, 1, 2, 3, 4, 5] rfl) (hD.sub [0, 1, 2, 3, 4, 5] rfl rfl) hS (lv_sub hl [3, 4, 5, 1, 0] rfl)
  have hE := eX_step (f := (fun z => sG N cPay (N 8 - T) (sRun N μ T) z)) (im := im) (ro := ro) him hf0 hf1 (hgb ro) (eX_b ro (fun z _ => hgb z))
  refine lv_iload_n hx hb dX6_extreme_38 rfl (lv_at hl 4 rfl) ?_
  refine lv_iconst (v := (-1)) hx hb dX6_extreme_39 (by decide) ?_
  refine lv_icmp_eq (tgt := 62) hx hb dX6_extreme_40 (by decide) (fun c_40 => ?_) (fun c_40 => ?_)
  · refine lv_iload hx hb dX6_extreme_62 (lv_at hl 0 rfl) ?_
    refine xti (y := nI (eX (fun z => sG N cPay (N 8 - T) (sRun N μ T) z) im (ro + 1))) (by rw [hE, if_pos c_40]) ?_
    refine lv_goto (tgt := 68) hx hb dX6_extreme_64 (by decide) ?_
    exact j_68 () H locs ls (trivial) (hP.sub [0, 1, 2, 3, 4, 5] rfl) (hD.sub [0, 1, 2, 3, 4, 5] rfl rfl) hS (lv_sub hl [0, 1, 2, 3, 4, 5] rfl)
  refine lv_iload_n hx hb dX6_extreme_43 rfl (lv_at hl 2 rfl) ?_
  refine lv_if_eq (tgt := 56) hx hb dX6_extreme_44 (by decide) (fun c_44 => ?_) (fun c_44 => ?_)
  · have n_44 : im = 0 := (nz (n := im) (by omega)).mp c_44
    refine lv_iload hx hb dX6_extreme_56 (lv_at hl 0 rfl) ?_
    refine lv_iload_n hx hb dX6_extreme_58 rfl (lv_at hl 4 rfl) ?_
    refine lv_icmp_ge (tgt := 67) hx hb dX6_extreme_59 (by decide) (fun c_59 => ?_) (fun c_59 => ?_)
    · refine lv_iload_n hx hb dX6_extreme_67 rfl (lv_at hl 4 rfl) ?_
      refine xti (y := nI (eX (fun z => sG N cPay (N 8 - T) (sRun N μ T) z) im (ro + 1))) (by rw [hE, if_neg c_40, if_pos c_44, if_neg (Int32.not_lt.mpr c_59)]) ?_
      exact j_68 () H locs ls (trivial) (hP.sub [0, 1, 2, 3, 4, 5] rfl) (hD.sub [0, 1, 2, 3, 4, 5] rfl rfl) hS (lv_sub hl [0, 1, 2, 3, 4, 5] rfl)
    refine lv_iload hx hb dX6_extreme_62 (lv_at hl 0 rfl) ?_
    refine xti (y := nI (eX (fun z => sG N cPay (N 8 - T) (sRun N μ T) z) im (ro + 1))) (by rw [hE, if_neg c_40, if_pos c_44, if_pos (Int32.not_le.mp c_59)]) ?_
    refine lv_goto (tgt := 68) hx hb dX6_extreme_64 (by decide) ?_
    exact j_68 () H locs ls (trivial) (hP.sub [0, 1, 2, 3, 4, 5] rfl) (hD.sub [0, 1, 2, 3, 4, 5] rfl rfl) hS (lv_sub hl [0, 1, 2, 3, 4, 5] rfl)
  have n_44 : ¬ im = 0 := fun h => c_44 ((nz (n := im) (by omega)).mpr h)
  refine lv_iload hx hb dX6_extreme_47 (lv_at hl 0 rfl) ?_
  refine lv_iload_n hx hb dX6_extreme_49 rfl (lv_at hl 4 rfl) ?_
  refine lv_icmp_le (tgt := 67) hx hb dX6_extreme_50 (by decide) (fun c_50 => ?_) (fun c_50 => ?_)
  · refine lv_iload_n hx hb dX6_extreme_67 rfl (lv_at hl 4 rfl) ?_
    refine xti (y := nI (eX (fun z => sG N cPay (N 8 - T) (sRun N μ T) z) im (ro + 1))) (by rw [hE, if_neg c_40, if_neg c_44, if_neg (Int32.not_lt.mpr c_50)]) ?_
    exact j_68 () H locs ls (trivial) (hP.sub [0, 1, 2, 3, 4, 5] rfl) (hD.sub [0, 1, 2, 3, 4, 5] rfl rfl) hS (lv_sub hl [0, 1, 2, 3, 4, 5] rfl)
  refine lv_goto (tgt := 62) hx hb dX6_extreme_53 (by decide) ?_
  refine lv_iload hx hb dX6_extreme_62 (lv_at hl 0 rfl) ?_
  refine xti (y := nI (eX (fun z => sG N cPay (N 8 - T) (sRun N μ T) z) im (ro + 1))) (by rw [hE, if_neg c_40, if_neg c_44, if_pos (Int32.not_le.mp c_50)]) ?_
  refine lv_goto (tgt := 68) hx hb dX6_extreme_64 (by decide) ?_
  exact j_68 () H locs ls (trivial) (hP.sub [0, 1, 2, 3, 4, 5] rfl) (hD.sub [0, 1, 2, 3, 4, 5] rfl rfl) hS (lv_sub hl [0, 1, 2, 3, 4, 5] rfl)
set_option maxHeartbeats 4000000 in
set_option maxRecDepth 100000 in
theorem c_X6_least (l : Launch) (dC : Nat → ClassId) (dI : Nat → Nat → Nat) (cI cZ cJ : ClassId) (sz : Nat) (h0 qF qR qL qM qP qS : Nat) (N μ : Nat → Nat) (T : Nat) (fi ri fl pr mb sc : Nat → Int32) (th : Int32) (hN : Nok N) (hM : MoE N fi ri fl) (hTold : Told N μ T) (hT9 : T ≤ N 8) (hmb : ∀ k, k < T → mb k = nI (μ k)) (hμ : ∀ k, k < T → μ k ≤ 1) : Met l yX6_least wsX6_least ({ frames := 7, cells := 0, slots := 0, locals := 151 }) (va_Pc [.ref h0] (xB (dC, dI) (xT cI cZ cJ) [(h0, .inr (6, [.ref qF, .ref qR, .ref qL, .int (nI (N 6)), .int (nI (N 7)), .int (nI (N 8)), .int (nI (N 9)), .int (nI (N 10)), .int (nI (N 11)), .int (nI (N 12)), .int (nI (N 13)), .int (nI (N 14)), .ref qM, .int (nI T), .ref qP, .int (sc 15), .int (sc 16), .int (sc 17), .int (sc 18), .int (sc 19), .ref qS, .int th])), (qM, .inl (cZ, 8, .inl mb)), (qP, .inl (cI, 2, .inl pr)), (qF, .inl (cI, 2, .inl fi)), (qR, .inl (cI, 2, .inl ri)), (qL, .inl (cI, 2, .inl fl))] sz)) (va_Qi (fun (r : Int32) (u : (Nat → Int32) × (Nat → Int32) × (Nat → Int32)) => r = nI (if (sRun N μ T) 5 = 0 then sLo N (N 8 - T) (sRun N μ T) else 0) ∧ ∀ k, k < T → u.1 k = nI (μ k)) (fun (u : (Nat → Int32) × (Nat → Int32) × (Nat → Int32)) t9 => xA (dC, dI) (xT cI cZ cJ) [(h0, .inr (6, [.ref qF, .ref qR, .ref qL, .int (nI (N 6)), .int (nI (N 7)), .int (nI (N 8)), .int (nI (N 9)), .int (nI (N 10)), .int (nI (N 11)), .int (nI (N 12)), .int (nI (N 13)), .int (nI (N 14)), .ref qM, .int (nI T), .ref qP, .int (u.2.2 15), .int (u.2.2 16), .int (u.2.2 17), .int (u.2.2 18), .int (u.2.2 19), .ref qS, .int 0])), (qM, .inl (cZ, 8, .inl u.1)), (qP, .inl (cI, 2, .inl u.2.1)), (qF, .inl (cI, 2, .inl fi)), (qR, .inl (cI, 2, .inl ri)), (qL, .inl (cI, 2, .inl fl))] (va_A [(h0, .inr (6, [.ref qF, .ref qR, .ref qL, .int (nI (N 6)), .int (nI (N 7)), .int (nI (N 8)), .int (nI (N 9)), .int (nI (N 10)), .int (nI (N 11)), .int (nI (N 12)), .int (nI (N 13)), .int (nI (N 14)), .ref qM, .int (nI T), .ref qP, .int (sc 15), .int (sc 16), .int (sc 17), .int (sc 18), .int (sc 19), .ref qS, .int th])), (qM, .inl (cZ, 8, .inl mb)), (qP, .inl (cI, 2, .inl pr)), (qF, .inl (cI, 2, .inl fi)), (qR, .inl (cI, 2, .inl ri)), (qL, .inl (cI, 2, .inl fl))] sz) t9) (va_A [(h0, .inr (6, [.ref qF, .ref qR, .ref qL, .int (nI (N 6)), .int (nI (N 7)), .int (nI (N 8)), .int (nI (N 9)), .int (nI (N 10)), .int (nI (N 11)), .int (nI (N 12)), .int (nI (N 13)), .int (nI (N 14)), .ref qM, .int (nI T), .ref qP, .int (sc 15), .int (sc 16), .int (sc 17), .int (sc 18), .int (sc 19), .ref qS, .int th])), (qM, .inl (cZ, 8, .inl mb)), (qP, .inl (cI, 2, .inl pr)), (qF, .inl (cI, 2, .inl fi)), (qR, .inl (cI, 2, .inl ri)), (qL, .inl (cI, 2, .inl fl))] sz)) 0 0 (va_A [(h0, .inr (6, [.ref qF, .ref qR, .ref qL, .int (nI (N 6)), .int (nI (N 7)), .int (nI (N 8)), .int (nI (N 9)), .int (nI (N 10)), .int (nI (N 11)), .int (nI (N 12)), .int (nI (N 13)), .int (nI (N 14)), .ref qM, .int (nI T), .ref qP, .int (sc 15), .int (sc 16), .int (sc 17), .int (sc 18), .int (sc 19), .ref qS, .int th])), (qM, .inl (cZ, 8, .inl mb)), (qP, .inl (cI, 2, .inl pr)), (qF, .inl (cI, 2, .inl fi)), (qR, .inl (cI, 2, .inl ri)), (qL, .inl (cI, 2, .inl fl))] sz) := by
  refine xMet (QF := fun A => va_Qi (fun (r : Int32) (u : (Nat → Int32) × (Nat → Int32) × (Nat → Int32)) => r = nI (if (sRun N μ T) 5 = 0 then sLo N (N 8 - T) (sRun N μ T) else 0) ∧ ∀ k, k < T → u.1 k = nI (μ k)) (fun (u : (Nat → Int32) × (Nat → Int32) × (Nat → Int32)) t9 => xA (dC, dI) (xT cI cZ cJ) [(h0, .inr (6, [.ref qF, .ref qR, .ref qL, .int (nI (N 6)), .int (nI (N 7)), .int (nI (N 8)), .int (nI (N 9)), .int (nI (N 10)), .int (nI (N 11)), .int (nI (N 12)), .int (nI (N 13)), .int (nI (N 14)), .ref qM, .int (nI T), .ref qP, .int (u.2.2 15), .int (u.2.2 16), .int (u.2.2 17), .int (u.2.2 18), .int (u.2.2 19), .ref qS, .int 0])), (qM, .inl (cZ, 8, .inl u.1)), (qP, .inl (cI, 2, .inl u.2.1)), (qF, .inl (cI, 2, .inl fi)), (qR, .inl (cI, 2, .inl ri)), (qL, .inl (cI, 2, .inl fl))] A t9) A) (maxL := 1) (ret := (some .int)) (cc := cX6_least) (by decide) rfl (Nat.le_of_ble_eq_true rfl) ?_
  intro p e s m below meth c ls A hf hr hlk hnm hK hP hD hA hS hl
  obtain ⟨hx, hb, hml, hown, hts⟩ := id hf
  have iX6 : ∀ w ∈ wsX60, w ∈ wsX6_least := by decide +kernel
  have hl : lv_has ls 1 [(0, .ref h0)] := hl
  have hP : va_P (dC, dI) vwCl [(h0, .inr (6, [.ref qF, .ref qR, .ref qL, .int (nI (N 6)), .int (nI (N 7)), .int (nI (N 8)), .int (nI (N 9)), .int (nI (N 10)), .int (nI (N 11)), .int (nI (N 12)), .int (nI (N 13)), .int (nI (N 14)), .ref qM, .int (nI T), .ref qP, .int (sc 15), .int (sc 16), .int (sc 17), .int (sc 18), .int (sc 19), .ref qS, .int th])), (qM, .inl (cZ, 8, .inl mb)), (qP, .inl (cI, 2, .inl pr)), (qF, .inl (cI, 2, .inl fi)), (qR, .inl (cI, 2, .inl ri)), (qL, .inl (cI, 2, .inl fl))] s.heap := hP
  have h8 : N 8 ≤ 8 := hN.2.2.2.2.2.1
  have hs := sRun_ok (μ := μ) hN T (by omega)
  have s5 : (sRun N μ T) 5 ≤ 1 := hs.2.2.2.2.2.2.2.1
  refine lv_aload_n hx hb dX6_least_0 rfl (lv_at hl 0 rfl) ?_
  refine lv_iconst (v := 0) hx hb dX6_least_1 (by decide) ?_
  refine va_put (D := (dC, dI)) (ci := 6) (v := .int 0) (ty := .int) (C := RX6) (T := TX6) (N := 22) hx hb hts iX6 tyX6 tyX6_ok nmX6 hown hK hP hD hS 0 rfl rfl 21 (by decide) (hts (.fieldLink RX6 49 "BarrierbookModel" "thrown" "I") (by decide +kernel)) (fun _ h9 => h9) rfl (by decide +kernel) rfl rfl (Nat.le_of_ble_eq_true rfl) dX6_least_2 (fun H locs hP hD hS => ?_)
  have hP : va_P (dC, dI) vwCl [(h0, .inr (6, [.ref qF, .ref qR, .ref qL, .int (nI (N 6)), .int (nI (N 7)), .int (nI (N 8)), .int (nI (N 9)), .int (nI (N 10)), .int (nI (N 11)), .int (nI (N 12)), .int (nI (N 13)), .int (nI (N 14)), .ref qM, .int (nI T), .ref qP, .int (sc 15), .int (sc 16), .int (sc 17), .int (sc 18), .int (sc 19), .ref qS, .int 0])), (qM, .inl (cZ, 8, .inl mb)), (qP, .inl (cI, 2, .inl pr)), (qF, .inl (cI, 2, .inl fi)), (qR, .inl (cI, 2, .inl ri)), (qL, .inl (cI, 2, .inl fl))] H := hP
  have hD : va_D A [(h0, .inr (6, [.ref qF, .ref qR, .ref qL, .int (nI (N 6)), .int (nI (N 7)), .int (nI (N 8)), .int (nI (N 9)), .int (nI (N 10)), .int (nI (N 11)), .int (nI (N 12)), .int (nI (N 13)), .int (nI (N 14)), .ref qM, .int (nI T), .ref qP, .int (sc 15), .int (sc 16), .int (sc 17), .int (sc 18), .int (sc 19), .ref qS, .int 0])), (qM, .inl (cZ, 8, .inl mb)), (qP, .inl (cI, 2, .inl pr)), (qF, .inl (cI, 2, .inl fi)), (qR, .inl (cI, 2, .inl ri)), (qL, .inl (cI, 2, .inl fl))] := hD
  refine lv_aload_n hx hb dX6_least_5 rfl (lv_at hl 0 rfl) ?_
  refine xci (wr := []) (va_runV (As := []) (rest := []) hf (c_X6_isOverNow l dC dI cI cZ cJ H.size h0 qF qR qL qM qP qS N μ T fi ri fl pr mb sc 0 (hN) (hM) (hTold) (hT9) (hmb) (hμ)) (cwV 0 hts gX6_least_X6_isOverNow rfl rfl rfl (by decide +kernel) ⟨Nat.le_of_ble_eq_true rfl, Nat.le_of_ble_eq_true rfl⟩) (xPV (qc := (RX6, TX6, 22)) hK hP hD [0, 1, 2, 3, 4, 5] rfl rfl 0 rfl rfl) rfl rfl hl.1 rfl (lv_room (Nat.le_of_ble_eq_true rfl)) dX6_least_6 ⟨Nat.le_of_ble_eq_true rfl, Nat.le_of_ble_eq_true rfl⟩) hP hD hS hA [0, 1, 2, 3, 4, 5] [] rfl rfl rfl (by decide) (fun r_6 u_6 H locs w_6 hP hD hS => ?_)
  have hP : va_P (dC, dI) vwCl [(h0, .inr (6, [.ref qF, .ref qR, .ref qL, .int (nI (N 6)), .int (nI (N 7)), .int (nI (N 8)), .int (nI (N 9)), .int (nI (N 10)), .int (nI (N 11)), .int (nI (N 12)), .int (nI (N 13)), .int (nI (N 14)), .ref qM, .int (nI T), .ref qP, .int (nI ((sRun N μ T) 3)), .int (nI ((sRun N μ T) 4)), .int (nI ((sRun N μ T) 5)), .int (nI ((sRun N μ T) 0)), .int (nI ((sRun N μ T) 7)), .ref qS, .int 0])), (qM, .inl (cZ, 8, .inl mb)), (qP, .inl (cI, 2, .inl u_6)), (qF, .inl (cI, 2, .inl fi)), (qR, .inl (cI, 2, .inl ri)), (qL, .inl (cI, 2, .inl fl))] H := hP
  have hD : va_D A [(h0, .inr (6, [.ref qF, .ref qR, .ref qL, .int (nI (N 6)), .int (nI (N 7)), .int (nI (N 8)), .int (nI (N 9)), .int (nI (N 10)), .int (nI (N 11)), .int (nI (N 12)), .int (nI (N 13)), .int (nI (N 14)), .ref qM, .int (nI T), .ref qP, .int (nI ((sRun N μ T) 3)), .int (nI ((sRun N μ T) 4)), .int (nI ((sRun N μ T) 5)), .int (nI ((sRun N μ T) 0)), .int (nI ((sRun N μ T) 7)), .ref qS, .int 0])), (qM, .inl (cZ, 8, .inl mb)), (qP, .inl (cI, 2, .inl u_6)), (qF, .inl (cI, 2, .inl fi)), (qR, .inl (cI, 2, .inl ri)), (qL, .inl (cI, 2, .inl fl))] := hD
  refine xti (y := (nI ((sRun N μ T) 5))) (w_6.1) ?_
  refine lv_if_eq (tgt := 16) hx hb dX6_least_9 (by decide) (fun c_9 => ?_) (fun c_9 => ?_)
  · have n_9 : ((sRun N μ T) 5) = 0 := (nz (n := ((sRun N μ T) 5)) (by omega)).mp c_9
    refine lv_aload_n hx hb dX6_least_16 rfl (lv_at hl 0 rfl) ?_
    refine lv_iconst (v := 0) hx hb dX6_least_17 (by decide) ?_
    refine xti (y := (nI 0)) (rfl) ?_
    refine xci (wr := []) (va_runV (As := [.int (nI 0)]) (rest := []) hf (c_X6_extreme l dC dI cI cZ cJ H.size h0 qF qR qL qM qP qS N μ T fi ri fl u_6 mb (x15f (nI ((sRun N μ T) 3)) (nI ((sRun N μ T) 4)) (nI ((sRun N μ T) 5)) (nI ((sRun N μ T) 0)) (nI ((sRun N μ T) 7))) 0 0 (hN) (hM) (hTold) (hT9) (hmb) (hμ) (n_9) (by decide)) (cwV 1 hts gX6_least_X6_extreme rfl rfl rfl (by decide +kernel) ⟨Nat.le_of_ble_eq_true rfl, Nat.le_of_ble_eq_true rfl⟩) (xPV (qc := (RX6, TX6, 22)) hK hP hD [0, 1, 2, 3, 4, 5] rfl rfl 0 rfl rfl) rfl rfl hl.1 rfl (lv_room (Nat.le_of_ble_eq_true rfl)) dX6_least_18 ⟨Nat.le_of_ble_eq_true rfl, Nat.le_of_ble_eq_true rfl⟩) hP hD hS hA [0, 1, 2, 3, 4, 5] [] rfl rfl rfl (by decide) (fun r_18 u_18 H locs w_18 hP hD hS => ?_)
    have hP : va_P (dC, dI) vwCl [(h0, .inr (6, [.ref qF, .ref qR, .ref qL, .int (nI (N 6)), .int (nI (N 7)), .int (nI (N 8)), .int (nI (N 9)), .int (nI (N 10)), .int (nI (N 11)), .int (nI (N 12)), .int (nI (N 13)), .int (nI (N 14)), .ref qM, .int (nI T), .ref qP, .int (u_18.2.2 15), .int (u_18.2.2 16), .int (u_18.2.2 17), .int (u_18.2.2 18), .int (u_18.2.2 19), .ref qS, .int 0])), (qM, .inl (cZ, 8, .inl u_18.1)), (qP, .inl (cI, 2, .inl u_18.2.1)), (qF, .inl (cI, 2, .inl fi)), (qR, .inl (cI, 2, .inl ri)), (qL, .inl (cI, 2, .inl fl))] H := hP
    have hD : va_D A [(h0, .inr (6, [.ref qF, .ref qR, .ref qL, .int (nI (N 6)), .int (nI (N 7)), .int (nI (N 8)), .int (nI (N 9)), .int (nI (N 10)), .int (nI (N 11)), .int (nI (N 12)), .int (nI (N 13)), .int (nI (N 14)), .ref qM, .int (nI T), .ref qP, .int (u_18.2.2 15), .int (u_18.2.2 16), .int (u_18.2.2 17), .int (u_18.2.2 18), .int (u_18.2.2 19), .ref qS, .int 0])), (qM, .inl (cZ, 8, .inl u_18.1)), (qP, .inl (cI, 2, .inl u_18.2.1)), (qF, .inl (cI, 2, .inl fi)), (qR, .inl (cI, 2, .inl ri)), (qL, .inl (cI, 2, .inl fl))] := hD
    refine xti (y := (nI (sExt N (N 8 - T) (sRun N μ T) 0))) (w_18.1) ?_
    exact xri hf hr hlk (u_18) (⟨by rw [if_pos n_9]; rfl, w_18.2⟩) (hP.sub [0, 1, 2, 3, 4, 5] rfl) (hD.sub [0, 1, 2, 3, 4, 5] rfl rfl) hK hS dX6_least_21
  have n_9 : ¬ ((sRun N μ T) 5) = 0 := fun h => c_9 ((nz (n := ((sRun N μ T) 5)) (by omega)).mpr h)
  refine lv_iconst (v := 0) hx hb dX6_least_12 (by decide) ?_
  refine lv_goto (tgt := 21) hx hb dX6_least_13 (by decide) ?_
  exact xri hf hr hlk ((mb, u_6, (x15f (nI ((sRun N μ T) 3)) (nI ((sRun N μ T) 4)) (nI ((sRun N μ T) 5)) (nI ((sRun N μ T) 0)) (nI ((sRun N μ T) 7))))) (⟨by rw [if_neg n_9]; rfl, hmb⟩) (hP.sub [0, 1, 2, 3, 4, 5] rfl) (hD.sub [0, 1, 2, 3, 4, 5] rfl rfl) hK hS dX6_least_21
set_option maxHeartbeats 4000000 in
set_option maxRecDepth 100000 in
theorem c_X6_most (l : Launch) (dC : Nat → ClassId) (dI : Nat → Nat → Nat) (cI cZ cJ : ClassId) (sz : Nat) (h0 qF qR qL qM qP qS : Nat) (N μ : Nat → Nat) (T : Nat) (fi ri fl pr mb sc : Nat → Int32) (th : Int32) (hN : Nok N) (hM : MoE N fi ri fl) (hTold : Told N μ T) (hT9 : T ≤ N 8) (hmb : ∀ k, k < T → mb k = nI (μ k)) (hμ : ∀ k, k < T → μ k ≤ 1) : Met l yX6_most wsX6_most ({ frames := 7, cells := 0, slots := 0, locals := 151 }) (va_Pc [.ref h0] (xB (dC, dI) (xT cI cZ cJ) [(h0, .inr (6, [.ref qF, .ref qR, .ref qL, .int (nI (N 6)), .int (nI (N 7)), .int (nI (N 8)), .int (nI (N 9)), .int (nI (N 10)), .int (nI (N 11)), .int (nI (N 12)), .int (nI (N 13)), .int (nI (N 14)), .ref qM, .int (nI T), .ref qP, .int (sc 15), .int (sc 16), .int (sc 17), .int (sc 18), .int (sc 19), .ref qS, .int th])), (qM, .inl (cZ, 8, .inl mb)), (qP, .inl (cI, 2, .inl pr)), (qF, .inl (cI, 2, .inl fi)), (qR, .inl (cI, 2, .inl ri)), (qL, .inl (cI, 2, .inl fl))] sz)) (va_Qi (fun (r : Int32) (u : (Nat → Int32) × (Nat → Int32) × (Nat → Int32)) => r = nI (if (sRun N μ T) 5 = 0 then sHi N (N 8 - T) (sRun N μ T) else 0) ∧ ∀ k, k < T → u.1 k = nI (μ k)) (fun (u : (Nat → Int32) × (Nat → Int32) × (Nat → Int32)) t9 => xA (dC, dI) (xT cI cZ cJ) [(h0, .inr (6, [.ref qF, .ref qR, .ref qL, .int (nI (N 6)), .int (nI (N 7)), .int (nI (N 8)), .int (nI (N 9)), .int (nI (N 10)), .int (nI (N 11)), .int (nI (N 12)), .int (nI (N 13)), .int (nI (N 14)), .ref qM, .int (nI T), .ref qP, .int (u.2.2 15), .int (u.2.2 16), .int (u.2.2 17), .int (u.2.2 18), .int (u.2.2 19), .ref qS, .int 0])), (qM, .inl (cZ, 8, .inl u.1)), (qP, .inl (cI, 2, .inl u.2.1)), (qF, .inl (cI, 2, .inl fi)), (qR, .inl (cI, 2, .inl ri)), (qL, .inl (cI, 2, .inl fl))] (va_A [(h0, .inr (6, [.ref qF, .ref qR, .ref qL, .int (nI (N 6)), .int (nI (N 7)), .int (nI (N 8)), .int (nI (N 9)), .int (nI (N 10)), .int (nI (N 11)), .int (nI (N 12)), .int (nI (N 13)), .int (nI (N 14)), .ref qM, .int (nI T), .ref qP, .int (sc 15), .int (sc 16), .int (sc 17), .int (sc 18), .int (sc 19), .ref qS, .int th])), (qM, .inl (cZ, 8, .inl mb)), (qP, .inl (cI, 2, .inl pr)), (qF, .inl (cI, 2, .inl fi)), (qR, .inl (cI, 2, .inl ri)), (qL, .inl (cI, 2, .inl fl))] sz) t9) (va_A [(h0, .inr (6, [.ref qF, .ref qR, .ref qL, .int (nI (N 6)), .int (nI (N 7)), .int (nI (N 8)), .int (nI (N 9)), .int (nI (N 10)), .int (nI (N 11)), .int (nI (N 12)), .int (nI (N 13)), .int (nI (N 14)), .ref qM, .int (nI T), .ref qP, .int (sc 15), .int (sc 16), .int (sc 17), .int (sc 18), .int (sc 19), .ref qS, .int th])), (qM, .inl (cZ, 8, .inl mb)), (qP, .inl (cI, 2, .inl pr)), (qF, .inl (cI, 2, .inl fi)), (qR, .inl (cI, 2, .inl ri)), (qL, .inl (cI, 2, .inl fl))] sz)) 0 0 (va_A [(h0, .inr (6, [.ref qF, .ref qR, .ref qL, .int (nI (N 6)), .int (nI (N 7)), .int (nI (N 8)), .int (nI (N 9)), .int (nI (N 10)), .int (nI (N 11)), .int (nI (N 12)), .int (nI (N 13)), .int (nI (N 14)), .ref qM, .int (nI T), .ref qP, .int (sc 15), .int (sc 16), .int (sc 17), .int (sc 18), .int (sc 19), .ref qS, .int th])), (qM, .inl (cZ, 8, .inl mb)), (qP, .inl (cI, 2, .inl pr)), (qF, .inl (cI, 2, .inl fi)), (qR, .inl (cI, 2, .inl ri)), (qL, .inl (cI, 2, .inl fl))] sz) := by
  refine xMet (QF := fun A => va_Qi (fun (r : Int32) (u : (Nat → Int32) × (Nat → Int32) × (Nat → Int32)) => r = nI (if (sRun N μ T) 5 = 0 then sHi N (N 8 - T) (sRun N μ T) else 0) ∧ ∀ k, k < T → u.1 k = nI (μ k)) (fun (u : (Nat → Int32) × (Nat → Int32) × (Nat → Int32)) t9 => xA (dC, dI) (xT cI cZ cJ) [(h0, .inr (6, [.ref qF, .ref qR, .ref qL, .int (nI (N 6)), .int (nI (N 7)), .int (nI (N 8)), .int (nI (N 9)), .int (nI (N 10)), .int (nI (N 11)), .int (nI (N 12)), .int (nI (N 13)), .int (nI (N 14)), .ref qM, .int (nI T), .ref qP, .int (u.2.2 15), .int (u.2.2 16), .int (u.2.2 17), .int (u.2.2 18), .int (u.2.2 19), .ref qS, .int 0])), (qM, .inl (cZ, 8, .inl u.1)), (qP, .inl (cI, 2, .inl u.2.1)), (qF, .inl (cI, 2, .inl fi)), (qR, .inl (cI, 2, .inl ri)), (qL, .inl (cI, 2, .inl fl))] A t9) A) (maxL := 1) (ret := (some .int)) (cc := cX6_most) (by decide) rfl (Nat.le_of_ble_eq_true rfl) ?_
  intro p e s m below meth c ls A hf hr hlk hnm hK hP hD hA hS hl
  obtain ⟨hx, hb, hml, hown, hts⟩ := id hf
  have iX6 : ∀ w ∈ wsX60, w ∈ wsX6_most := by decide +kernel
  have hl : lv_has ls 1 [(0, .ref h0)] := hl
  have hP : va_P (dC, dI) vwCl [(h0, .inr (6, [.ref qF, .ref qR, .ref qL, .int (nI (N 6)), .int (nI (N 7)), .int (nI (N 8)), .int (nI (N 9)), .int (nI (N 10)), .int (nI (N 11)), .int (nI (N 12)), .int (nI (N 13)), .int (nI (N 14)), .ref qM, .int (nI T), .ref qP, .int (sc 15), .int (sc 16), .int (sc 17), .int (sc 18), .int (sc 19), .ref qS, .int th])), (qM, .inl (cZ, 8, .inl mb)), (qP, .inl (cI, 2, .inl pr)), (qF, .inl (cI, 2, .inl fi)), (qR, .inl (cI, 2, .inl ri)), (qL, .inl (cI, 2, .inl fl))] s.heap := hP
  have h8 : N 8 ≤ 8 := hN.2.2.2.2.2.1
  have hs := sRun_ok (μ := μ) hN T (by omega)
  have s5 : (sRun N μ T) 5 ≤ 1 := hs.2.2.2.2.2.2.2.1
  refine lv_aload_n hx hb dX6_most_0 rfl (lv_at hl 0 rfl) ?_
  refine lv_iconst (v := 0) hx hb dX6_most_1 (by decide) ?_
  refine va_put (D := (dC, dI)) (ci := 6) (v := .int 0) (ty := .int) (C := RX6) (T := TX6) (N := 22) hx hb hts iX6 tyX6 tyX6_ok nmX6 hown hK hP hD hS 0 rfl rfl 21 (by decide) (hts (.fieldLink RX6 49 "BarrierbookModel" "thrown" "I") (by decide +kernel)) (fun _ h9 => h9) rfl (by decide +kernel) rfl rfl (Nat.le_of_ble_eq_true rfl) dX6_most_2 (fun H locs hP hD hS => ?_)
  have hP : va_P (dC, dI) vwCl [(h0, .inr (6, [.ref qF, .ref qR, .ref qL, .int (nI (N 6)), .int (nI (N 7)), .int (nI (N 8)), .int (nI (N 9)), .int (nI (N 10)), .int (nI (N 11)), .int (nI (N 12)), .int (nI (N 13)), .int (nI (N 14)), .ref qM, .int (nI T), .ref qP, .int (sc 15), .int (sc 16), .int (sc 17), .int (sc 18), .int (sc 19), .ref qS, .int 0])), (qM, .inl (cZ, 8, .inl mb)), (qP, .inl (cI, 2, .inl pr)), (qF, .inl (cI, 2, .inl fi)), (qR, .inl (cI, 2, .inl ri)), (qL, .inl (cI, 2, .inl fl))] H := hP
  have hD : va_D A [(h0, .inr (6, [.ref qF, .ref qR, .ref qL, .int (nI (N 6)), .int (nI (N 7)), .int (nI (N 8)), .int (nI (N 9)), .int (nI (N 10)), .int (nI (N 11)), .int (nI (N 12)), .int (nI (N 13)), .int (nI (N 14)), .ref qM, .int (nI T), .ref qP, .int (sc 15), .int (sc 16), .int (sc 17), .int (sc 18), .int (sc 19), .ref qS, .int 0])), (qM, .inl (cZ, 8, .inl mb)), (qP, .inl (cI, 2, .inl pr)), (qF, .inl (cI, 2, .inl fi)), (qR, .inl (cI, 2, .inl ri)), (qL, .inl (cI, 2, .inl fl))] := hD
  refine lv_aload_n hx hb dX6_most_5 rfl (lv_at hl 0 rfl) ?_
  refine xci (wr := []) (va_runV (As := []) (rest := []) hf (c_X6_isOverNow l dC dI cI cZ cJ H.size h0 qF qR qL qM qP qS N μ T fi ri fl pr mb sc 0 (hN) (hM) (hTold) (hT9) (hmb) (hμ)) (cwV 0 hts gX6_most_X6_isOverNow rfl rfl rfl (by decide +kernel) ⟨Nat.le_of_ble_eq_true rfl, Nat.le_of_ble_eq_true rfl⟩) (xPV (qc := (RX6, TX6, 22)) hK hP hD [0, 1, 2, 3, 4, 5] rfl rfl 0 rfl rfl) rfl rfl hl.1 rfl (lv_room (Nat.le_of_ble_eq_true rfl)) dX6_most_6 ⟨Nat.le_of_ble_eq_true rfl, Nat.le_of_ble_eq_true rfl⟩) hP hD hS hA [0, 1, 2, 3, 4, 5] [] rfl rfl rfl (by decide) (fun r_6 u_6 H locs w_6 hP hD hS => ?_)
  have hP : va_P (dC, dI) vwCl [(h0, .inr (6, [.ref qF, .ref qR, .ref qL, .int (nI (N 6)), .int (nI (N 7)), .int (nI (N 8)), .int (nI (N 9)), .int (nI (N 10)), .int (nI (N 11)), .int (nI (N 12)), .int (nI (N 13)), .int (nI (N 14)), .ref qM, .int (nI T), .ref qP, .int (nI ((sRun N μ T) 3)), .int (nI ((sRun N μ T) 4)), .int (nI ((sRun N μ T) 5)), .int (nI ((sRun N μ T) 0)), .int (nI ((sRun N μ T) 7)), .ref qS, .int 0])), (qM, .inl (cZ, 8, .inl mb)), (qP, .inl (cI, 2, .inl u_6)), (qF, .inl (cI, 2, .inl fi)), (qR, .inl (cI, 2, .inl ri)), (qL, .inl (cI, 2, .inl fl))] H := hP
  have hD : va_D A [(h0, .inr (6, [.ref qF, .ref qR, .ref qL, .int (nI (N 6)), .int (nI (N 7)), .int (nI (N 8)), .int (nI (N 9)), .int (nI (N 10)), .int (nI (N 11)), .int (nI (N 12)), .int (nI (N 13)), .int (nI (N 14)), .ref qM, .int (nI T), .ref qP, .int (nI ((sRun N μ T) 3)), .int (nI ((sRun N μ T) 4)), .int (nI ((sRun N μ T) 5)), .int (nI ((sRun N μ T) 0)), .int (nI ((sRun N μ T) 7)), .ref qS, .int 0])), (qM, .inl (cZ, 8, .inl mb)), (qP, .inl (cI, 2, .inl u_6)), (qF, .inl (cI, 2, .inl fi)), (qR, .inl (cI, 2, .inl ri)), (qL, .inl (cI, 2, .inl fl))] := hD
  refine xti (y := (nI ((sRun N μ T) 5))) (w_6.1) ?_
  refine lv_if_eq (tgt := 16) hx hb dX6_most_9 (by decide) (fun c_9 => ?_) (fun c_9 => ?_)
  · have n_9 : ((sRun N μ T) 5) = 0 := (nz (n := ((sRun N μ T) 5)) (by omega)).mp c_9
    refine lv_aload_n hx hb dX6_most_16 rfl (lv_at hl 0 rfl) ?_
    refine lv_iconst (v := 1) hx hb dX6_most_17 (by decide) ?_
    refine xti (y := (nI 1)) (rfl) ?_
    refine xci (wr := []) (va_runV (As := [.int (nI 1)]) (rest := []) hf (c_X6_extreme l dC dI cI cZ cJ H.size h0 qF qR qL qM qP qS N μ T fi ri fl u_6 mb (x15f (nI ((sRun N μ T) 3)) (nI ((sRun N μ T) 4)) (nI ((sRun N μ T) 5)) (nI ((sRun N μ T) 0)) (nI ((sRun N μ T) 7))) 0 1 (hN) (hM) (hTold) (hT9) (hmb) (hμ) (n_9) (by decide)) (cwV 1 hts gX6_most_X6_extreme rfl rfl rfl (by decide +kernel) ⟨Nat.le_of_ble_eq_true rfl, Nat.le_of_ble_eq_true rfl⟩) (xPV (qc := (RX6, TX6, 22)) hK hP hD [0, 1, 2, 3, 4, 5] rfl rfl 0 rfl rfl) rfl rfl hl.1 rfl (lv_room (Nat.le_of_ble_eq_true rfl)) dX6_most_18 ⟨Nat.le_of_ble_eq_true rfl, Nat.le_of_ble_eq_true rfl⟩) hP hD hS hA [0, 1, 2, 3, 4, 5] [] rfl rfl rfl (by decide) (fun r_18 u_18 H locs w_18 hP hD hS => ?_)
    have hP : va_P (dC, dI) vwCl [(h0, .inr (6, [.ref qF, .ref qR, .ref qL, .int (nI (N 6)), .int (nI (N 7)), .int (nI (N 8)), .int (nI (N 9)), .int (nI (N 10)), .int (nI (N 11)), .int (nI (N 12)), .int (nI (N 13)), .int (nI (N 14)), .ref qM, .int (nI T), .ref qP, .int (u_18.2.2 15), .int (u_18.2.2 16), .int (u_18.2.2 17), .int (u_18.2.2 18), .int (u_18.2.2 19), .ref qS, .int 0])), (qM, .inl (cZ, 8, .inl u_18.1)), (qP, .inl (cI, 2, .inl u_18.2.1)), (qF, .inl (cI, 2, .inl fi)), (qR, .inl (cI, 2, .inl ri)), (qL, .inl (cI, 2, .inl fl))] H := hP
    have hD : va_D A [(h0, .inr (6, [.ref qF, .ref qR, .ref qL, .int (nI (N 6)), .int (nI (N 7)), .int (nI (N 8)), .int (nI (N 9)), .int (nI (N 10)), .int (nI (N 11)), .int (nI (N 12)), .int (nI (N 13)), .int (nI (N 14)), .ref qM, .int (nI T), .ref qP, .int (u_18.2.2 15), .int (u_18.2.2 16), .int (u_18.2.2 17), .int (u_18.2.2 18), .int (u_18.2.2 19), .ref qS, .int 0])), (qM, .inl (cZ, 8, .inl u_18.1)), (qP, .inl (cI, 2, .inl u_18.2.1)), (qF, .inl (cI, 2, .inl fi)), (qR, .inl (cI, 2, .inl ri)), (qL, .inl (cI, 2, .inl fl))] := hD
    refine xti (y := (nI (sExt N (N 8 - T) (sRun N μ T) 1))) (w_18.1) ?_
    exact xri hf hr hlk (u_18) (⟨by rw [if_pos n_9]; rfl, w_18.2⟩) (hP.sub [0, 1, 2, 3, 4, 5] rfl) (hD.sub [0, 1, 2, 3, 4, 5] rfl rfl) hK hS dX6_most_21
  have n_9 : ¬ ((sRun N μ T) 5) = 0 := fun h => c_9 ((nz (n := ((sRun N μ T) 5)) (by omega)).mpr h)
  refine lv_iconst (v := 0) hx hb dX6_most_12 (by decide) ?_
  refine lv_goto (tgt := 21) hx hb dX6_most_13 (by decide) ?_
  exact xri hf hr hlk ((mb, u_6, (x15f (nI ((sRun N μ T) 3)) (nI ((sRun N μ T) 4)) (nI ((sRun N μ T) 5)) (nI ((sRun N μ T) 0)) (nI ((sRun N μ T) 7))))) (⟨by rw [if_neg n_9]; rfl, hmb⟩) (hP.sub [0, 1, 2, 3, 4, 5] rfl) (hD.sub [0, 1, 2, 3, 4, 5] rfl rfl) hK hS dX6_most_21
set_option maxHeartbeats 4000000 in
set_option maxRecDepth 100000 in
theorem c_X6_knocks (l : Launch) (dC : Nat → ClassId) (dI : Nat → Nat → Nat) (cI cZ cJ : ClassId) (sz : Nat) (h0 qF qR qL qM qP qS : Nat) (N μ : Nat → Nat) (T : Nat) (fi ri fl pr mb sc : Nat → Int32) (th : Int32) (hN : Nok N) (hM : MoE N fi ri fl) (hTold : Told N μ T) (hT9 : T ≤ N 8) (hmb : ∀ k, k < T → mb k = nI (μ k)) (hμ : ∀ k, k < T → μ k ≤ 1) : Met l yX6_knocks wsX6_knocks ({ frames := 6, cells := 0, slots := 0, locals := 126 }) (va_Pc [.ref h0] (xB (dC, dI) (xT cI cZ cJ) [(h0, .inr (6, [.ref qF, .ref qR, .ref qL, .int (nI (N 6)), .int (nI (N 7)), .int (nI (N 8)), .int (nI (N 9)), .int (nI (N 10)), .int (nI (N 11)), .int (nI (N 12)), .int (nI (N 13)), .int (nI (N 14)), .ref qM, .int (nI T), .ref qP, .int (sc 15), .int (sc 16), .int (sc 17), .int (sc 18), .int (sc 19), .ref qS, .int th])), (qM, .inl (cZ, 8, .inl mb)), (qP, .inl (cI, 2, .inl pr)), (qF, .inl (cI, 2, .inl fi)), (qR, .inl (cI, 2, .inl ri)), (qL, .inl (cI, 2, .inl fl))] sz)) (va_Ql (fun (r : Int64) (u : (Nat → Int32) × (Nat → Int32) × (Nat → Int32)) => r = lN (if (sRun N μ T) 5 = 0 then sPhi N cKno (N 8 - T) (sRun N μ T) else (sRun N μ T) 4) ∧ ∀ k, k < T → u.1 k = nI (μ k)) (fun (u : (Nat → Int32) × (Nat → Int32) × (Nat → Int32)) t9 => xA (dC, dI) (xT cI cZ cJ) [(h0, .inr (6, [.ref qF, .ref qR, .ref qL, .int (nI (N 6)), .int (nI (N 7)), .int (nI (N 8)), .int (nI (N 9)), .int (nI (N 10)), .int (nI (N 11)), .int (nI (N 12)), .int (nI (N 13)), .int (nI (N 14)), .ref qM, .int (nI T), .ref qP, .int (u.2.2 15), .int (u.2.2 16), .int (u.2.2 17), .int (u.2.2 18), .int (u.2.2 19), .ref qS, .int 0])), (qM, .inl (cZ, 8, .inl u.1)), (qP, .inl (cI, 2, .inl u.2.1)), (qF, .inl (cI, 2, .inl fi)), (qR, .inl (cI, 2, .inl ri)), (qL, .inl (cI, 2, .inl fl))] (va_A [(h0, .inr (6, [.ref qF, .ref qR, .ref qL, .int (nI (N 6)), .int (nI (N 7)), .int (nI (N 8)), .int (nI (N 9)), .int (nI (N 10)), .int (nI (N 11)), .int (nI (N 12)), .int (nI (N 13)), .int (nI (N 14)), .ref qM, .int (nI T), .ref qP, .int (sc 15), .int (sc 16), .int (sc 17), .int (sc 18), .int (sc 19), .ref qS, .int th])), (qM, .inl (cZ, 8, .inl mb)), (qP, .inl (cI, 2, .inl pr)), (qF, .inl (cI, 2, .inl fi)), (qR, .inl (cI, 2, .inl ri)), (qL, .inl (cI, 2, .inl fl))] sz) t9) (va_A [(h0, .inr (6, [.ref qF, .ref qR, .ref qL, .int (nI (N 6)), .int (nI (N 7)), .int (nI (N 8)), .int (nI (N 9)), .int (nI (N 10)), .int (nI (N 11)), .int (nI (N 12)), .int (nI (N 13)), .int (nI (N 14)), .ref qM, .int (nI T), .ref qP, .int (sc 15), .int (sc 16), .int (sc 17), .int (sc 18), .int (sc 19), .ref qS, .int th])), (qM, .inl (cZ, 8, .inl mb)), (qP, .inl (cI, 2, .inl pr)), (qF, .inl (cI, 2, .inl fi)), (qR, .inl (cI, 2, .inl ri)), (qL, .inl (cI, 2, .inl fl))] sz)) 0 0 (va_A [(h0, .inr (6, [.ref qF, .ref qR, .ref qL, .int (nI (N 6)), .int (nI (N 7)), .int (nI (N 8)), .int (nI (N 9)), .int (nI (N 10)), .int (nI (N 11)), .int (nI (N 12)), .int (nI (N 13)), .int (nI (N 14)), .ref qM, .int (nI T), .ref qP, .int (sc 15), .int (sc 16), .int (sc 17), .int (sc 18), .int (sc 19), .ref qS, .int th])), (qM, .inl (cZ, 8, .inl mb)), (qP, .inl (cI, 2, .inl pr)), (qF, .inl (cI, 2, .inl fi)), (qR, .inl (cI, 2, .inl ri)), (qL, .inl (cI, 2, .inl fl))] sz) := by
  refine xMet (QF := fun A => va_Ql (fun (r : Int64) (u : (Nat → Int32) × (Nat → Int32) × (Nat → Int32)) => r = lN (if (sRun N μ T) 5 = 0 then sPhi N cKno (N 8 - T) (sRun N μ T) else (sRun N μ T) 4) ∧ ∀ k, k < T → u.1 k = nI (μ k)) (fun (u : (Nat → Int32) × (Nat → Int32) × (Nat → Int32)) t9 => xA (dC, dI) (xT cI cZ cJ) [(h0, .inr (6, [.ref qF, .ref qR, .ref qL, .int (nI (N 6)), .int (nI (N 7)), .int (nI (N 8)), .int (nI (N 9)), .int (nI (N 10)), .int (nI (N 11)), .int (nI (N 12)), .int (nI (N 13)), .int (nI (N 14)), .ref qM, .int (nI T), .ref qP, .int (u.2.2 15), .int (u.2.2 16), .int (u.2.2 17), .int (u.2.2 18), .int (u.2.2 19), .ref qS, .int 0])), (qM, .inl (cZ, 8, .inl u.1)), (qP, .inl (cI, 2, .inl u.2.1)), (qF, .inl (cI, 2, .inl fi)), (qR, .inl (cI, 2, .inl ri)), (qL, .inl (cI, 2, .inl fl))] A t9) A) (maxL := 6) (ret := (some .long)) (cc := cX6_knocks) (by decide) rfl (Nat.le_of_ble_eq_true rfl) ?_
  intro p e s m below meth c ls A hf hr hlk hnm hK hP hD hA hS hl
  obtain ⟨hx, hb, hml, hown, hts⟩ := id hf
  have iX6 : ∀ w ∈ wsX60, w ∈ wsX6_knocks := by decide +kernel
  have hl : lv_has ls 6 [(0, .ref h0)] := hl
  have hP : va_P (dC, dI) vwCl [(h0, .inr (6, [.ref qF, .ref qR, .ref qL, .int (nI (N 6)), .int (nI (N 7)), .int (nI (N 8)), .int (nI (N 9)), .int (nI (N 10)), .int (nI (N 11)), .int (nI (N 12)), .int (nI (N 13)), .int (nI (N 14)), .ref qM, .int (nI T), .ref qP, .int (sc 15), .int (sc 16), .int (sc 17), .int (sc 18), .int (sc 19), .ref qS, .int th])), (qM, .inl (cZ, 8, .inl mb)), (qP, .inl (cI, 2, .inl pr)), (qF, .inl (cI, 2, .inl fi)), (qR, .inl (cI, 2, .inl ri)), (qL, .inl (cI, 2, .inl fl))] s.heap := hP
  have h8 : N 8 ≤ 8 := hN.2.2.2.2.2.1
  have hs := sRun_ok (μ := μ) hN T (by omega)
  have s5 : (sRun N μ T) 5 ≤ 1 := hs.2.2.2.2.2.2.2.1
  have hs4 := hs.2.2.2.2.2.2.1
  refine lv_aload_n hx hb dX6_knocks_0 rfl (lv_at hl 0 rfl) ?_
  refine lv_iconst (v := 0) hx hb dX6_knocks_1 (by decide) ?_
  refine va_put (D := (dC, dI)) (ci := 6) (v := .int 0) (ty := .int) (C := RX6) (T := TX6) (N := 22) hx hb hts iX6 tyX6 tyX6_ok nmX6 hown hK hP hD hS 0 rfl rfl 21 (by decide) (hts (.fieldLink RX6 49 "BarrierbookModel" "thrown" "I") (by decide +kernel)) (fun _ h9 => h9) rfl (by decide +kernel) rfl rfl (Nat.le_of_ble_eq_true rfl) dX6_knocks_2 (fun H locs hP hD hS => ?_)
  have hP : va_P (dC, dI) vwCl [(h0, .inr (6, [.ref qF, .ref qR, .ref qL, .int (nI (N 6)), .int (nI (N 7)), .int (nI (N 8)), .int (nI (N 9)), .int (nI (N 10)), .int (nI (N 11)), .int (nI (N 12)), .int (nI (N 13)), .int (nI (N 14)), .ref qM, .int (nI T), .ref qP, .int (sc 15), .int (sc 16), .int (sc 17), .int (sc 18), .int (sc 19), .ref qS, .int 0])), (qM, .inl (cZ, 8, .inl mb)), (qP, .inl (cI, 2, .inl pr)), (qF, .inl (cI, 2, .inl fi)), (qR, .inl (cI, 2, .inl ri)), (qL, .inl (cI, 2, .inl fl))] H := hP
  have hD : va_D A [(h0, .inr (6, [.ref qF, .ref qR, .ref qL, .int (nI (N 6)), .int (nI (N 7)), .int (nI (N 8)), .int (nI (N 9)), .int (nI (N 10)), .int (nI (N 11)), .int (nI (N 12)), .int (nI (N 13)), .int (nI (N 14)), .ref qM, .int (nI T), .ref qP, .int (sc 15), .int (sc 16), .int (sc 17), .int (sc 18), .int (sc 19), .ref qS, .int 0])), (qM, .inl (cZ, 8, .inl mb)), (qP, .inl (cI, 2, .inl pr)), (qF, .inl (cI, 2, .inl fi)), (qR, .inl (cI, 2, .inl ri)), (qL, .inl (cI, 2, .inl fl))] := hD
  refine lv_aload_n hx hb dX6_knocks_5 rfl (lv_at hl 0 rfl) ?_
  refine xci (wr := []) (va_runV (As := []) (rest := []) hf (c_X6_isOverNow l dC dI cI cZ cJ H.size h0 qF qR qL qM qP qS N μ T fi ri fl pr mb sc 0 (hN) (hM) (hTold) (hT9) (hmb) (hμ)) (cwV 0 hts gX6_knocks_X6_isOverNow rfl rfl rfl (by decide +kernel) ⟨Nat.le_of_ble_eq_true rfl, Nat.le_of_ble_eq_true rfl⟩) (xPV (qc := (RX6, TX6, 22)) hK hP hD [0, 1, 2, 3, 4, 5] rfl rfl 0 rfl rfl) rfl rfl hl.1 rfl (lv_room (Nat.le_of_ble_eq_true rfl)) dX6_knocks_6 ⟨Nat.le_of_ble_eq_true rfl, Nat.le_of_ble_eq_true rfl⟩) hP hD hS hA [0, 1, 2, 3, 4, 5] [] rfl rfl rfl (by decide) (fun r_6 u_6 H locs w_6 hP hD hS => ?_)
  have hP : va_P (dC, dI) vwCl [(h0, .inr (6, [.ref qF, .ref qR, .ref qL, .int (nI (N 6)), .int (nI (N 7)), .int (nI (N 8)), .int (nI (N 9)), .int (nI (N 10)), .int (nI (N 11)), .int (nI (N 12)), .int (nI (N 13)), .int (nI (N 14)), .ref qM, .int (nI T), .ref qP, .int (nI ((sRun N μ T) 3)), .int (nI ((sRun N μ T) 4)), .int (nI ((sRun N μ T) 5)), .int (nI ((sRun N μ T) 0)), .int (nI ((sRun N μ T) 7)), .ref qS, .int 0])), (qM, .inl (cZ, 8, .inl mb)), (qP, .inl (cI, 2, .inl u_6)), (qF, .inl (cI, 2, .inl fi)), (qR, .inl (cI, 2, .inl ri)), (qL, .inl (cI, 2, .inl fl))] H := hP
  have hD : va_D A [(h0, .inr (6, [.ref qF, .ref qR, .ref qL, .int (nI (N 6)), .int (nI (N 7)), .int (nI (N 8)), .int (nI (N 9)), .int (nI (N 10)), .int (nI (N 11)), .int (nI (N 12)), .int (nI (N 13)), .int (nI (N 14)), .ref qM, .int (nI T), .ref qP, .int (nI ((sRun N μ T) 3)), .int (nI ((sRun N μ T) 4)), .int (nI ((sRun N μ T) 5)), .int (nI ((sRun N μ T) 0)), .int (nI ((sRun N μ T) 7)), .ref qS, .int 0])), (qM, .inl (cZ, 8, .inl mb)), (qP, .inl (cI, 2, .inl u_6)), (qF, .inl (cI, 2, .inl fi)), (qR, .inl (cI, 2, .inl ri)), (qL, .inl (cI, 2, .inl fl))] := hD
  refine xti (y := (nI ((sRun N μ T) 5))) (w_6.1) ?_
  refine lv_if_eq (tgt := 25) hx hb dX6_knocks_9 (by decide) (fun c_9 => ?_) (fun c_9 => ?_)
  · have n_9 : ((sRun N μ T) 5) = 0 := (nz (n := ((sRun N μ T) 5)) (by omega)).mp c_9
    have hz5 := n_9
    have hTl : T < N 8 := sTold_lt hN hTold n_9 hT9
    have hpw : 2 ^ (N 8 - T) ≤ 256 := two_pow_le (by omega)
    have hrs : sRws N (sRun N μ T) T = 2 ^ (N 8 - T) := if_pos n_9
    refine lv_lconst (v := 0) hx hb dX6_knocks_25 (by decide) ?_
    refine xtl (y := (lN (sSum (fun z => sRW N (N 8 - T) z * sG N cKno (N 8 - T) (sRun N μ T) z) 0))) (rfl) ?_
    refine lv_lstore_n (lv' := [(1, .long (lN (sSum (fun z => sRW N (N 8 - T) z * sG N cKno (N 8 - T) (sRun N μ T) z) 0))), (0, .ref h0)]) hx hb dX6_knocks_26 rfl hl (by decide) rfl (fun ls hl => ?_)
    refine lv_iconst (v := 0) hx hb dX6_knocks_27 (by decide) ?_
    refine xti (y := (nI 0)) (rfl) ?_
    refine lv_istore_n (lv' := [(3, .int (nI 0)), (1, .long (lN (sSum (fun z => sRW N (N 8 - T) z * sG N cKno (N 8 - T) (sRun N μ T) z) 0))), (0, .ref h0)]) hx hb dX6_knocks_28 rfl hl (by decide) rfl (fun ls hl => ?_)
    have hPi : 0 ≤ 2 ^ (N 8 - T) ∧ (∀ k, k < T → mb k = nI (μ k)) := ⟨Nat.zero_le _, hmb⟩
    refine xloop (X := Nat × (Nat → Int32) × (Nat → Int32) × (Nat → Int32)) (D := (dC, dI)) (A := A) (H0 := s.heap) (nL := 6) (P := fun zz => zz.1 ≤ 2 ^ (N 8 - T) ∧ (∀ k, k < T → zz.2.1 k = nI (μ k))) (w1 := fun zz => [(h0, .inr (6, [.ref qF, .ref qR, .ref qL, .int (nI (N 6)), .int (nI (N 7)), .int (nI (N 8)), .int (nI (N 9)), .int (nI (N 10)), .int (nI (N 11)), .int (nI (N 12)), .int (nI (N 13)), .int (nI (N 14)), .ref qM, .int (nI T), .ref qP, .int (zz.2.2.2 15), .int (zz.2.2.2 16), .int (zz.2.2.2 17), .int (zz.2.2.2 18), .int (zz.2.2.2 19), .ref qS, .int 0])), (qM, .inl (cZ, 8, .inl zz.2.1)), (qP, .inl (cI, 2, .inl zz.2.2.1)), (qF, .inl (cI, 2, .inl fi)), (qR, .inl (cI, 2, .inl ri)), (qL, .inl (cI, 2, .inl fl))]) (lv1 := fun zz => [(0, .ref h0), (1, .long (lN (sSum (fun z => sRW N (N 8 - T) z * sG N cKno (N 8 - T) (sRun N μ T) z) zz.1))), (3, .int (nI zz.1))]) (st1 := fun zz => []) (J := 29) (μ := fun zz => 2 ^ (N 8 - T) - zz.1) ?_ (0, mb, u_6, (x15f (nI ((sRun N μ T) 3)) (nI ((sRun N μ T) 4)) (nI ((sRun N μ T) 5)) (nI ((sRun N μ T) 0)) (nI ((sRun N μ T) 7)))) H locs ls (hPi) (hP.sub [0, 1, 2, 3, 4, 5] rfl) (hD.sub [0, 1, 2, 3, 4, 5] rfl rfl) hS (lv_sub hl [2, 1, 0] rfl)
    intro zz H locs ls hcut hP hD hS hl ih_29
    obtain ⟨ro, mk, pk, sq⟩ := zz
    have hcut : ro ≤ 2 ^ (N 8 - T) ∧ (∀ k, k < T → mk k = nI (μ k)) := hcut
    obtain ⟨hk, hmk⟩ := hcut
    have hl : lv_has ls 6 [(0, .ref h0), (1, .long (lN (sSum (fun z => sRW N (N 8 - T) z * sG N cKno (N 8 - T) (sRun N μ T) z) ro))), (3, .int (nI ro))] := hl
    have hP : va_P (dC, dI) vwCl [(h0, .inr (6, [.ref qF, .ref qR, .ref qL, .int (nI (N 6)), .int (nI (N 7)), .int (nI (N 8)), .int (nI (N 9)), .int (nI (N 10)), .int (nI (N 11)), .int (nI (N 12)), .int (nI (N 13)), .int (nI (N 14)), .ref qM, .int (nI T), .ref qP, .int (sq 15), .int (sq 16), .int (sq 17), .int (sq 18), .int (sq 19), .ref qS, .int 0])), (qM, .inl (cZ, 8, .inl mk)), (qP, .inl (cI, 2, .inl pk)), (qF, .inl (cI, 2, .inl fi)), (qR, .inl (cI, 2, .inl ri)), (qL, .inl (cI, 2, .inl fl))] H := hP
    have hD : va_D A [(h0, .inr (6, [.ref qF, .ref qR, .ref qL, .int (nI (N 6)), .int (nI (N 7)), .int (nI (N 8)), .int (nI (N 9)), .int (nI (N 10)), .int (nI (N 11)), .int (nI (N 12)), .int (nI (N 13)), .int (nI (N 14)), .ref qM, .int (nI T), .ref qP, .int (sq 15), .int (sq 16), .int (sq 17), .int (sq 18), .int (sq 19), .ref qS, .int 0])), (qM, .inl (cZ, 8, .inl mk)), (qP, .inl (cI, 2, .inl pk)), (qF, .inl (cI, 2, .inl fi)), (qR, .inl (cI, 2, .inl ri)), (qL, .inl (cI, 2, .inl fl))] := hD
    refine lv_iload_n hx hb dX6_knocks_29 rfl (lv_at hl 2 rfl) ?_
    refine lv_aload_n hx hb dX6_knocks_30 rfl (lv_at hl 0 rfl) ?_
    refine xci (wr := []) (va_runV (As := []) (rest := [.int (nI ro)]) hf (c_X6_rows l dC dI cI cZ cJ H.size h0 qF qR qL qM qP qS N μ T fi ri fl pk mk sq 0 (hN) (hM) (hTold) (hT9) (hmk) (hμ)) (cwV 0 hts gX6_knocks_X6_rows rfl rfl rfl (by decide +kernel) ⟨Nat.le_of_ble_eq_true rfl, Nat.le_of_ble_eq_true rfl⟩) (xPV (qc := (RX6, TX6, 22)) hK hP hD [0, 1, 2, 3, 4, 5] rfl rfl 0 rfl rfl) rfl rfl hl.1 rfl (lv_room (Nat.le_of_ble_eq_true rfl)) dX6_knocks_31 ⟨Nat.le_of_ble_eq_true rfl, Nat.le_of_ble_eq_true rfl⟩) hP hD hS hA [0, 1, 2, 3, 4, 5] [] rfl rfl rfl (by decide) (fun r_31 u_31 H locs w_31 hP hD hS => ?_)
    have hP : va_P (dC, dI) vwCl [(h0, .inr (6, [.ref qF, .ref qR, .ref qL, .int (nI (N 6)), .int (nI (N 7)), .int (nI (N 8)), .int (nI (N 9)), .int (nI (N 10)), .int (nI (N 11)), .int (nI (N 12)), .int (nI (N 13)), .int (nI (N 14)), .ref qM, .int (nI T), .ref qP, .int (nI ((sRun N μ T) 3)), .int (nI ((sRun N μ T) 4)), .int (nI ((sRun N μ T) 5)), .int (nI ((sRun N μ T) 0)), .int (nI ((sRun N μ T) 7)), .ref qS, .int 0])), (qM, .inl (cZ, 8, .inl mk)), (qP, .inl (cI, 2, .inl u_31)), (qF, .inl (cI, 2, .inl fi)), (qR, .inl (cI, 2, .inl ri)), (qL, .inl (cI, 2, .inl fl))] H := hP
    have hD : va_D A [(h0, .inr (6, [.ref qF, .ref qR, .ref qL, .int (nI (N 6)), .int (nI (N 7)), .int (nI (N 8)), .int (nI (N 9)), .int (nI (N 10)), .int (nI (N 11)), .int (nI (N 12)), .int (nI (N 13)), .int (nI (N 14)), .ref qM, .int (nI T), .ref qP, .int (nI ((sRun N μ T) 3)), .int (nI ((sRun N μ T) 4)), .int (nI ((sRun N μ T) 5)), .int (nI ((sRun N μ T) 0)), .int (nI ((sRun N μ T) 7)), .ref qS, .int 0])), (qM, .inl (cZ, 8, .inl mk)), (qP, .inl (cI, 2, .inl u_31)), (qF, .inl (cI, 2, .inl fi)), (qR, .inl (cI, 2, .inl ri)), (qL, .inl (cI, 2, .inl fl))] := hD
    refine xti (y := (nI (2 ^ (N 8 - T)))) ((by rw [← hrs]; exact w_31.1)) ?_
    refine lv_icmp_ge (tgt := 66) hx hb dX6_knocks_34 (by decide) (fun c_34 => ?_) (fun c_34 => ?_)
    · have n_34 : (2 ^ (N 8 - T)) ≤ ro := (nI_leI (a := (2 ^ (N 8 - T))) (b := ro) (by omega) (by omega)).mp c_34
      refine lv_lload_n hx hb dX6_knocks_66 rfl (lv_at hl 1 rfl) ?_
      exact xrl hf hr hlk ((mk, u_31, (x15f (nI ((sRun N μ T) 3)) (nI ((sRun N μ T) 4)) (nI ((sRun N μ T) 5)) (nI ((sRun N μ T) 0)) (nI ((sRun N μ T) 7))))) (⟨by rw [if_pos hz5, show ro = 2 ^ (N 8 - T) by omega, sG_sum hN cKno _ _ hz5], hmk⟩) (hP.sub [0, 1, 2, 3, 4, 5] rfl) (hD.sub [0, 1, 2, 3, 4, 5] rfl rfl) hK hS dX6_knocks_67
    have n_34 : ¬ (2 ^ (N 8 - T)) ≤ ro := fun h => c_34 ((nI_leI (a := (2 ^ (N 8 - T))) (b := ro) (by omega) (by omega)).mpr h)
    refine lv_aload_n hx hb dX6_knocks_37 rfl (lv_at hl 0 rfl) ?_
    refine lv_iload_n hx hb dX6_knocks_38 rfl (lv_at hl 2 rfl) ?_
    refine xcl (wr := []) (va_runV (As := [.int (nI ro)]) (rest := []) hf (c_X6_weight l dC dI cI cZ cJ H.size h0 qF qR qL qM qP qS N μ T fi ri fl u_31 mk (x15f (nI ((sRun N μ T) 3)) (nI ((sRun N μ T) 4)) (nI ((sRun N μ T) 5)) (nI ((sRun N μ T) 0)) (nI ((sRun N μ T) 7))) 0 ro (hN) (hM) (hTold) (hT9) (hmk) (hμ) (by omega)) (cwV 1 hts gX6_knocks_X6_weight rfl rfl rfl (by decide +kernel) ⟨Nat.le_of_ble_eq_true rfl, Nat.le_of_ble_eq_true rfl⟩) (xPV (qc := (RX6, TX6, 22)) hK hP hD [0, 1, 2, 3, 4, 5] rfl rfl 0 rfl rfl) rfl rfl hl.1 rfl (lv_room (Nat.le_of_ble_eq_true rfl)) dX6_knocks_39 ⟨Nat.le_of_ble_eq_true rfl, Nat.le_of_ble_eq_true rfl⟩) hP hD hS hA [0, 1, 2, 3, 4, 5] [] rfl rfl rfl (by decide) (fun r_39 u_39 H locs w_39 hP hD hS => ?_)
    have hP : va_P (dC, dI) vwCl [(h0, .inr (6, [.ref qF, .ref qR, .ref qL, .int (nI (N 6)), .int (nI (N 7)), .int (nI (N 8)), .int (nI (N 9)), .int (nI (N 10)), .int (nI (N 11)), .int (nI (N 12)), .int (nI (N 13)), .int (nI (N 14)), .ref qM, .int (nI T), .ref qP, .int (nI ((sRow N (N 8 - T) (sRun N μ T) ro) 3)), .int (nI ((sRow N (N 8 - T) (sRun N μ T) ro) 4)), .int (nI ((sRow N (N 8 - T) (sRun N μ T) ro) 5)), .int (nI ((sRow N (N 8 - T) (sRun N μ T) ro) 0)), .int (nI ((sRow N (N 8 - T) (sRun N μ T) ro) 7)), .ref qS, .int 0])), (qM, .inl (cZ, 8, .inl u_39.1)), (qP, .inl (cI, 2, .inl u_39.2)), (qF, .inl (cI, 2, .inl fi)), (qR, .inl (cI, 2, .inl ri)), (qL, .inl (cI, 2, .inl fl))] H := hP
    have hD : va_D A [(h0, .inr (6, [.ref qF, .ref qR, .ref qL, .int (nI (N 6)), .int (nI (N 7)), .int (nI (N 8)), .int (nI (N 9)), .int (nI (N 10)), .int (nI (N 11)), .int (nI (N 12)), .int (nI (N 13)), .int (nI (N 14)), .ref qM, .int (nI T), .ref qP, .int (nI ((sRow N (N 8 - T) (sRun N μ T) ro) 3)), .int (nI ((sRow N (N 8 - T) (sRun N μ T) ro) 4)), .int (nI ((sRow N (N 8 - T) (sRun N μ T) ro) 5)), .int (nI ((sRow N (N 8 - T) (sRun N μ T) ro) 0)), .int (nI ((sRow N (N 8 - T) (sRun N μ T) ro) 7)), .ref qS, .int 0])), (qM, .inl (cZ, 8, .inl u_39.1)), (qP, .inl (cI, 2, .inl u_39.2)), (qF, .inl (cI, 2, .inl fi)), (qR, .inl (cI, 2, .inl ri)), (qL, .inl (cI, 2, .inl fl))] := hD
    refine xtl (y := (lN (sRW N (N 8 - T) ro))) (w_39.1) ?_
    refine lv_lstore (lv' := [(4, .long (lN (sRW N (N 8 - T) ro))), (0, .ref h0), (1, .long (lN (sSum (fun z => sRW N (N 8 - T) z * sG N cKno (N 8 - T) (sRun N μ T) z) ro))), (3, .int (nI ro))]) hx hb dX6_knocks_42 hl (by decide) rfl (fun ls hl => ?_)
    refine xjoin (X := Unit) (D := (dC, dI)) (A := A) (H0 := s.heap) (nL := 6) (P := fun zz => True) (w1 := fun zz => [(h0, .inr (6, [.ref qF, .ref qR, .ref qL, .int (nI (N 6)), .int (nI (N 7)), .int (nI (N 8)), .int (nI (N 9)), .int (nI (N 10)), .int (nI (N 11)), .int (nI (N 12)), .int (nI (N 13)), .int (nI (N 14)), .ref qM, .int (nI T), .ref qP, .int (nI ((sRow N (N 8 - T) (sRun N μ T) ro) 3)), .int (nI ((sRow N (N 8 - T) (sRun N μ T) ro) 4)), .int (nI ((sRow N (N 8 - T) (sRun N μ T) ro) 5)), .int (nI ((sRow N (N 8 - T) (sRun N μ T) ro) 0)), .int (nI ((sRow N (N 8 - T) (sRun N μ T) ro) 7)), .ref qS, .int 0])), (qM, .inl (cZ, 8, .inl u_39.1)), (qP, .inl (cI, 2, .inl u_39.2)), (qF, .inl (cI, 2, .inl fi)), (qR, .inl (cI, 2, .inl ri)), (qL, .inl (cI, 2, .inl fl))]) (lv1 := fun zz => [(4, .long (lN (sRW N (N 8 - T) ro))), (0, .ref h0), (1, .long (lN (sSum (fun z => sRW N (N 8 - T) z * sG N cKno (N 8 - T) (sRun N μ T) z) ro))), (3, .int (nI ro))]) (st1 := fun zz => [.long (lN (sRW N (N 8 - T) ro * sG N cKno (N 8 - T) (sRun N μ T) ro)), .long (lN (sSum (fun z => sRW N (N 8 - T) z * sG N cKno (N 8 - T) (sRun N μ T) z) ro))]) (J := 58) (fun zz H locs ls hcut hP hD hS hl => ?_) (fun j_58 => ?_)
    · have hl : lv_has ls 6 [(4, .long (lN (sRW N (N 8 - T) ro))), (0, .ref h0), (1, .long (lN (sSum (fun z => sRW N (N 8 - T) z * sG N cKno (N 8 - T) (sRun N μ T) z) ro))), (3, .int (nI ro))] := hl
      have hP : va_P (dC, dI) vwCl [(h0, .inr (6, [.ref qF, .ref qR, .ref qL, .int (nI (N 6)), .int (nI (N 7)), .int (nI (N 8)), .int (nI (N 9)), .int (nI (N 10)), .int (nI (N 11)), .int (nI (N 12)), .int (nI (N 13)), .int (nI (N 14)), .ref qM, .int (nI T), .ref qP, .int (nI ((sRow N (N 8 - T) (sRun N μ T) ro) 3)), .int (nI ((sRow N (N 8 - T) (sRun N μ T) ro) 4)), .int (nI ((sRow N (N 8 - T) (sRun N μ T) ro) 5)), .int (nI ((sRow N (N 8 - T) (sRun N μ T) ro) 0)), .int (nI ((sRow N (N 8 - T) (sRun N μ T) ro) 7)), .ref qS, .int 0])), (qM, .inl (cZ, 8, .inl u_39.1)), (qP, .inl (cI, 2, .inl u_39.2)), (qF, .inl (cI, 2, .inl fi)), (qR, .inl (cI, 2, .inl ri)), (qL, .inl (cI, 2, .inl fl))] H := hP
      have hD : va_D A [(h0, .inr (6, [.ref qF, .ref qR, .ref qL, .int (nI (N 6)), .int (nI (N 7)), .int (nI (N 8)), .int (nI (N 9)), .int (nI (N 10)), .int (nI (N 11)), .int (nI (N 12)), .int (nI (N 13)), .int (nI (N 14)), .ref qM, .int (nI T), .ref qP, .int (nI ((sRow N (N 8 - T) (sRun N μ T) ro) 3)), .int (nI ((sRow N (N 8 - T) (sRun N μ T) ro) 4)), .int (nI ((sRow N (N 8 - T) (sRun N μ T) ro) 5)), .int (nI ((sRow N (N 8 - T) (sRun N μ T) ro) 0)), .int (nI ((sRow N (N 8 - T) (sRun N μ T) ro) 7)), .ref qS, .int 0])), (qM, .inl (cZ, 8, .inl u_39.1)), (qP, .inl (cI, 2, .inl u_39.2)), (qF, .inl (cI, 2, .inl fi)), (qR, .inl (cI, 2, .inl ri)), (qL, .inl (cI, 2, .inl fl))] := hD
      refine lv_ladd hx hb dX6_knocks_58 ?_
      refine xtl (y := (lN (sSum (fun z => sRW N (N 8 - T) z * sG N cKno (N 8 - T) (sRun N μ T) z) (ro + 1)))) (lN_add _ _) ?_
      refine lv_lstore_n (lv' := [(1, .long (lN (sSum (fun z => sRW N (N 8 - T) z * sG N cKno (N 8 - T) (sRun N μ T) z) (ro + 1)))), (4, .long (lN (sRW N (N 8 - T) ro))), (0, .ref h0), (3, .int (nI ro))]) hx hb dX6_knocks_59 rfl hl (by decide) rfl (fun ls hl => ?_)
      refine lv_iinc (v := (nI (ro + 1))) (lv' := [(3, .int (nI (ro + 1))), (1, .long (lN (sSum (fun z => sRW N (N 8 - T) z * sG N cKno (N 8 - T) (sRun N μ T) z) (ro + 1)))), (4, .long (lN (sRW N (N 8 - T) ro))), (0, .ref h0)]) hx hb dX6_knocks_60 hl (k := 3) rfl (nI_1 ro) (by decide) rfl (fun ls hl => ?_)
      refine lv_goto (tgt := 29) hx hb dX6_knocks_63 (by decide) ?_
      have hPc : (ro + 1) ≤ 2 ^ (N 8 - T) ∧ (∀ k, k < T → u_39.1 k = nI (μ k)) := ⟨by omega, w_39.2.1⟩
      exact ih_29 ((ro + 1), u_39.1, u_39.2, (x15f (nI ((sRow N (N 8 - T) (sRun N μ T) ro) 3)) (nI ((sRow N (N 8 - T) (sRun N μ T) ro) 4)) (nI ((sRow N (N 8 - T) (sRun N μ T) ro) 5)) (nI ((sRow N (N 8 - T) (sRun N μ T) ro) 0)) (nI ((sRow N (N 8 - T) (sRun N μ T) ro) 7)))) H locs ls (hPc) (by show 2 ^ (N 8 - T) - (ro + 1) < 2 ^ (N 8 - T) - ro; omega) (hP.sub [0, 1, 2, 3, 4, 5] rfl) (hD.sub [0, 1, 2, 3, 4, 5] rfl rfl) hS (lv_sub hl [3, 1, 0] rfl)
    have hs4r := (sRow_ok (μ := μ) (T := T) (ro := ro) (n := N 8 - T) hN (by omega)).2.2.2.2.2.2.1
    refine lv_lload_n hx hb dX6_knocks_44 rfl (lv_at hl 2 rfl) ?_
    refine lv_aload_n hx hb dX6_knocks_45 rfl (lv_at hl 1 rfl) ?_
    refine va_get (D := (dC, dI)) (ci := 6) (v := .int (nI ((sRow N (N 8 - T) (sRun N μ T) ro) 4))) (C := RX6) (T := TX6) (N := 22) hx hb hts iX6 hown hK hP 0 rfl rfl 16 (by decide) (hts (.fieldLink RX6 87 "BarrierbookModel" "isKnocked" "Z") (by decide +kernel)) (fun _ h9 => h9) rfl dX6_knocks_46 ?_
    refine lv_if_eq (tgt := 57) hx hb dX6_knocks_49 (by decide) (fun c_49 => ?_) (fun c_49 => ?_)
    · have n_49 : ((sRow N (N 8 - T) (sRun N μ T) ro) 4) = 0 := (nz (n := ((sRow N (N 8 - T) (sRun N μ T) ro) 4)) (by omega)).mp c_49
      refine lv_lconst (v := 0) hx hb dX6_knocks_57 (by decide) ?_
      refine xtl (y := (lN (sRW N (N 8 - T) ro * sG N cKno (N 8 - T) (sRun N μ T) ro))) (congrArg lN (by rw [(sG_kno (N := N) (N 8 - T) (sRun N μ T) ro (by rw [sRun_t T hTold]; omega) hz5 (by omega)), n_49, Nat.mul_zero])) ?_
      exact j_58 () H locs ls (trivial) (hP.sub [0, 1, 2, 3, 4, 5] rfl) (hD.sub [0, 1, 2, 3, 4, 5] rfl rfl) hS (lv_sub hl [0, 1, 2, 3] rfl)
    have n_49 : ¬ ((sRow N (N 8 - T) (sRun N μ T) ro) 4) = 0 := fun h => c_49 ((nz (n := ((sRow N (N 8 - T) (sRun N μ T) ro) 4)) (by omega)).mpr h)
    have hk1 : (sRow N (N 8 - T) (sRun N μ T) ro) 4 = 1 := by omega
    refine lv_lload hx hb dX6_knocks_52 (lv_at hl 0 rfl) ?_
    refine xtl (y := (lN (sRW N (N 8 - T) ro * sG N cKno (N 8 - T) (sRun N μ T) ro))) (congrArg lN (by rw [(sG_kno (N := N) (N 8 - T) (sRun N μ T) ro (by rw [sRun_t T hTold]; omega) hz5 (by omega)), hk1, Nat.mul_one])) ?_
    refine lv_goto (tgt := 58) hx hb dX6_knocks_54 (by decide) ?_
    exact j_58 () H locs ls (trivial) (hP.sub [0, 1, 2, 3, 4, 5] rfl) (hD.sub [0, 1, 2, 3, 4, 5] rfl rfl) hS (lv_sub hl [0, 1, 2, 3] rfl)
  have n_9 : ¬ ((sRun N μ T) 5) = 0 := fun h => c_9 ((nz (n := ((sRun N μ T) 5)) (by omega)).mpr h)
  refine lv_aload_n hx hb dX6_knocks_12 rfl (lv_at hl 0 rfl) ?_
  refine va_get (D := (dC, dI)) (ci := 6) (v := .int (nI ((sRun N μ T) 4))) (C := RX6) (T := TX6) (N := 22) hx hb hts iX6 hown hK hP 0 rfl rfl 16 (by decide) (hts (.fieldLink RX6 87 "BarrierbookModel" "isKnocked" "Z") (by decide +kernel)) (fun _ h9 => h9) rfl dX6_knocks_13 ?_
  refine lv_if_eq (tgt := 23) hx hb dX6_knocks_16 (by decide) (fun c_16 => ?_) (fun c_16 => ?_)
  · have n_16 : ((sRun N μ T) 4) = 0 := (nz (n := ((sRun N μ T) 4)) (by omega)).mp c_16
    refine lv_lconst (v := 0) hx hb dX6_knocks_23 (by decide) ?_
    exact xrl hf hr hlk ((mb, u_6, (x15f (nI ((sRun N μ T) 3)) (nI ((sRun N μ T) 4)) (nI ((sRun N μ T) 5)) (nI ((sRun N μ T) 0)) (nI ((sRun N μ T) 7))))) (⟨by rw [if_neg n_9]; exact congrArg lN n_16.symm, hmb⟩) (hP.sub [0, 1, 2, 3, 4, 5] rfl) (hD.sub [0, 1, 2, 3, 4, 5] rfl rfl) hK hS dX6_knocks_24
  have n_16 : ¬ ((sRun N μ T) 4) = 0 := fun h => c_16 ((nz (n := ((sRun N μ T) 4)) (by omega)).mpr h)
  refine lv_lconst (v := 1) hx hb dX6_knocks_19 (by decide) ?_
  refine lv_goto (tgt := 24) hx hb dX6_knocks_20 (by decide) ?_
  exact xrl hf hr hlk ((mb, u_6, (x15f (nI ((sRun N μ T) 3)) (nI ((sRun N μ T) 4)) (nI ((sRun N μ T) 5)) (nI ((sRun N μ T) 0)) (nI ((sRun N μ T) 7))))) (⟨by rw [if_neg n_9]; exact congrArg lN (show 1 = (sRun N μ T) 4 by have := hs.2.2.2.2.2.2.1; omega), hmb⟩) (hP.sub [0, 1, 2, 3, 4, 5] rfl) (hD.sub [0, 1, 2, 3, 4, 5] rfl rfl) hK hS dX6_knocks_24
set_option maxHeartbeats 4000000 in
set_option maxRecDepth 100000 in
theorem c_X6_endsIn (l : Launch) (dC : Nat → ClassId) (dI : Nat → Nat → Nat) (cI cZ cJ : ClassId) (sz : Nat) (h0 qF qR qL qM qP qS : Nat) (N μ : Nat → Nat) (T : Nat) (fi ri fl pr mb sc : Nat → Int32) (th : Int32) (pd : Int32) (hN : Nok N) (hM : MoE N fi ri fl) (hTold : Told N μ T) (hT9 : T ≤ N 8) (hmb : ∀ k, k < T → mb k = nI (μ k)) (hμ : ∀ k, k < T → μ k ≤ 1) : Met l yX6_endsIn wsX6_endsIn ({ frames := 6, cells := 0, slots := 0, locals := 126 }) (va_Pc [.ref h0, .int pd] (xB (dC, dI) (xT cI cZ cJ) [(h0, .inr (6, [.ref qF, .ref qR, .ref qL, .int (nI (N 6)), .int (nI (N 7)), .int (nI (N 8)), .int (nI (N 9)), .int (nI (N 10)), .int (nI (N 11)), .int (nI (N 12)), .int (nI (N 13)), .int (nI (N 14)), .ref qM, .int (nI T), .ref qP, .int (sc 15), .int (sc 16), .int (sc 17), .int (sc 18), .int (sc 19), .ref qS, .int th])), (qM, .inl (cZ, 8, .inl mb)), (qP, .inl (cI, 2, .inl pr)), (qF, .inl (cI, 2, .inl fi)), (qR, .inl (cI, 2, .inl ri)), (qL, .inl (cI, 2, .inl fl))] sz)) (va_Ql (fun (r : Int64) (u : ((Nat → Int32) × (Nat → Int32) × (Nat → Int32)) × Int32) => (((kIn pd 1 (nI (N 8))) = 0 ∧ u.2 = 1) ∨ ∃ d, 1 ≤ d ∧ d ≤ N 8 ∧ pd = nI d ∧ u.2 = 0 ∧ r = lN (if (sRun N μ T) 5 = 0 then sPhi N (cEnd d) (N 8 - T) (sRun N μ T) else 0)) ∧ ∀ k, k < T → u.1.1 k = nI (μ k)) (fun (u : ((Nat → Int32) × (Nat → Int32) × (Nat → Int32)) × Int32) t9 => xA (dC, dI) (xT cI cZ cJ) [(h0, .inr (6, [.ref qF, .ref qR, .ref qL, .int (nI (N 6)), .int (nI (N 7)), .int (nI (N 8)), .int (nI (N 9)), .int (nI (N 10)), .int (nI (N 11)), .int (nI (N 12)), .int (nI (N 13)), .int (nI (N 14)), .ref qM, .int (nI T), .ref qP, .int (u.1.2.2 15), .int (u.1.2.2 16), .int (u.1.2.2 17), .int (u.1.2.2 18), .int (u.1.2.2 19), .ref qS, .int u.2])), (qM, .inl (cZ, 8, .inl u.1.1)), (qP, .inl (cI, 2, .inl u.1.2.1)), (qF, .inl (cI, 2, .inl fi)), (qR, .inl (cI, 2, .inl ri)), (qL, .inl (cI, 2, .inl fl))] (va_A [(h0, .inr (6, [.ref qF, .ref qR, .ref qL, .int (nI (N 6)), .int (nI (N 7)), .int (nI (N 8)), .int (nI (N 9)), .int (nI (N 10)), .int (nI (N 11)), .int (nI (N 12)), .int (nI (N 13)), .int (nI (N 14)), .ref qM, .int (nI T), .ref qP, .int (sc 15), .int (sc 16), .int (sc 17), .int (sc 18), .int (sc 19), .ref qS, .int th])), (qM, .inl (cZ, 8, .inl mb)), (qP, .inl (cI, 2, .inl pr)), (qF, .inl (cI, 2, .inl fi)), (qR, .inl (cI, 2, .inl ri)), (qL, .inl (cI, 2, .inl fl))] sz) t9) (va_A [(h0, .inr (6, [.ref qF, .ref qR, .ref qL, .int (nI (N 6)), .int (nI (N 7)), .int (nI (N 8)), .int (nI (N 9)), .int (nI (N 10)), .int (nI (N 11)), .int (nI (N 12)), .int (nI (N 13)), .int (nI (N 14)), .ref qM, .int (nI T), .ref qP, .int (sc 15), .int (sc 16), .int (sc 17), .int (sc 18), .int (sc 19), .ref qS, .int th])), (qM, .inl (cZ, 8, .inl mb)), (qP, .inl (cI, 2, .inl pr)), (qF, .inl (cI, 2, .inl fi)), (qR, .inl (cI, 2, .inl ri)), (qL, .inl (cI, 2, .inl fl))] sz)) 0 0 (va_A [(h0, .inr (6, [.ref qF, .ref qR, .ref qL, .int (nI (N 6)), .int (nI (N 7)), .int (nI (N 8)), .int (nI (N 9)), .int (nI (N 10)), .int (nI (N 11)), .int (nI (N 12)), .int (nI (N 13)), .int (nI (N 14)), .ref qM, .int (nI T), .ref qP, .int (sc 15), .int (sc 16), .int (sc 17), .int (sc 18), .int (sc 19), .ref qS, .int th])), (qM, .inl (cZ, 8, .inl mb)), (qP, .inl (cI, 2, .inl pr)), (qF, .inl (cI, 2, .inl fi)), (qR, .inl (cI, 2, .inl ri)), (qL, .inl (cI, 2, .inl fl))] sz) := by
  refine xMet (QF := fun A => va_Ql (fun (r : Int64) (u : ((Nat → Int32) × (Nat → Int32) × (Nat → Int32)) × Int32) => (((kIn pd 1 (nI (N 8))) = 0 ∧ u.2 = 1) ∨ ∃ d, 1 ≤ d ∧ d ≤ N 8 ∧ pd = nI d ∧ u.2 = 0 ∧ r = lN (if (sRun N μ T) 5 = 0 then sPhi N (cEnd d) (N 8 - T) (sRun N μ T) else 0)) ∧ ∀ k, k < T → u.1.1 k = nI (μ k)) (fun (u : ((Nat → Int32) × (Nat → Int32) × (Nat → Int32)) × Int32) t9 => xA (dC, dI) (xT cI cZ cJ) [(h0, .inr (6, [.ref qF, .ref qR, .ref qL, .int (nI (N 6)), .int (nI (N 7)), .int (nI (N 8)), .int (nI (N 9)), .int (nI (N 10)), .int (nI (N 11)), .int (nI (N 12)), .int (nI (N 13)), .int (nI (N 14)), .ref qM, .int (nI T), .ref qP, .int (u.1.2.2 15), .int (u.1.2.2 16), .int (u.1.2.2 17), .int (u.1.2.2 18), .int (u.1.2.2 19), .ref qS, .int u.2])), (qM, .inl (cZ, 8, .inl u.1.1)), (qP, .inl (cI, 2, .inl u.1.2.1)), (qF, .inl (cI, 2, .inl fi)), (qR, .inl (cI, 2, .inl ri)), (qL, .inl (cI, 2, .inl fl))] A t9) A) (maxL := 7) (ret := (some .long)) (cc := cX6_endsIn) (by decide) rfl (Nat.le_of_ble_eq_true rfl) ?_
  intro p e s m below meth c ls A hf hr hlk hnm hK hP hD hA hS hl
  obtain ⟨hx, hb, hml, hown, hts⟩ := id hf
  have iX6 : ∀ w ∈ wsX60, w ∈ wsX6_endsIn := by decide +kernel
  have hl : lv_has ls 7 [(0, .ref h0), (1, .int pd)] := hl
  have hP : va_P (dC, dI) vwCl [(h0, .inr (6, [.ref qF, .ref qR, .ref qL, .int (nI (N 6)), .int (nI (N 7)), .int (nI (N 8)), .int (nI (N 9)), .int (nI (N 10)), .int (nI (N 11)), .int (nI (N 12)), .int (nI (N 13)), .int (nI (N 14)), .ref qM, .int (nI T), .ref qP, .int (sc 15), .int (sc 16), .int (sc 17), .int (sc 18), .int (sc 19), .ref qS, .int th])), (qM, .inl (cZ, 8, .inl mb)), (qP, .inl (cI, 2, .inl pr)), (qF, .inl (cI, 2, .inl fi)), (qR, .inl (cI, 2, .inl ri)), (qL, .inl (cI, 2, .inl fl))] s.heap := hP
  have h8 : N 8 ≤ 8 := hN.2.2.2.2.2.1
  have hs := sRun_ok (μ := μ) hN T (by omega)
  have s5 : (sRun N μ T) 5 ≤ 1 := hs.2.2.2.2.2.2.2.1
  have hrs : sRws N (sRun N μ T) T = if (sRun N μ T) 5 = 0 then 2 ^ (N 8 - T) else 1 := rfl
  have hpw : 2 ^ (N 8 - T) ≤ 256 := two_pow_le (by omega)
  have hrb : sRws N (sRun N μ T) T ≤ 256 := by rw [hrs]; split <;> omega
  refine lv_aload_n hx hb dX6_endsIn_0 rfl (lv_at hl 0 rfl) ?_
  refine lv_iload_n hx hb dX6_endsIn_1 rfl (lv_at hl 1 rfl) ?_
  refine lv_iconst (v := 1) hx hb dX6_endsIn_2 (by decide) ?_
  refine lv_aload_n hx hb dX6_endsIn_3 rfl (lv_at hl 0 rfl) ?_
  refine va_get (D := (dC, dI)) (ci := 6) (v := .int (nI (N 8))) (C := RX6) (T := TX6) (N := 22) hx hb hts iX6 hown hK hP 0 rfl rfl 5 (by decide) (hts (.fieldLink RX6 23 "BarrierbookModel" "periods" "I") (by decide +kernel)) (fun _ h9 => h9) rfl dX6_endsIn_4 ?_
  refine xci (wr := [(h0, .inr (6, [.ref qF, .ref qR, .ref qL, .int (nI (N 6)), .int (nI (N 7)), .int (nI (N 8)), .int (nI (N 9)), .int (nI (N 10)), .int (nI (N 11)), .int (nI (N 12)), .int (nI (N 13)), .int (nI (N 14)), .ref qM, .int (nI T), .ref qP, .int (sc 15), .int (sc 16), .int (sc 17), .int (sc 18), .int (sc 19), .ref qS, .int th])), (qM, .inl (cZ, 8, .inl mb)), (qP, .inl (cI, 2, .inl pr)), (qF, .inl (cI, 2, .inl fi)), (qR, .inl (cI, 2, .inl ri)), (qL, .inl (cI, 2, .inl fl))]) (va_runS (As := [.int pd, .int 1, .int (nI (N 8))]) (rest := [.ref h0]) hf (c_X6_isIn l dC dI cI cZ cJ s.heap.size pd 1 (nI (N 8))) (va_cwS 3 hts gX6_endsIn_X6_isIn rfl rfl rfl (by decide +kernel) ⟨Nat.le_of_ble_eq_true rfl, Nat.le_of_ble_eq_true rfl⟩) (xPS hK hP hD [] rfl rfl) rfl rfl hl.1 rfl (lv_room (Nat.le_of_ble_eq_true rfl)) dX6_endsIn_7 ⟨Nat.le_of_ble_eq_true rfl, Nat.le_of_ble_eq_true rfl⟩) hP hD hS hA [] [0, 1, 2, 3, 4, 5] rfl rfl rfl (by decide) (fun r_7 u_7 H locs w_7 hP hD hS => ?_)
  have hP : va_P (dC, dI) vwCl [(h0, .inr (6, [.ref qF, .ref qR, .ref qL, .int (nI (N 6)), .int (nI (N 7)), .int (nI (N 8)), .int (nI (N 9)), .int (nI (N 10)), .int (nI (N 11)), .int (nI (N 12)), .int (nI (N 13)), .int (nI (N 14)), .ref qM, .int (nI T), .ref qP, .int (sc 15), .int (sc 16), .int (sc 17), .int (sc 18), .int (sc 19), .ref qS, .int th])), (qM, .inl (cZ, 8, .inl mb)), (qP, .inl (cI, 2, .inl pr)), (qF, .inl (cI, 2, .inl fi)), (qR, .inl (cI, 2, .inl ri)), (qL, .inl (cI, 2, .inl fl))] H := hP
  have hD : va_D A [(h0, .inr (6, [.ref qF, .ref qR, .ref qL, .int (nI (N 6)), .int (nI (N 7)), .int (nI (N 8)), .int (nI (N 9)), .int (nI (N 10)), .int (nI (N 11)), .int (nI (N 12)), .int (nI (N 13)), .int (nI (N 14)), .ref qM, .int (nI T), .ref qP, .int (sc 15), .int (sc 16), .int (sc 17), .int (sc 18), .int (sc 19), .ref qS, .int th])), (qM, .inl (cZ, 8, .inl mb)), (qP, .inl (cI, 2, .inl pr)), (qF, .inl (cI, 2, .inl fi)), (qR, .inl (cI, 2, .inl ri)), (qL, .inl (cI, 2, .inl fl))] := hD
  refine xti (y := (kIn pd 1 (nI (N 8)))) (w_7) ?_
  refine lv_if_eq (tgt := 17) hx hb dX6_endsIn_10 (by decide) (fun c_10 => ?_) (fun c_10 => ?_)
  · refine lv_iconst (v := 1) hx hb dX6_endsIn_17 (by decide) ?_
    refine xci (wr := [(qM, .inl (cZ, 8, .inl mb)), (qP, .inl (cI, 2, .inl pr)), (qF, .inl (cI, 2, .inl fi)), (qR, .inl (cI, 2, .inl ri)), (qL, .inl (cI, 2, .inl fl))]) (va_runV (As := [.int 1]) (rest := []) hf (c_X6_goes l dC dI cI cZ cJ H.size h0 qF qR qL qM qP qS N sc (nI T) th 1) (cwV 1 hts gX6_endsIn_X6_goes rfl rfl rfl (by decide +kernel) ⟨Nat.le_of_ble_eq_true rfl, Nat.le_of_ble_eq_true rfl⟩) (xPV (qc := (RX6, TX6, 22)) hK hP hD [0] rfl rfl 0 rfl rfl) rfl rfl hl.1 rfl (lv_room (Nat.le_of_ble_eq_true rfl)) dX6_endsIn_18 ⟨Nat.le_of_ble_eq_true rfl, Nat.le_of_ble_eq_true rfl⟩) hP hD hS hA [0] [1, 2, 3, 4, 5] rfl rfl rfl (by decide) (fun r_18 u_18 H locs w_18 hP hD hS => ?_)
    have hP : va_P (dC, dI) vwCl [(qM, .inl (cZ, 8, .inl mb)), (qP, .inl (cI, 2, .inl pr)), (qF, .inl (cI, 2, .inl fi)), (qR, .inl (cI, 2, .inl ri)), (qL, .inl (cI, 2, .inl fl)), (h0, .inr (6, [.ref qF, .ref qR, .ref qL, .int (nI (N 6)), .int (nI (N 7)), .int (nI (N 8)), .int (nI (N 9)), .int (nI (N 10)), .int (nI (N 11)), .int (nI (N 12)), .int (nI (N 13)), .int (nI (N 14)), .ref qM, .int (nI T), .ref qP, .int (sc 15), .int (sc 16), .int (sc 17), .int (sc 18), .int (sc 19), .ref qS, .int 1]))] H := hP
    have hD : va_D A [(qM, .inl (cZ, 8, .inl mb)), (qP, .inl (cI, 2, .inl pr)), (qF, .inl (cI, 2, .inl fi)), (qR, .inl (cI, 2, .inl ri)), (qL, .inl (cI, 2, .inl fl)), (h0, .inr (6, [.ref qF, .ref qR, .ref qL, .int (nI (N 6)), .int (nI (N 7)), .int (nI (N 8)), .int (nI (N 9)), .int (nI (N 10)), .int (nI (N 11)), .int (nI (N 12)), .int (nI (N 13)), .int (nI (N 14)), .ref qM, .int (nI T), .ref qP, .int (sc 15), .int (sc 16), .int (sc 17), .int (sc 18), .int (sc 19), .ref qS, .int 1]))] := hD
    refine lv_if_ne (tgt := 26) hx hb dX6_endsIn_21 (by decide) (fun c_21 => ?_) (fun c_21 => ?_)
    · exact absurd (w_18.trans (if_neg (by decide))) c_21
    refine lv_lconst (v := 0) hx hb dX6_endsIn_24 (by decide) ?_
    exact xrl hf hr hlk (((mb, pr, sc), 1)) (⟨Or.inl ⟨c_10, rfl⟩, hmb⟩) (hP.sub [5, 0, 1, 2, 3, 4] rfl) (hD.sub [5, 0, 1, 2, 3, 4] rfl rfl) hK hS dX6_endsIn_25
  refine lv_iconst (v := 0) hx hb dX6_endsIn_13 (by decide) ?_
  refine lv_goto (tgt := 18) hx hb dX6_endsIn_14 (by decide) ?_
  refine xci (wr := [(qM, .inl (cZ, 8, .inl mb)), (qP, .inl (cI, 2, .inl pr)), (qF, .inl (cI, 2, .inl fi)), (qR, .inl (cI, 2, .inl ri)), (qL, .inl (cI, 2, .inl fl))]) (va_runV (As := [.int 0]) (rest := []) hf (c_X6_goes l dC dI cI cZ cJ H.size h0 qF qR qL qM qP qS N sc (nI T) th 0) (cwV 1 hts gX6_endsIn_X6_goes rfl rfl rfl (by decide +kernel) ⟨Nat.le_of_ble_eq_true rfl, Nat.le_of_ble_eq_true rfl⟩) (xPV (qc := (RX6, TX6, 22)) hK hP hD [0] rfl rfl 0 rfl rfl) rfl rfl hl.1 rfl (lv_room (Nat.le_of_ble_eq_true rfl)) dX6_endsIn_18 ⟨Nat.le_of_ble_eq_true rfl, Nat.le_of_ble_eq_true rfl⟩) hP hD hS hA [0] [1, 2, 3, 4, 5] rfl rfl rfl (by decide) (fun r_18 u_18 H locs w_18 hP hD hS => ?_)
  have hP : va_P (dC, dI) vwCl [(qM, .inl (cZ, 8, .inl mb)), (qP, .inl (cI, 2, .inl pr)), (qF, .inl (cI, 2, .inl fi)), (qR, .inl (cI, 2, .inl ri)), (qL, .inl (cI, 2, .inl fl)), (h0, .inr (6, [.ref qF, .ref qR, .ref qL, .int (nI (N 6)), .int (nI (N 7)), .int (nI (N 8)), .int (nI (N 9)), .int (nI (N 10)), .int (nI (N 11)), .int (nI (N 12)), .int (nI (N 13)), .int (nI (N 14)), .ref qM, .int (nI T), .ref qP, .int (sc 15), .int (sc 16), .int (sc 17), .int (sc 18), .int (sc 19), .ref qS, .int 0]))] H := hP
  have hD : va_D A [(qM, .inl (cZ, 8, .inl mb)), (qP, .inl (cI, 2, .inl pr)), (qF, .inl (cI, 2, .inl fi)), (qR, .inl (cI, 2, .inl ri)), (qL, .inl (cI, 2, .inl fl)), (h0, .inr (6, [.ref qF, .ref qR, .ref qL, .int (nI (N 6)), .int (nI (N 7)), .int (nI (N 8)), .int (nI (N 9)), .int (nI (N 10)), .int (nI (N 11)), .int (nI (N 12)), .int (nI (N 13)), .int (nI (N 14)), .ref qM, .int (nI T), .ref qP, .int (sc 15), .int (sc 16), .int (sc 17), .int (sc 18), .int (sc 19), .ref qS, .int 0]))] := hD
  refine lv_if_ne (tgt := 26) hx hb dX6_endsIn_21 (by decide) (fun c_21 => ?_) (fun c_21 => ?_)
  · have hk1 : ¬ kIn pd 1 (nI (N 8)) = 0 := c_10
    obtain ⟨d, hd1, hd2, rfl⟩ := kIn_of (lo := 1) (hi := N 8) (by decide) (by omega) hk1
    refine lv_lconst (v := 0) hx hb dX6_endsIn_26 (by decide) ?_
    refine xtl (y := (lN (sSum (fun z => sRW N (N 8 - T) z * sG N (cEnd d) (N 8 - T) (sRun N μ T) z) 0))) (rfl) ?_
    refine lv_lstore_n (lv' := [(2, .long (lN (sSum (fun z => sRW N (N 8 - T) z * sG N (cEnd d) (N 8 - T) (sRun N μ T) z) 0))), (0, .ref h0), (1, .int (nI d))]) hx hb dX6_endsIn_27 rfl hl (by decide) rfl (fun ls hl => ?_)
    refine lv_iconst (v := 0) hx hb dX6_endsIn_28 (by decide) ?_
    refine xti (y := (nI 0)) (rfl) ?_
    refine lv_istore (lv' := [(4, .int (nI 0)), (2, .long (lN (sSum (fun z => sRW N (N 8 - T) z * sG N (cEnd d) (N 8 - T) (sRun N μ T) z) 0))), (0, .ref h0), (1, .int (nI d))]) hx hb dX6_endsIn_29 hl (by decide) rfl (fun ls hl => ?_)
    have hPi : 0 ≤ sRws N (sRun N μ T) T ∧ (∀ k, k < T → mb k = nI (μ k)) ∧ (d ≤ T → 0 = 0) ∧ (¬ (sRun N μ T) 5 = 0 → 0 = 0) := ⟨Nat.zero_le _, hmb, fun _ => rfl, fun _ => rfl⟩
    refine xloop (X := Nat × (Nat → Int32) × (Nat → Int32) × (Nat → Int32)) (D := (dC, dI)) (A := A) (H0 := s.heap) (nL := 7) (P := fun zz => zz.1 ≤ sRws N (sRun N μ T) T ∧ (∀ k, k < T → zz.2.1 k = nI (μ k)) ∧ (d ≤ T → zz.1 = 0) ∧ (¬ (sRun N μ T) 5 = 0 → zz.1 = 0)) (w1 := fun zz => [(h0, .inr (6, [.ref qF, .ref qR, .ref qL, .int (nI (N 6)), .int (nI (N 7)), .int (nI (N 8)), .int (nI (N 9)), .int (nI (N 10)), .int (nI (N 11)), .int (nI (N 12)), .int (nI (N 13)), .int (nI (N 14)), .ref qM, .int (nI T), .ref qP, .int (zz.2.2.2 15), .int (zz.2.2.2 16), .int (zz.2.2.2 17), .int (zz.2.2.2 18), .int (zz.2.2.2 19), .ref qS, .int 0])), (qM, .inl (cZ, 8, .inl zz.2.1)), (qP, .inl (cI, 2, .inl zz.2.2.1)), (qF, .inl (cI, 2, .inl fi)), (qR, .inl (cI, 2, .inl ri)), (qL, .inl (cI, 2, .inl fl))]) (lv1 := fun zz => [(0, .ref h0), (1, .int (nI d)), (2, .long (lN (sSum (fun z => sRW N (N 8 - T) z * sG N (cEnd d) (N 8 - T) (sRun N μ T) z) zz.1))), (4, .int (nI zz.1))]) (st1 := fun zz => []) (J := 31) (μ := fun zz => sRws N (sRun N μ T) T - zz.1) ?_ (0, mb, pr, sc) H locs ls (hPi) (hP.sub [5, 0, 1, 2, 3, 4] rfl) (hD.sub [5, 0, 1, 2, 3, 4] rfl rfl) hS (lv_sub hl [2, 3, 1, 0] rfl)
    intro zz H locs ls hcut hP hD hS hl ih_31
    obtain ⟨ro, mk, pk, sq⟩ := zz
    have hcut : ro ≤ sRws N (sRun N μ T) T ∧ (∀ k, k < T → mk k = nI (μ k)) ∧ (d ≤ T → ro = 0) ∧ (¬ (sRun N μ T) 5 = 0 → ro = 0) := hcut
    obtain ⟨hk, hmk, hlow, hov⟩ := hcut
    have hl : lv_has ls 7 [(0, .ref h0), (1, .int (nI d)), (2, .long (lN (sSum (fun z => sRW N (N 8 - T) z * sG N (cEnd d) (N 8 - T) (sRun N μ T) z) ro))), (4, .int (nI ro))] := hl
    have hP : va_P (dC, dI) vwCl [(h0, .inr (6, [.ref qF, .ref qR, .ref qL, .int (nI (N 6)), .int (nI (N 7)), .int (nI (N 8)), .int (nI (N 9)), .int (nI (N 10)), .int (nI (N 11)), .int (nI (N 12)), .int (nI (N 13)), .int (nI (N 14)), .ref qM, .int (nI T), .ref qP, .int (sq 15), .int (sq 16), .int (sq 17), .int (sq 18), .int (sq 19), .ref qS, .int 0])), (qM, .inl (cZ, 8, .inl mk)), (qP, .inl (cI, 2, .inl pk)), (qF, .inl (cI, 2, .inl fi)), (qR, .inl (cI, 2, .inl ri)), (qL, .inl (cI, 2, .inl fl))] H := hP
    have hD : va_D A [(h0, .inr (6, [.ref qF, .ref qR, .ref qL, .int (nI (N 6)), .int (nI (N 7)), .int (nI (N 8)), .int (nI (N 9)), .int (nI (N 10)), .int (nI (N 11)), .int (nI (N 12)), .int (nI (N 13)), .int (nI (N 14)), .ref qM, .int (nI T), .ref qP, .int (sq 15), .int (sq 16), .int (sq 17), .int (sq 18), .int (sq 19), .ref qS, .int 0])), (qM, .inl (cZ, 8, .inl mk)), (qP, .inl (cI, 2, .inl pk)), (qF, .inl (cI, 2, .inl fi)), (qR, .inl (cI, 2, .inl ri)), (qL, .inl (cI, 2, .inl fl))] := hD
    refine lv_iload hx hb dX6_endsIn_31 (lv_at hl 3 rfl) ?_
    refine lv_aload_n hx hb dX6_endsIn_33 rfl (lv_at hl 0 rfl) ?_
    refine xci (wr := []) (va_runV (As := []) (rest := [.int (nI ro)]) hf (c_X6_rows l dC dI cI cZ cJ H.size h0 qF qR qL qM qP qS N μ T fi ri fl pk mk sq 0 (hN) (hM) (hTold) (hT9) (hmk) (hμ)) (cwV 0 hts gX6_endsIn_X6_rows rfl rfl rfl (by decide +kernel) ⟨Nat.le_of_ble_eq_true rfl, Nat.le_of_ble_eq_true rfl⟩) (xPV (qc := (RX6, TX6, 22)) hK hP hD [0, 1, 2, 3, 4, 5] rfl rfl 0 rfl rfl) rfl rfl hl.1 rfl (lv_room (Nat.le_of_ble_eq_true rfl)) dX6_endsIn_34 ⟨Nat.le_of_ble_eq_true rfl, Nat.le_of_ble_eq_true rfl⟩) hP hD hS hA [0, 1, 2, 3, 4, 5] [] rfl rfl rfl (by decide) (fun r_34 u_34 H locs w_34 hP hD hS => ?_)
    have hP : va_P (dC, dI) vwCl [(h0, .inr (6, [.ref qF, .ref qR, .ref qL, .int (nI (N 6)), .int (nI (N 7)), .int (nI (N 8)), .int (nI (N 9)), .int (nI (N 10)), .int (nI (N 11)), .int (nI (N 12)), .int (nI (N 13)), .int (nI (N 14)), .ref qM, .int (nI T), .ref qP, .int (nI ((sRun N μ T) 3)), .int (nI ((sRun N μ T) 4)), .int (nI ((sRun N μ T) 5)), .int (nI ((sRun N μ T) 0)), .int (nI ((sRun N μ T) 7)), .ref qS, .int 0])), (qM, .inl (cZ, 8, .inl mk)), (qP, .inl (cI, 2, .inl u_34)), (qF, .inl (cI, 2, .inl fi)), (qR, .inl (cI, 2, .inl ri)), (qL, .inl (cI, 2, .inl fl))] H := hP
    have hD : va_D A [(h0, .inr (6, [.ref qF, .ref qR, .ref qL, .int (nI (N 6)), .int (nI (N 7)), .int (nI (N 8)), .int (nI (N 9)), .int (nI (N 10)), .int (nI (N 11)), .int (nI (N 12)), .int (nI (N 13)), .int (nI (N 14)), .ref qM, .int (nI T), .ref qP, .int (nI ((sRun N μ T) 3)), .int (nI ((sRun N μ T) 4)), .int (nI ((sRun N μ T) 5)), .int (nI ((sRun N μ T) 0)), .int (nI ((sRun N μ T) 7)), .ref qS, .int 0])), (qM, .inl (cZ, 8, .inl mk)), (qP, .inl (cI, 2, .inl u_34)), (qF, .inl (cI, 2, .inl fi)), (qR, .inl (cI, 2, .inl ri)), (qL, .inl (cI, 2, .inl fl))] := hD
    refine xti (y := (nI (sRws N (sRun N μ T) T))) (w_34.1) ?_
    refine lv_icmp_ge (tgt := 86) hx hb dX6_endsIn_37 (by decide) (fun c_37 => ?_) (fun c_37 => ?_)
    · have n_37 : (sRws N (sRun N μ T) T) ≤ ro := (nI_leI (a := (sRws N (sRun N μ T) T)) (b := ro) (by omega) (by omega)).mp c_37
      refine lv_lload_n hx hb dX6_endsIn_86 rfl (lv_at hl 2 rfl) ?_
      have hz5 : (sRun N μ T) 5 = 0 := Classical.byContradiction fun q => by rw [if_neg q] at hrs; have := hov q; omega
      exact xrl hf hr hlk (((mk, u_34, (x15f (nI ((sRun N μ T) 3)) (nI ((sRun N μ T) 4)) (nI ((sRun N μ T) 5)) (nI ((sRun N μ T) 0)) (nI ((sRun N μ T) 7)))), 0)) (⟨Or.inr ⟨d, hd1, hd2, rfl, rfl, by rw [if_pos hz5, show ro = 2 ^ (N 8 - T) by rw [if_pos hz5] at hrs; omega, sG_sum hN (cEnd d) _ _ hz5]⟩, hmk⟩) (hP.sub [0, 1, 2, 3, 4, 5] rfl) (hD.sub [0, 1, 2, 3, 4, 5] rfl rfl) hK hS dX6_endsIn_87
    have n_37 : ¬ (sRws N (sRun N μ T) T) ≤ ro := fun h => c_37 ((nI_leI (a := (sRws N (sRun N μ T) T)) (b := ro) (by omega) (by omega)).mpr h)
    refine lv_iload_n hx hb dX6_endsIn_40 rfl (lv_at hl 1 rfl) ?_
    refine lv_aload_n hx hb dX6_endsIn_41 rfl (lv_at hl 0 rfl) ?_
    refine va_get (D := (dC, dI)) (ci := 6) (v := .int (nI T)) (C := RX6) (T := TX6) (N := 22) hx hb hts iX6 hown hK hP 0 rfl rfl 13 (by decide) (hts (.fieldLink RX6 60 "BarrierbookModel" "told" "I") (by decide +kernel)) (fun _ h9 => h9) rfl dX6_endsIn_42 ?_
    refine lv_icmp_le (tgt := 86) hx hb dX6_endsIn_45 (by decide) (fun c_45 => ?_) (fun c_45 => ?_)
    · have n_45 : d ≤ T := (nI_leI (a := d) (b := T) (by omega) (by omega)).mp c_45
      refine lv_lload_n hx hb dX6_endsIn_86 rfl (lv_at hl 2 rfl) ?_
      exact xrl hf hr hlk (((mk, u_34, (x15f (nI ((sRun N μ T) 3)) (nI ((sRun N μ T) 4)) (nI ((sRun N μ T) 5)) (nI ((sRun N μ T) 0)) (nI ((sRun N μ T) 7)))), 0)) (⟨Or.inr ⟨d, hd1, hd2, rfl, rfl, by rw [hlow n_45]; split; rw [sEnd_low (d := d) hN (by rw [sRun_t T hTold]; omega) (by have := sTold_lt hN hTold (by assumption) hT9; omega) (by assumption) (by rw [sRun_t T hTold]; exact n_45)]; rfl; rfl⟩, hmk⟩) (hP.sub [0, 1, 2, 3, 4, 5] rfl) (hD.sub [0, 1, 2, 3, 4, 5] rfl rfl) hK hS dX6_endsIn_87
    have n_45 : ¬ d ≤ T := fun h => c_45 ((nI_leI (a := d) (b := T) (by omega) (by omega)).mpr h)
    refine lv_aload_n hx hb dX6_endsIn_48 rfl (lv_at hl 0 rfl) ?_
    refine xci (wr := []) (va_runV (As := []) (rest := []) hf (c_X6_isOverNow l dC dI cI cZ cJ H.size h0 qF qR qL qM qP qS N μ T fi ri fl u_34 mk (x15f (nI ((sRun N μ T) 3)) (nI ((sRun N μ T) 4)) (nI ((sRun N μ T) 5)) (nI ((sRun N μ T) 0)) (nI ((sRun N μ T) 7))) 0 (hN) (hM) (hTold) (hT9) (hmk) (hμ)) (cwV 0 hts gX6_endsIn_X6_isOverNow rfl rfl rfl (by decide +kernel) ⟨Nat.le_of_ble_eq_true rfl, Nat.le_of_ble_eq_true rfl⟩) (xPV (qc := (RX6, TX6, 22)) hK hP hD [0, 1, 2, 3, 4, 5] rfl rfl 0 rfl rfl) rfl rfl hl.1 rfl (lv_room (Nat.le_of_ble_eq_true rfl)) dX6_endsIn_49 ⟨Nat.le_of_ble_eq_true rfl, Nat.le_of_ble_eq_true rfl⟩) hP hD hS hA [0, 1, 2, 3, 4, 5] [] rfl rfl rfl (by decide) (fun r_49 u_49 H locs w_49 hP hD hS => ?_)
    have hP : va_P (dC, dI) vwCl [(h0, .inr (6, [.ref qF, .ref qR, .ref qL, .int (nI (N 6)), .int (nI (N 7)), .int (nI (N 8)), .int (nI (N 9)), .int (nI (N 10)), .int (nI (N 11)), .int (nI (N 12)), .int (nI (N 13)), .int (nI (N 14)), .ref qM, .int (nI T), .ref qP, .int (nI ((sRun N μ T) 3)), .int (nI ((sRun N μ T) 4)), .int (nI ((sRun N μ T) 5)), .int (nI ((sRun N μ T) 0)), .int (nI ((sRun N μ T) 7)), .ref qS, .int 0])), (qM, .inl (cZ, 8, .inl mk)), (qP, .inl (cI, 2, .inl u_49)), (qF, .inl (cI, 2, .inl fi)), (qR, .inl (cI, 2, .inl ri)), (qL, .inl (cI, 2, .inl fl))] H := hP
    have hD : va_D A [(h0, .inr (6, [.ref qF, .ref qR, .ref qL, .int (nI (N 6)), .int (nI (N 7)), .int (nI (N 8)), .int (nI (N 9)), .int (nI (N 10)), .int (nI (N 11)), .int (nI (N 12)), .int (nI (N 13)), .int (nI (N 14)), .ref qM, .int (nI T), .ref qP, .int (nI ((sRun N μ T) 3)), .int (nI ((sRun N μ T) 4)), .int (nI ((sRun N μ T) 5)), .int (nI ((sRun N μ T) 0)), .int (nI ((sRun N μ T) 7)), .ref qS, .int 0])), (qM, .inl (cZ, 8, .inl mk)), (qP, .inl (cI, 2, .inl u_49)), (qF, .inl (cI, 2, .inl fi)), (qR, .inl (cI, 2, .inl ri)), (qL, .inl (cI, 2, .inl fl))] := hD
    refine xti (y := (nI ((sRun N μ T) 5))) (w_49.1) ?_
    refine lv_if_ne (tgt := 86) hx hb dX6_endsIn_52 (by decide) (fun c_52 => ?_) (fun c_52 => ?_)
    · have n_52 : ¬ ((sRun N μ T) 5) = 0 := fun h => c_52 ((nz (n := ((sRun N μ T) 5)) (by omega)).mpr h)
      refine lv_lload_n hx hb dX6_endsIn_86 rfl (lv_at hl 2 rfl) ?_
      exact xrl hf hr hlk (((mk, u_49, (x15f (nI ((sRun N μ T) 3)) (nI ((sRun N μ T) 4)) (nI ((sRun N μ T) 5)) (nI ((sRun N μ T) 0)) (nI ((sRun N μ T) 7)))), 0)) (⟨Or.inr ⟨d, hd1, hd2, rfl, rfl, by rw [if_neg n_52, hov n_52]; rfl⟩, hmk⟩) (hP.sub [0, 1, 2, 3, 4, 5] rfl) (hD.sub [0, 1, 2, 3, 4, 5] rfl rfl) hK hS dX6_endsIn_87
    have n_52 : ((sRun N μ T) 5) = 0 := (nz (n := ((sRun N μ T) 5)) (by omega)).mp c_52
    refine lv_aload_n hx hb dX6_endsIn_55 rfl (lv_at hl 0 rfl) ?_
    refine lv_iload hx hb dX6_endsIn_56 (lv_at hl 3 rfl) ?_
    have hTl : T < N 8 := sTold_lt hN hTold n_52 hT9
    refine xcl (wr := []) (va_runV (As := [.int (nI ro)]) (rest := []) hf (c_X6_weight l dC dI cI cZ cJ H.size h0 qF qR qL qM qP qS N μ T fi ri fl u_49 mk (x15f (nI ((sRun N μ T) 3)) (nI ((sRun N μ T) 4)) (nI ((sRun N μ T) 5)) (nI ((sRun N μ T) 0)) (nI ((sRun N μ T) 7))) 0 ro (hN) (hM) (hTold) (hT9) (hmk) (hμ) (by omega)) (cwV 1 hts gX6_endsIn_X6_weight rfl rfl rfl (by decide +kernel) ⟨Nat.le_of_ble_eq_true rfl, Nat.le_of_ble_eq_true rfl⟩) (xPV (qc := (RX6, TX6, 22)) hK hP hD [0, 1, 2, 3, 4, 5] rfl rfl 0 rfl rfl) rfl rfl hl.1 rfl (lv_room (Nat.le_of_ble_eq_true rfl)) dX6_endsIn_58 ⟨Nat.le_of_ble_eq_true rfl, Nat.le_of_ble_eq_true rfl⟩) hP hD hS hA [0, 1, 2, 3, 4, 5] [] rfl rfl rfl (by decide) (fun r_58 u_58 H locs w_58 hP hD hS => ?_)
    have hP : va_P (dC, dI) vwCl [(h0, .inr (6, [.ref qF, .ref qR, .ref qL, .int (nI (N 6)), .int (nI (N 7)), .int (nI (N 8)), .int (nI (N 9)), .int (nI (N 10)), .int (nI (N 11)), .int (nI (N 12)), .int (nI (N 13)), .int (nI (N 14)), .ref qM, .int (nI T), .ref qP, .int (nI ((sRow N (N 8 - T) (sRun N μ T) ro) 3)), .int (nI ((sRow N (N 8 - T) (sRun N μ T) ro) 4)), .int (nI ((sRow N (N 8 - T) (sRun N μ T) ro) 5)), .int (nI ((sRow N (N 8 - T) (sRun N μ T) ro) 0)), .int (nI ((sRow N (N 8 - T) (sRun N μ T) ro) 7)), .ref qS, .int 0])), (qM, .inl (cZ, 8, .inl u_58.1)), (qP, .inl (cI, 2, .inl u_58.2)), (qF, .inl (cI, 2, .inl fi)), (qR, .inl (cI, 2, .inl ri)), (qL, .inl (cI, 2, .inl fl))] H := hP
    have hD : va_D A [(h0, .inr (6, [.ref qF, .ref qR, .ref qL, .int (nI (N 6)), .int (nI (N 7)), .int (nI (N 8)), .int (nI (N 9)), .int (nI (N 10)), .int (nI (N 11)), .int (nI (N 12)), .int (nI (N 13)), .int (nI (N 14)), .ref qM, .int (nI T), .ref qP, .int (nI ((sRow N (N 8 - T) (sRun N μ T) ro) 3)), .int (nI ((sRow N (N 8 - T) (sRun N μ T) ro) 4)), .int (nI ((sRow N (N 8 - T) (sRun N μ T) ro) 5)), .int (nI ((sRow N (N 8 - T) (sRun N μ T) ro) 0)), .int (nI ((sRow N (N 8 - T) (sRun N μ T) ro) 7)), .ref qS, .int 0])), (qM, .inl (cZ, 8, .inl u_58.1)), (qP, .inl (cI, 2, .inl u_58.2)), (qF, .inl (cI, 2, .inl fi)), (qR, .inl (cI, 2, .inl ri)), (qL, .inl (cI, 2, .inl fl))] := hD
    refine xtl (y := (lN (sRW N (N 8 - T) ro))) (w_58.1) ?_
    refine lv_lstore (lv' := [(5, .long (lN (sRW N (N 8 - T) ro))), (0, .ref h0), (1, .int (nI d)), (2, .long (lN (sSum (fun z => sRW N (N 8 - T) z * sG N (cEnd d) (N 8 - T) (sRun N μ T) z) ro))), (4, .int (nI ro))]) hx hb dX6_endsIn_61 hl (by decide) rfl (fun ls hl => ?_)
    refine xjoin (X := Unit) (D := (dC, dI)) (A := A) (H0 := s.heap) (nL := 7) (P := fun zz => True) (w1 := fun zz => [(h0, .inr (6, [.ref qF, .ref qR, .ref qL, .int (nI (N 6)), .int (nI (N 7)), .int (nI (N 8)), .int (nI (N 9)), .int (nI (N 10)), .int (nI (N 11)), .int (nI (N 12)), .int (nI (N 13)), .int (nI (N 14)), .ref qM, .int (nI T), .ref qP, .int (nI ((sRow N (N 8 - T) (sRun N μ T) ro) 3)), .int (nI ((sRow N (N 8 - T) (sRun N μ T) ro) 4)), .int (nI ((sRow N (N 8 - T) (sRun N μ T) ro) 5)), .int (nI ((sRow N (N 8 - T) (sRun N μ T) ro) 0)), .int (nI ((sRow N (N 8 - T) (sRun N μ T) ro) 7)), .ref qS, .int 0])), (qM, .inl (cZ, 8, .inl u_58.1)), (qP, .inl (cI, 2, .inl u_58.2)), (qF, .inl (cI, 2, .inl fi)), (qR, .inl (cI, 2, .inl ri)), (qL, .inl (cI, 2, .inl fl))]) (lv1 := fun zz => [(5, .long (lN (sRW N (N 8 - T) ro))), (0, .ref h0), (1, .int (nI d)), (2, .long (lN (sSum (fun z => sRW N (N 8 - T) z * sG N (cEnd d) (N 8 - T) (sRun N μ T) z) ro))), (4, .int (nI ro))]) (st1 := fun zz => [.long (lN (sRW N (N 8 - T) ro * sG N (cEnd d) (N 8 - T) (sRun N μ T) ro)), .long (lN (sSum (fun z => sRW N (N 8 - T) z * sG N (cEnd d) (N 8 - T) (sRun N μ T) z) ro))]) (J := 78) (fun zz H locs ls hcut hP hD hS hl => ?_) (fun j_78 => ?_)
    · have hl : lv_has ls 7 [(5, .long (lN (sRW N (N 8 - T) ro))), (0, .ref h0), (1, .int (nI d)), (2, .long (lN (sSum (fun z => sRW N (N 8 - T) z * sG N (cEnd d) (N 8 - T) (sRun N μ T) z) ro))), (4, .int (nI ro))] := hl
      have hP : va_P (dC, dI) vwCl [(h0, .inr (6, [.ref qF, .ref qR, .ref qL, .int (nI (N 6)), .int (nI (N 7)), .int (nI (N 8)), .int (nI (N 9)), .int (nI (N 10)), .int (nI (N 11)), .int (nI (N 12)), .int (nI (N 13)), .int (nI (N 14)), .ref qM, .int (nI T), .ref qP, .int (nI ((sRow N (N 8 - T) (sRun N μ T) ro) 3)), .int (nI ((sRow N (N 8 - T) (sRun N μ T) ro) 4)), .int (nI ((sRow N (N 8 - T) (sRun N μ T) ro) 5)), .int (nI ((sRow N (N 8 - T) (sRun N μ T) ro) 0)), .int (nI ((sRow N (N 8 - T) (sRun N μ T) ro) 7)), .ref qS, .int 0])), (qM, .inl (cZ, 8, .inl u_58.1)), (qP, .inl (cI, 2, .inl u_58.2)), (qF, .inl (cI, 2, .inl fi)), (qR, .inl (cI, 2, .inl ri)), (qL, .inl (cI, 2, .inl fl))] H := hP
      have hD : va_D A [(h0, .inr (6, [.ref qF, .ref qR, .ref qL, .int (nI (N 6)), .int (nI (N 7)), .int (nI (N 8)), .int (nI (N 9)), .int (nI (N 10)), .int (nI (N 11)), .int (nI (N 12)), .int (nI (N 13)), .int (nI (N 14)), .ref qM, .int (nI T), .ref qP, .int (nI ((sRow N (N 8 - T) (sRun N μ T) ro) 3)), .int (nI ((sRow N (N 8 - T) (sRun N μ T) ro) 4)), .int (nI ((sRow N (N 8 - T) (sRun N μ T) ro) 5)), .int (nI ((sRow N (N 8 - T) (sRun N μ T) ro) 0)), .int (nI ((sRow N (N 8 - T) (sRun N μ T) ro) 7)), .ref qS, .int 0])), (qM, .inl (cZ, 8, .inl u_58.1)), (qP, .inl (cI, 2, .inl u_58.2)), (qF, .inl (cI, 2, .inl fi)), (qR, .inl (cI, 2, .inl ri)), (qL, .inl (cI, 2, .inl fl))] := hD
      refine lv_ladd hx hb dX6_endsIn_78 ?_
      refine xtl (y := (lN (sSum (fun z => sRW N (N 8 - T) z * sG N (cEnd d) (N 8 - T) (sRun N μ T) z) (ro + 1)))) (lN_add _ _) ?_
      refine lv_lstore_n (lv' := [(2, .long (lN (sSum (fun z => sRW N (N 8 - T) z * sG N (cEnd d) (N 8 - T) (sRun N μ T) z) (ro + 1)))), (5, .long (lN (sRW N (N 8 - T) ro))), (0, .ref h0), (1, .int (nI d)), (4, .int (nI ro))]) hx hb dX6_endsIn_79 rfl hl (by decide) rfl (fun ls hl => ?_)
      refine lv_iinc (v := (nI (ro + 1))) (lv' := [(4, .int (nI (ro + 1))), (2, .long (lN (sSum (fun z => sRW N (N 8 - T) z * sG N (cEnd d) (N 8 - T) (sRun N μ T) z) (ro + 1)))), (5, .long (lN (sRW N (N 8 - T) ro))), (0, .ref h0), (1, .int (nI d))]) hx hb dX6_endsIn_80 hl (k := 4) rfl (nI_1 ro) (by decide) rfl (fun ls hl => ?_)
      refine lv_goto (tgt := 31) hx hb dX6_endsIn_83 (by decide) ?_
      have hPc : (ro + 1) ≤ sRws N (sRun N μ T) T ∧ (∀ k, k < T → u_58.1 k = nI (μ k)) ∧ (d ≤ T → (ro + 1) = 0) ∧ (¬ (sRun N μ T) 5 = 0 → (ro + 1) = 0) := ⟨by omega, w_58.2.1, fun h => absurd h n_45, fun h => absurd n_52 h⟩
      exact ih_31 ((ro + 1), u_58.1, u_58.2, (x15f (nI ((sRow N (N 8 - T) (sRun N μ T) ro) 3)) (nI ((sRow N (N 8 - T) (sRun N μ T) ro) 4)) (nI ((sRow N (N 8 - T) (sRun N μ T) ro) 5)) (nI ((sRow N (N 8 - T) (sRun N μ T) ro) 0)) (nI ((sRow N (N 8 - T) (sRun N μ T) ro) 7)))) H locs ls (hPc) (by show sRws N (sRun N μ T) T - (ro + 1) < sRws N (sRun N μ T) T - ro; omega) (hP.sub [0, 1, 2, 3, 4, 5] rfl) (hD.sub [0, 1, 2, 3, 4, 5] rfl rfl) hS (lv_sub hl [3, 4, 1, 0] rfl)
    refine lv_lload_n hx hb dX6_endsIn_63 rfl (lv_at hl 3 rfl) ?_
    refine lv_aload_n hx hb dX6_endsIn_64 rfl (lv_at hl 1 rfl) ?_
    refine va_get (D := (dC, dI)) (ci := 6) (v := .int (nI ((sRow N (N 8 - T) (sRun N μ T) ro) 0))) (C := RX6) (T := TX6) (N := 22) hx hb hts iX6 hown hK hP 0 rfl rfl 18 (by decide) (hts (.fieldLink RX6 80 "BarrierbookModel" "done" "I") (by decide +kernel)) (fun _ h9 => h9) rfl dX6_endsIn_65 ?_
    refine lv_iload_n hx hb dX6_endsIn_68 rfl (lv_at hl 2 rfl) ?_
    have hq0 := (sRow_ok (μ := μ) (T := T) (ro := ro) (n := N 8 - T) hN (by omega)).1
    refine lv_icmp_ne (tgt := 77) hx hb dX6_endsIn_69 (by decide) (fun c_69 => ?_) (fun c_69 => ?_)
    · have n_69 : ¬ ((sRow N (N 8 - T) (sRun N μ T) ro) 0) = d := fun h => c_69 ((nI_eq (a := ((sRow N (N 8 - T) (sRun N μ T) ro) 0)) (b := d) (by omega) (by omega)).mpr h)
      refine lv_lconst (v := 0) hx hb dX6_endsIn_77 (by decide) ?_
      refine xtl (y := (lN (sRW N (N 8 - T) ro * sG N (cEnd d) (N 8 - T) (sRun N μ T) ro))) (congrArg lN (by rw [(sG_end (N := N) d (N 8 - T) (sRun N μ T) ro (by rw [sRun_t T hTold]; omega) n_52 (by omega)), if_neg n_69, Nat.mul_zero])) ?_
      exact j_78 () H locs ls (trivial) (hP.sub [0, 1, 2, 3, 4, 5] rfl) (hD.sub [0, 1, 2, 3, 4, 5] rfl rfl) hS (lv_sub hl [0, 1, 2, 3, 4] rfl)
    have n_69 : ((sRow N (N 8 - T) (sRun N μ T) ro) 0) = d := (nI_eq (a := ((sRow N (N 8 - T) (sRun N μ T) ro) 0)) (b := d) (by omega) (by omega)).mp c_69
    refine lv_lload hx hb dX6_endsIn_72 (lv_at hl 0 rfl) ?_
    refine xtl (y := (lN (sRW N (N 8 - T) ro * sG N (cEnd d) (N 8 - T) (sRun N μ T) ro))) (congrArg lN (by rw [(sG_end (N := N) d (N 8 - T) (sRun N μ T) ro (by rw [sRun_t T hTold]; omega) n_52 (by omega)), if_pos n_69, Nat.mul_one])) ?_
    refine lv_goto (tgt := 78) hx hb dX6_endsIn_74 (by decide) ?_
    exact j_78 () H locs ls (trivial) (hP.sub [0, 1, 2, 3, 4, 5] rfl) (hD.sub [0, 1, 2, 3, 4, 5] rfl rfl) hS (lv_sub hl [0, 1, 2, 3, 4] rfl)
  · exact absurd (w_18.symm.trans c_21) (by decide)
