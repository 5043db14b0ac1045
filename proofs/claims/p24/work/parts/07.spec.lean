/-! The note in natural numbers. N: 0 first0, 1 rise0, 2 fall0, 3 first1, 4 rise1, 5 fall1, 6 against, 7 chance, 8 periods, 9 barrier, 10 coupon level, 11 call level, 12 coupon, 13 at the end alone, 14 remembers. A standing σ: 0 told, 1 and 2 the prices, 3 missed, 4 knocked, 5 over, 6 paid last, 7 paid in all. -/
abbrev x8n (a b c d e f g h : Nat) : Nat → Nat := fun k => match k with | 0 => a | 1 => b | 2 => c | 3 => d | 4 => e | 5 => f | 6 => g | _ => h
def sPri (r f p up : Nat) : Nat := if up = 0 then (if f + 1 < p then p - f else 1) else p + r
def sLev (f p : Nat) : Nat := p * 100 / f
def sMin (x y : Nat) : Nat := if y < x then y else x
def sXor (up ag : Nat) : Nat := if up = ag then 0 else 1
def sLast (N : Nat → Nat) (t : Nat) : Nat := if t < N 8 then 0 else 1
def sKn (N : Nat → Nat) (lev last kn : Nat) : Nat := if N 9 ≤ lev then kn else if ¬ last = 0 then 1 else if ¬ N 13 = 0 then kn else 1
def sCp (N : Nat → Nat) (lev ms : Nat) : Nat := if N 10 ≤ lev then (if N 14 = 0 then 1 else 1 + ms) * N 12 else 0
def sMs (N : Nat → Nat) (lev ms : Nat) : Nat := if N 10 ≤ lev then 0 else ms + 1
def sEp (lev last kn : Nat) : Nat := if last = 0 then 1000 else if kn = 0 then 1000 else if 100 ≤ lev then 1000 else 10 * lev
def sOv (N : Nat → Nat) (lev last ov : Nat) : Nat := if ¬ last = 0 then 1 else if lev < N 11 then ov else 1
def sPl (N : Nat → Nat) (lev last kn cp : Nat) : Nat := if ¬ last = 0 then cp + sEp lev last kn else if lev < N 11 then cp else cp + sEp lev last kn
def sP0 (N σ : Nat → Nat) (up : Nat) : Nat := sPri (N 1) (N 2) (σ 1) up
def sP1 (N σ : Nat → Nat) (up : Nat) : Nat := sPri (N 4) (N 5) (σ 2) (sXor up (N 6))
def sL (N σ : Nat → Nat) (up : Nat) : Nat := sMin (sLev (N 0) (sP0 N σ up)) (sLev (N 3) (sP1 N σ up))
def sK (N σ : Nat → Nat) (up : Nat) : Nat := sKn N (sL N σ up) (sLast N (σ 0 + 1)) (σ 4)
def sPay (N σ : Nat → Nat) (up : Nat) : Nat := sPl N (sL N σ up) (sLast N (σ 0 + 1)) (sK N σ up) (sCp N (sL N σ up) (σ 3))
/-- a standing behind one more move -/
def sMv (N σ : Nat → Nat) (up : Nat) : Nat → Nat := x8n (σ 0 + 1) (sP0 N σ up) (sP1 N σ up) (sMs N (sL N σ up) (σ 3)) (sK N σ up) (sOv N (sL N σ up) (sLast N (σ 0 + 1)) (σ 5)) (sPay N σ up) (σ 7 + sPay N σ up)
def sBeg (N : Nat → Nat) : Nat → Nat := x8n 0 (N 0) (N 3) 0 0 0 0 0
/-- behind the first n of the moves μ, until it is over -/
def sRun (N μ : Nat → Nat) : Nat → (Nat → Nat)
  | 0 => sBeg N
  | n + 1 => if (sRun N μ n) 5 = 0 then sMv N (sRun N μ n) (μ n) else sRun N μ n
/-- what the document lets the note be -/
def Nok (N : Nat → Nat) : Prop := (100 ≤ N 0 ∧ N 0 ≤ 1000 ∧ N 1 ≤ 200 ∧ N 2 ≤ 200 ∧ 100 ≤ N 3 ∧ N 3 ≤ 1000 ∧ N 4 ≤ 200 ∧ N 5 ≤ 200) ∧ N 6 ≤ 1 ∧ 1 ≤ N 7 ∧ N 7 ≤ 9 ∧ 1 ≤ N 8 ∧ N 8 ≤ 8 ∧ N 9 ≤ 100 ∧ N 10 ≤ 150 ∧ N 11 ≤ 200 ∧ N 12 ≤ 500 ∧ N 13 ≤ 1 ∧ N 14 ≤ 1
def Sok (σ : Nat → Nat) : Prop := σ 0 ≤ 8 ∧ 1 ≤ σ 1 ∧ σ 1 ≤ 1000 + 200 * σ 0 ∧ 1 ≤ σ 2 ∧ σ 2 ≤ 1000 + 200 * σ 0 ∧ σ 3 ≤ σ 0 ∧ σ 4 ≤ 1 ∧ σ 5 ≤ 1 ∧ σ 6 ≤ 6000 ∧ σ 7 ≤ 6000 * σ 0
theorem sPri_b {r f p up : Nat} (hr : r ≤ 200) (h1 : 1 ≤ p) : 1 ≤ sPri r f p up ∧ sPri r f p up ≤ p + 200 := by
  unfold sPri
  split
  · split <;> omega
  · omega
theorem sLev_b {f p : Nat} (hf : 100 ≤ f) (hp : p ≤ 10000) : sLev f p ≤ 10000 := by
  unfold sLev
  exact Nat.le_trans (Nat.div_le_div_left hf (by decide)) (by omega)
theorem sMin_b {x y k : Nat} (h : x ≤ k) : sMin x y ≤ k := by unfold sMin; split <;> omega
theorem sLast_b {N : Nat → Nat} {t : Nat} : sLast N t ≤ 1 := by unfold sLast; split <;> omega
theorem sKn_b {N : Nat → Nat} {lev last kn : Nat} (h : kn ≤ 1) : sKn N lev last kn ≤ 1 := by
  unfold sKn
  repeat' split
  all_goals omega
theorem sMs_b {N : Nat → Nat} {lev ms : Nat} : sMs N lev ms ≤ ms + 1 := by unfold sMs; split <;> omega
theorem sCp_b {N : Nat → Nat} {lev ms : Nat} (hc : N 12 ≤ 500) (hm : ms ≤ 8) : sCp N lev ms ≤ 4500 := by
  unfold sCp
  split
  · refine Nat.le_trans (show (if N 14 = 0 then 1 else 1 + ms) * N 12 ≤ 9 * 500 from Nat.mul_le_mul ?_ hc) (by decide)
    split <;> omega
  · omega
theorem sEp_b {lev last kn : Nat} : sEp lev last kn ≤ 1000 := by
  unfold sEp
  repeat' split
  all_goals omega
theorem sPl_b {N : Nat → Nat} {lev last kn cp : Nat} (h : cp ≤ 4500) : sPl N lev last kn cp ≤ 6000 := by
  have := @sEp_b lev last kn
  unfold sPl; repeat' split
  all_goals omega
theorem sOv_b {N : Nat → Nat} {lev last ov : Nat} (h : ov ≤ 1) : sOv N lev last ov ≤ 1 := by
  unfold sOv
  repeat' split
  all_goals omega
theorem sMv_ok {N σ : Nat → Nat} {up : Nat} (hN : Nok N) (h : Sok σ) (ht : σ 0 < 8) : Sok (sMv N σ up) := by
  obtain ⟨⟨n0, n0', n1, n2, n3, n3', n4, n5⟩, n6, n7, n7', n8, n8', n9, n10, n11, n12, n13, n14⟩ := hN
  obtain ⟨h0, h1, h1', h2, h2', h3, h4, h5, h6, h7⟩ := h
  have a := @sPri_b (N 1) (N 2) (σ 1) up n1 h1
  have b := @sPri_b (N 4) (N 5) (σ 2) (sXor up (N 6)) n4 h2
  have c := @sMs_b N (sL N σ up) (σ 3)
  have d := @sKn_b N (sL N σ up) (sLast N (σ 0 + 1)) (σ 4) h4
  have e := @sOv_b N (sL N σ up) (sLast N (σ 0 + 1)) (σ 5) h5
  have f := @sPl_b N (sL N σ up) (sLast N (σ 0 + 1)) (sK N σ up) (sCp N (sL N σ up) (σ 3)) (sCp_b n12 (by omega))
  refine ⟨?_, ?_, ?_, ?_, ?_, ?_, d, e, f, ?_⟩
  · show σ 0 + 1 ≤ 8; omega
  · exact a.1
  · show sP0 N σ up ≤ 1000 + 200 * (σ 0 + 1); unfold sP0; omega
  · exact b.1
  · show sP1 N σ up ≤ 1000 + 200 * (σ 0 + 1); unfold sP1; omega
  · show sMs N (sL N σ up) (σ 3) ≤ σ 0 + 1; omega
  · show σ 7 + sPay N σ up ≤ 6000 * (σ 0 + 1); unfold sPay; omega
theorem sBeg_ok {N : Nat → Nat} (hN : Nok N) : Sok (sBeg N) := by
  obtain ⟨⟨n0, n0', n1, n2, n3, n3', n4, n5⟩, -⟩ := hN
  refine ⟨by show 0 ≤ 8; omega, ?_, ?_, ?_, ?_, Nat.le_refl 0, Nat.zero_le _, Nat.zero_le _, Nat.zero_le _, Nat.zero_le _⟩
  · show 1 ≤ N 0; omega
  · show N 0 ≤ 1000 + 200 * 0; omega
  · show 1 ≤ N 3; omega
  · show N 3 ≤ 1000 + 200 * 0; omega
theorem sRun_told {N μ : Nat → Nat} : ∀ n, (sRun N μ n) 0 ≤ n := by
  intro n
  induction n with
  | zero => exact Nat.le_refl 0
  | succ n ih =>
    unfold sRun
    split
    · show (sRun N μ n) 0 + 1 ≤ n + 1; omega
    · omega
theorem sRun_ok {N μ : Nat → Nat} (hN : Nok N) : ∀ n, n ≤ 8 → Sok (sRun N μ n) := by
  intro n
  induction n with
  | zero => intro _; exact sBeg_ok hN
  | succ n ih =>
    intro h
    unfold sRun
    split
    · exact sMv_ok hN (ih (by omega)) (Nat.lt_of_le_of_lt (sRun_told n) (by omega))
    · exact ih (by omega)
/-- no move was told behind the end -/
def Told (N μ : Nat → Nat) (T : Nat) : Prop := ∀ j, j < T → (sRun N μ j) 5 = 0
theorem sRun_s {N μ : Nat → Nat} {n : Nat} (h : (sRun N μ n) 5 = 0) : sRun N μ (n + 1) = sMv N (sRun N μ n) (μ n) := by
  show (if (sRun N μ n) 5 = 0 then sMv N (sRun N μ n) (μ n) else sRun N μ n) = _
  rw [if_pos h]
theorem sRun_o {N μ : Nat → Nat} {n : Nat} (h : ¬ (sRun N μ n) 5 = 0) : sRun N μ (n + 1) = sRun N μ n := by
  show (if (sRun N μ n) 5 = 0 then sMv N (sRun N μ n) (μ n) else sRun N μ n) = _
  rw [if_neg h]
theorem sRun_t {N μ : Nat → Nat} : ∀ T, Told N μ T → (sRun N μ T) 0 = T := by
  intro T
  induction T with
  | zero => intro _; rfl
  | succ T ih =>
    intro h
    rw [sRun_s (h T (by omega))]
    show (sRun N μ T) 0 + 1 = T + 1
    rw [ih (fun j hj => h j (by omega))]
theorem sRun_c {N μ ν : Nat → Nat} : ∀ n, (∀ k, k < n → μ k = ν k) → sRun N μ n = sRun N ν n := by
  intro n
  induction n with
  | zero => intro _; rfl
  | succ n ih =>
    intro h
    have e := ih (fun k hk => h k (by omega))
    show (if (sRun N μ n) 5 = 0 then sMv N (sRun N μ n) (μ n) else sRun N μ n) = (if (sRun N ν n) 5 = 0 then sMv N (sRun N ν n) (ν n) else sRun N ν n)
    rw [e, h n (by omega)]
theorem sMv_last {N σ : Nat → Nat} {up : Nat} (h : N 8 ≤ σ 0 + 1) : (sMv N σ up) 5 = 1 := by
  show sOv N (sL N σ up) (sLast N (σ 0 + 1)) (σ 5) = 1
  unfold sOv sLast
  rw [if_neg (show ¬ σ 0 + 1 < N 8 by omega)]
  simp
/-- a told note that isn't over has a period left -/
theorem sTold_lt {N μ : Nat → Nat} (hN : Nok N) {T : Nat} (h : Told N μ T) (ho : (sRun N μ T) 5 = 0) (hT : T ≤ N 8) : T < N 8 := by
  rcases Nat.lt_or_ge T (N 8) with q | q
  · exact q
  · have h8 : 1 ≤ N 8 := hN.2.2.2.2.1
    obtain ⟨j, rfl⟩ : ∃ j, T = j + 1 := ⟨T - 1, by omega⟩
    have hj := h j (by omega)
    rw [sRun_s hj] at ho
    rw [sMv_last (by rw [sRun_t j (fun i hi => h i (by omega))]; omega)] at ho
    exact absurd ho (by decide)
/-! From the machine's ints to numbers. -/
theorem nz {n : Nat} (h : n < 2 ^ 31) : nI n = 0 ↔ n = 0 := by
  have := nI_eq (a := n) (b := 0) h (by decide)
  rwa [nI_0] at this
theorem n1 : (1 : Int32) = nI 1 := rfl
theorem n10 : (10 : Int32) = nI 10 := rfl
theorem n100 : (100 : Int32) = nI 100 := rfl
theorem n1000 : (1000 : Int32) = nI 1000 := rfl
theorem nif {c : Prop} [Decidable c] (a b : Nat) : (if c then nI a else nI b) = nI (if c then a else b) := by split <;> rfl
theorem sub_lt1 {p f : Nat} (hp : p < 2 ^ 30) (hf : f < 2 ^ 30) : (1 : Int32) < nI p - nI f ↔ f + 1 < p := by
  rw [Int32.lt_iff_toInt_lt, pk_sub_toInt hp hf, show (1 : Int32).toInt = 1 from rfl]
  omega
theorem sub_ge1 {p f : Nat} (hp : p < 2 ^ 30) (hf : f < 2 ^ 30) : nI p - nI f < (1 : Int32) ↔ p < f + 1 := by
  rw [Int32.lt_iff_toInt_lt, pk_sub_toInt hp hf, show (1 : Int32).toInt = 1 from rfl]
  omega
theorem kPri_s {r f p up : Nat} {a : Nat → Int32} (h1 : a 1 = nI r) (h2 : a 2 = nI f) (hf : f ≤ 200) (hp : p ≤ 10000) (hu : up < 2 ^ 31) : kPri a (nI p) (nI up) = nI (sPri r f p up) := by
  unfold kPri sPri
  rw [h1, h2]
  simp only [nz hu, sub_lt1 (p := p) (f := f) (by omega) (by omega), nI_add]
  split
  · split
    · rw [pk_sub (by omega)]
    · rfl
  · rfl
theorem kLev_s {F p : Nat} {a : Nat → Int32} (h0 : a 0 = nI F) (hF : 100 ≤ F) (hF' : F ≤ 1000) (hp : p ≤ 10000) : kLev a (nI p) = nI (sLev F p) := by
  unfold kLev sLev
  rw [h0, n100, if_pos ((nI_leI (by omega) (by omega)).mpr hF), pk_mul, pk_div (by omega) (by omega) (by omega)]
theorem kMin_s {x y : Nat} (hx : x < 2 ^ 31) (hy : y < 2 ^ 31) : kMin (nI x) (nI y) = nI (sMin x y) := by
  unfold kMin sMin
  simp only [nI_ltI hy hx, nif]
theorem kXor_s {u v : Nat} (hu : u < 2 ^ 31) (hv : v < 2 ^ 31) : kXor (nI u) (nI v) = nI (sXor u v) := by
  unfold kXor sXor
  simp only [nI_eq hu hv]
  split <;> rfl
/-- the cells that hold the note, an asset, a standing -/
def NtE (N : Nat → Nat) (nt : Nat → Int32) : Prop := nt 2 = nI (N 6) ∧ nt 3 = nI (N 7) ∧ nt 4 = nI (N 8) ∧ nt 5 = nI (N 9) ∧ nt 6 = nI (N 10) ∧ nt 7 = nI (N 11) ∧ nt 8 = nI (N 12) ∧ nt 9 = nI (N 13) ∧ nt 10 = nI (N 14)
def AsE (N : Nat → Nat) (o : Nat) (a : Nat → Int32) : Prop := a 0 = nI (N o) ∧ a 1 = nI (N (o + 1)) ∧ a 2 = nI (N (o + 2))
def StE (σ : Nat → Nat) (st : Nat → Int32) : Prop := st 0 = nI (σ 0) ∧ st 1 = nI (σ 1) ∧ st 2 = nI (σ 2) ∧ st 3 = nI (σ 3) ∧ st 4 = nI (σ 4) ∧ st 5 = nI (σ 5) ∧ st 6 = nI (σ 6) ∧ st 7 = nI (σ 7)
abbrev nF (σ : Nat → Nat) : Nat → Int32 := fun k => nI (σ k)
theorem x8f_n (a b c d e f g h : Nat) : x8f (nI a) (nI b) (nI c) (nI d) (nI e) (nI f) (nI g) (nI h) = nF (x8n a b c d e f g h) := by
  funext k
  match k with
  | 0 => rfl
  | 1 => rfl
  | 2 => rfl
  | 3 => rfl
  | 4 => rfl
  | 5 => rfl
  | 6 => rfl
  | _ + 7 => rfl
theorem kWl_s {N : Nat → Nat} {fa fb : Nat → Int32} {p q : Nat} (hN : Nok N) (ha : AsE N 0 fa) (hb : AsE N 3 fb) (hp : p ≤ 10000) (hq : q ≤ 10000) : kWl fa fb (nI p) (nI q) = nI (sMin (sLev (N 0) p) (sLev (N 3) q)) := by
  obtain ⟨⟨n0, n0', n1, n2, n3, n3', n4, n5⟩, -⟩ := hN
  unfold kWl
  rw [kLev_s ha.1 n0 n0' hp, kLev_s hb.1 n3 n3' hq, kMin_s]
  · have := sLev_b n0 hp; omega
  · have := sLev_b n3 hq; omega
/-- a move of the machine's standing is a move of the numbers -/
theorem kMv_s {N σ : Nat → Nat} {nt fa fb st : Nat → Int32} {up : Nat} (hN : Nok N) (hs : Sok σ) (hu : up ≤ 1) (hnt : NtE N nt) (ha : AsE N 0 fa) (hb : AsE N 3 fb) (hst : StE σ st) : kMv nt fa fb st (nI up) = nF (sMv N σ up) := by
  have hN' := hN
  obtain ⟨⟨n0, n0', n1', n2, n3, n3', n4, n5⟩, n6, n7, n7', n8, n8', n9, n10', n11, n12, n13, n14⟩ := hN
  obtain ⟨h0, h1, h1', h2, h2', h3, h4, h5, h6, h7⟩ := hs
  obtain ⟨e2, e3, e4, e5, e6, e7, e8, e9, e10⟩ := hnt
  obtain ⟨s0, s1, s2, s3, s4, s5, s6, s7⟩ := hst
  have b0 := @sPri_b (N 1) (N 2) (σ 1) up n1' h1
  have b1 := @sPri_b (N 4) (N 5) (σ 2) (sXor up (N 6)) n4 h2
  have q0 : kPri fa (st 1) (nI up) = nI (sP0 N σ up) := by rw [s1]; exact kPri_s ha.2.1 ha.2.2 n2 (by omega) (by omega)
  have qx : kXor (nI up) (nt 2) = nI (sXor up (N 6)) := by rw [e2]; exact kXor_s (by omega) (by omega)
  have q1 : kPri fb (st 2) (kXor (nI up) (nt 2)) = nI (sP1 N σ up) := by
    rw [s2, qx]
    refine kPri_s hb.2.1 hb.2.2 n5 (by omega) ?_
    unfold sXor; split <;> omega
  have qL : kWl fa fb (kPri fa (st 1) (nI up)) (kPri fb (st 2) (kXor (nI up) (nt 2))) = nI (sL N σ up) := by
    rw [q0, q1]
    exact kWl_s hN' ha hb (by unfold sP0; omega) (by unfold sP1; omega)
  have bL : sL N σ up ≤ 10000 := sMin_b (sLev_b n0 (by unfold sP0; omega))
  have qT : st 0 + 1 = nI (σ 0 + 1) := by rw [s0, nI_1]
  have qE : kLast nt (st 0 + 1) = nI (sLast N (σ 0 + 1)) := by
    unfold kLast sLast
    rw [qT, e4]
    simp only [nI_ltI (show σ 0 + 1 < 2 ^ 31 by omega) (show N 8 < 2 ^ 31 by omega)]
    split <;> rfl
  have bE : sLast N (σ 0 + 1) ≤ 1 := sLast_b
  have qK : kKn nt (nI (sL N σ up)) (nI (sLast N (σ 0 + 1))) (st 4) = nI (sK N σ up) := by
    unfold sK kKn sKn
    rw [e5, e9, s4]
    simp only [nI_leI (show N 9 < 2 ^ 31 by omega) (show sL N σ up < 2 ^ 31 by omega), nz (show sLast N (σ 0 + 1) < 2 ^ 31 by omega), nz (show N 13 < 2 ^ 31 by omega), n1, nif]
  have bK : sK N σ up ≤ 1 := sKn_b h4
  have qC : kCp nt (nI (sL N σ up)) (st 3) = nI (sCp N (sL N σ up) (σ 3)) := by
    unfold kCp sCp
    rw [e6, e10, e8, s3]
    simp only [nI_leI (show N 10 < 2 ^ 31 by omega) (show sL N σ up < 2 ^ 31 by omega), nz (show N 14 < 2 ^ 31 by omega), n1, nI_add, nif, pk_mul]
    split <;> rfl
  have qM : kMs nt (nI (sL N σ up)) (st 3) = nI (sMs N (sL N σ up) (σ 3)) := by
    unfold kMs sMs
    rw [e6, s3]
    simp only [nI_leI (show N 10 < 2 ^ 31 by omega) (show sL N σ up < 2 ^ 31 by omega), n1, nI_add]
    split <;> rfl
  have qO : kOv nt (nI (sL N σ up)) (nI (sLast N (σ 0 + 1))) (st 5) = nI (sOv N (sL N σ up) (sLast N (σ 0 + 1)) (σ 5)) := by
    unfold kOv sOv
    rw [e7, s5]
    simp only [nI_ltI (show sL N σ up < 2 ^ 31 by omega) (show N 11 < 2 ^ 31 by omega), nz (show sLast N (σ 0 + 1) < 2 ^ 31 by omega), n1, nif]
  have qP' : kEp (nI (sL N σ up)) (nI (sLast N (σ 0 + 1))) (nI (sK N σ up)) = nI (sEp (sL N σ up) (sLast N (σ 0 + 1)) (sK N σ up)) := by
    unfold kEp sEp
    simp only [nI_leI (show 100 < 2 ^ 31 by omega) (show sL N σ up < 2 ^ 31 by omega), nz (show sLast N (σ 0 + 1) < 2 ^ 31 by omega), nz (show sK N σ up < 2 ^ 31 by omega), n1000, n100, n10, pk_mul, nif]
  have qP : kPl nt (nI (sL N σ up)) (nI (sLast N (σ 0 + 1))) (nI (sK N σ up)) (nI (sCp N (sL N σ up) (σ 3))) = nI (sPay N σ up) := by
    unfold kPl sPay sPl
    rw [qP', e7]
    simp only [nI_ltI (show sL N σ up < 2 ^ 31 by omega) (show N 11 < 2 ^ 31 by omega), nz (show sLast N (σ 0 + 1) < 2 ^ 31 by omega), nI_add, nif]
  unfold kMv
  rw [qL, qE, qK, qC, qM, qO, qP, q0, q1, qT, s7, nI_add]
  exact x8f_n _ _ _ _ _ _ _ _
/-! The tree of moves: sums over all rows, and the tree's own way. -/
def sW (N : Nat → Nat) (up : Nat) : Nat := if up = 0 then 10 - N 7 else N 7
/-- a standing with nothing but its prices, missed periods, knock and time -/
def nrm (σ : Nat → Nat) : Nat → Nat := x8n (σ 0) (σ 1) (σ 2) (σ 3) (σ 4) 0 0 0
theorem nrm_nrm (σ : Nat → Nat) : nrm (nrm σ) = nrm σ := rfl
/-- two standings that go on alike -/
def Like (σ τ : Nat → Nat) : Prop := σ 0 = τ 0 ∧ σ 1 = τ 1 ∧ σ 2 = τ 2 ∧ σ 3 = τ 3 ∧ σ 4 = τ 4 ∧ σ 5 = τ 5
theorem nrm_like {σ : Nat → Nat} (h : σ 5 = 0) : Like σ (nrm σ) := ⟨rfl, rfl, rfl, rfl, rfl, h⟩
theorem Like.symm {σ τ : Nat → Nat} (h : Like σ τ) : Like τ σ := ⟨h.1.symm, h.2.1.symm, h.2.2.1.symm, h.2.2.2.1.symm, h.2.2.2.2.1.symm, h.2.2.2.2.2.symm⟩
theorem sMv_like {N σ τ : Nat → Nat} {up : Nat} (h : Like σ τ) : Like (sMv N σ up) (sMv N τ up) ∧ sPay N σ up = sPay N τ up := by
  obtain ⟨e0, e1, e2, e3, e4, e5⟩ := h
  have q0 : sP0 N σ up = sP0 N τ up := by unfold sP0; rw [e1]
  have q1 : sP1 N σ up = sP1 N τ up := by unfold sP1; rw [e2]
  have qL : sL N σ up = sL N τ up := by unfold sL; rw [q0, q1]
  have qK : sK N σ up = sK N τ up := by unfold sK; rw [qL, e0, e4]
  refine ⟨⟨?_, q0, q1, ?_, qK, ?_⟩, ?_⟩
  · show σ 0 + 1 = τ 0 + 1; rw [e0]
  · show sMs N (sL N σ up) (σ 3) = sMs N (sL N τ up) (τ 3); rw [qL, e3]
  · show sOv N (sL N σ up) (sLast N (σ 0 + 1)) (σ 5) = sOv N (sL N τ up) (sLast N (τ 0 + 1)) (τ 5); rw [qL, e0, e5]
  · unfold sPay; rw [qL, qK, e0, e3]
/-- what a row of n moves costs, from σ on, a cost c at each step -/
def sG (N : Nat → Nat) (c : (Nat → Nat) → Nat) : Nat → (Nat → Nat) → Nat → Nat
  | 0, _, _ => 0
  | n + 1, σ, r => if σ 5 = 0 then c (sMv N σ (r % 2)) + sG N c n (sMv N σ (r % 2)) (r / 2) else 0
/-- where a row of n moves ends -/
def sRow (N : Nat → Nat) : Nat → (Nat → Nat) → Nat → (Nat → Nat)
  | 0, σ, _ => σ
  | n + 1, σ, r => if σ 5 = 0 then sRow N n (sMv N σ (r % 2)) (r / 2) else σ
/-- the product of a row's weights -/
def sRW (N : Nat → Nat) : Nat → Nat → Nat
  | 0, _ => 1
  | n + 1, r => sW N (r % 2) * sRW N n (r / 2)
def sSum (f : Nat → Nat) : Nat → Nat
  | 0 => 0
  | n + 1 => sSum f n + f n
/-- the same sum, move by move -/
def sPhi (N : Nat → Nat) (c : (Nat → Nat) → Nat) : Nat → (Nat → Nat) → Nat
  | 0, _ => 0
  | n + 1, σ => sW N 1 * (10 ^ n * c (sMv N σ 1) + (if (sMv N σ 1) 5 = 0 then sPhi N c n (sMv N σ 1) else 0)) + sW N 0 * (10 ^ n * c (sMv N σ 0) + (if (sMv N σ 0) 5 = 0 then sPhi N c n (sMv N σ 0) else 0))
/-- a cost that sees what goes on, and the pay of the step -/
def Cok (N : Nat → Nat) (c : (Nat → Nat) → Nat) : Prop := ∀ (σ τ : Nat → Nat) (up : Nat), Like σ τ → c (sMv N σ up) = c (sMv N τ up)
theorem sSum_add (f g : Nat → Nat) : ∀ n, sSum (fun r => f r + g r) n = sSum f n + sSum g n := by
  intro n
  induction n with
  | zero => rfl
  | succ n ih => show sSum (fun r => f r + g r) n + (f n + g n) = sSum f n + f n + (sSum g n + g n); omega
theorem sSum_mul (k : Nat) (f : Nat → Nat) : ∀ n, sSum (fun r => k * f r) n = k * sSum f n := by
  intro n
  induction n with
  | zero => rfl
  | succ n ih => show sSum (fun r => k * f r) n + k * f n = k * (sSum f n + f n); rw [ih, Nat.mul_add]
theorem sSum_congr {f g : Nat → Nat} : ∀ n, (∀ r, r < n → f r = g r) → sSum f n = sSum g n := by
  intro n
  induction n with
  | zero => intro _; rfl
  | succ n ih => intro h; show sSum f n + f n = sSum g n + g n; rw [ih (fun r hr => h r (by omega)), h n (by omega)]
theorem sSum_two (f : Nat → Nat) : ∀ n, sSum f (2 * n) = sSum (fun r => f (2 * r)) n + sSum (fun r => f (2 * r + 1)) n := by
  intro n
  induction n with
  | zero => rfl
  | succ n ih =>
    rw [show 2 * (n + 1) = 2 * n + 1 + 1 by omega]
    show sSum f (2 * n) + f (2 * n) + f (2 * n + 1) = (sSum (fun r => f (2 * r)) n + f (2 * n)) + (sSum (fun r => f (2 * r + 1)) n + f (2 * n + 1))
    omega
theorem two_mod0 (r : Nat) : 2 * r % 2 = 0 := by omega
theorem two_div0 (r : Nat) : 2 * r / 2 = r := by omega
theorem two_mod1 (r : Nat) : (2 * r + 1) % 2 = 1 := by omega
theorem two_div1 (r : Nat) : (2 * r + 1) / 2 = r := by omega
theorem sW_10 {N : Nat → Nat} (hN : Nok N) : sW N 0 + sW N 1 = 10 := by
  have : N 7 ≤ 9 := hN.2.2.2.1
  show (if 0 = 0 then 10 - N 7 else N 7) + (if 1 = 0 then 10 - N 7 else N 7) = 10
  simp
  omega
theorem sRW_sum {N : Nat → Nat} (hN : Nok N) : ∀ n, sSum (sRW N n) (2 ^ n) = 10 ^ n := by
  intro n
  induction n with
  | zero => rfl
  | succ n ih =>
    rw [Nat.pow_succ, Nat.mul_comm, sSum_two]
    have h0 : sSum (fun r => sRW N (n + 1) (2 * r)) (2 ^ n) = sW N 0 * 10 ^ n := by
      rw [← ih, ← sSum_mul]
      refine sSum_congr _ (fun r _ => ?_)
      show sW N (2 * r % 2) * sRW N n (2 * r / 2) = _
      rw [two_mod0, two_div0]
    have h1 : sSum (fun r => sRW N (n + 1) (2 * r + 1)) (2 ^ n) = sW N 1 * 10 ^ n := by
      rw [← ih, ← sSum_mul]
      refine sSum_congr _ (fun r _ => ?_)
      show sW N ((2 * r + 1) % 2) * sRW N n ((2 * r + 1) / 2) = _
      rw [two_mod1, two_div1]
    rw [h0, h1, ← Nat.add_mul, sW_10 hN, Nat.pow_succ, Nat.mul_comm]
theorem sG_over {N : Nat → Nat} {c : (Nat → Nat) → Nat} {n r : Nat} {σ : Nat → Nat} (h : ¬ σ 5 = 0) : sG N c n σ r = 0 := by
  cases n with
  | zero => rfl
  | succ n => show (if σ 5 = 0 then _ else 0) = 0; rw [if_neg h]
/-- the sum over all rows is the sum move by move -/
theorem sG_sum {N : Nat → Nat} (hN : Nok N) (c : (Nat → Nat) → Nat) : ∀ n (σ : Nat → Nat), σ 5 = 0 → sSum (fun r => sRW N n r * sG N c n σ r) (2 ^ n) = sPhi N c n σ := by
  intro n
  induction n with
  | zero => intro σ _; rfl
  | succ n ih =>
    intro σ h5
    rw [Nat.pow_succ, Nat.mul_comm, sSum_two]
    have key : ∀ up, up = 0 ∨ up = 1 → sSum (fun r => sW N up * sRW N n r * (c (sMv N σ up) + sG N c n (sMv N σ up) r)) (2 ^ n) = sW N up * (10 ^ n * c (sMv N σ up) + (if (sMv N σ up) 5 = 0 then sPhi N c n (sMv N σ up) else 0)) := by
      intro up _
      have e1 : sSum (fun r => sW N up * sRW N n r * (c (sMv N σ up) + sG N c n (sMv N σ up) r)) (2 ^ n) = sSum (fun r => sW N up * (c (sMv N σ up) * sRW N n r + sRW N n r * sG N c n (sMv N σ up) r)) (2 ^ n) := by
        refine sSum_congr _ (fun r _ => ?_)
        rw [Nat.mul_assoc, Nat.mul_add (sRW N n r), Nat.mul_comm (sRW N n r) (c _)]
      rw [e1, sSum_mul, sSum_add, sSum_mul, sRW_sum hN, Nat.mul_comm (c _)]
      congr 2
      split
      · rename_i hq; exact ih _ hq
      · rename_i hq
        have : ∀ m, sSum (fun r => sRW N n r * sG N c n (sMv N σ up) r) m = 0 := by
          intro m
          induction m with
          | zero => rfl
          | succ m im => show sSum _ m + sRW N n m * sG N c n (sMv N σ up) m = 0; rw [im, sG_over hq]; rfl
        exact this _
    have h0 : sSum (fun r => sRW N (n + 1) (2 * r) * sG N c (n + 1) σ (2 * r)) (2 ^ n) = sSum (fun r => sW N 0 * sRW N n r * (c (sMv N σ 0) + sG N c n (sMv N σ 0) r)) (2 ^ n) := by
      refine sSum_congr _ (fun r _ => ?_)
      show sW N (2 * r % 2) * sRW N n (2 * r / 2) * (if σ 5 = 0 then c (sMv N σ (2 * r % 2)) + sG N c n (sMv N σ (2 * r % 2)) (2 * r / 2) else 0) = _
      rw [if_pos h5, two_mod0, two_div0]
    have h1 : sSum (fun r => sRW N (n + 1) (2 * r + 1) * sG N c (n + 1) σ (2 * r + 1)) (2 ^ n) = sSum (fun r => sW N 1 * sRW N n r * (c (sMv N σ 1) + sG N c n (sMv N σ 1) r)) (2 ^ n) := by
      refine sSum_congr _ (fun r _ => ?_)
      show sW N ((2 * r + 1) % 2) * sRW N n ((2 * r + 1) / 2) * (if σ 5 = 0 then c (sMv N σ ((2 * r + 1) % 2)) + sG N c n (sMv N σ ((2 * r + 1) % 2)) ((2 * r + 1) / 2) else 0) = _
      rw [if_pos h5, two_mod1, two_div1]
    rw [h0, h1, key 0 (Or.inl rfl), key 1 (Or.inr rfl), Nat.add_comm]
    rfl
theorem sPhi_like {N : Nat → Nat} {c : (Nat → Nat) → Nat} (hc : Cok N c) : ∀ n (σ τ : Nat → Nat), Like σ τ → sPhi N c n σ = sPhi N c n τ := by
  intro n
  induction n with
  | zero => intro σ τ _; rfl
  | succ n ih =>
    intro σ τ h
    have a := (sMv_like (N := N) (up := 1) h).1
    have b := (sMv_like (N := N) (up := 0) h).1
    show sW N 1 * (10 ^ n * c (sMv N σ 1) + (if (sMv N σ 1) 5 = 0 then sPhi N c n (sMv N σ 1) else 0)) + sW N 0 * (10 ^ n * c (sMv N σ 0) + (if (sMv N σ 0) 5 = 0 then sPhi N c n (sMv N σ 0) else 0)) = sW N 1 * (10 ^ n * c (sMv N τ 1) + (if (sMv N τ 1) 5 = 0 then sPhi N c n (sMv N τ 1) else 0)) + sW N 0 * (10 ^ n * c (sMv N τ 0) + (if (sMv N τ 0) 5 = 0 then sPhi N c n (sMv N τ 0) else 0))
    rw [hc σ τ 1 h, hc σ τ 0 h, a.2.2.2.2.2, b.2.2.2.2.2, ih _ _ a, ih _ _ b]
theorem sRow_like {N : Nat → Nat} : ∀ n (σ τ : Nat → Nat) (r : Nat), Like σ τ → Like (sRow N n σ r) (sRow N n τ r) := by
  intro n
  induction n with
  | zero => intro σ τ r h; exact h
  | succ n ih =>
    intro σ τ r h
    show Like (if σ 5 = 0 then sRow N n (sMv N σ (r % 2)) (r / 2) else σ) (if τ 5 = 0 then sRow N n (sMv N τ (r % 2)) (r / 2) else τ)
    rw [h.2.2.2.2.2]
    split
    · exact ih _ _ _ (sMv_like h).1
    · exact h
/-- three costs: what is paid, the knock at the end, an end in the period d -/
def cPay (τ : Nat → Nat) : Nat := τ 6
def cKno (τ : Nat → Nat) : Nat := if τ 5 = 0 then 0 else τ 4
def cEnd (d : Nat) (τ : Nat → Nat) : Nat := if τ 5 = 0 then 0 else if τ 0 = d then 1 else 0
theorem cPay_ok (N : Nat → Nat) : Cok N cPay := fun σ τ up h => (sMv_like h).2
theorem cKno_ok (N : Nat → Nat) : Cok N cKno := fun σ τ up h => by have a := (sMv_like (N := N) (up := up) h).1; unfold cKno; rw [a.2.2.2.2.2, a.2.2.2.2.1]
theorem cEnd_ok (N : Nat → Nat) (d : Nat) : Cok N (cEnd d) := fun σ τ up h => by have a := (sMv_like (N := N) (up := up) h).1; unfold cEnd; rw [a.2.2.2.2.2, a.1]
theorem sG_pay {N : Nat → Nat} : ∀ n (σ : Nat → Nat) (r : Nat), (sRow N n σ r) 7 = σ 7 + sG N cPay n σ r := by
  intro n
  induction n with
  | zero => intro σ r; rfl
  | succ n ih =>
    intro σ r
    show (if σ 5 = 0 then sRow N n (sMv N σ (r % 2)) (r / 2) else σ) 7 = σ 7 + (if σ 5 = 0 then cPay (sMv N σ (r % 2)) + sG N cPay n (sMv N σ (r % 2)) (r / 2) else 0)
    split
    · rw [ih]
      show (σ 7 + sPay N σ (r % 2)) + _ = σ 7 + (sPay N σ (r % 2) + _)
      omega
    · rfl
/-- a row through all the periods left ends the note -/
theorem sRow_end {N : Nat → Nat} : ∀ n (σ : Nat → Nat) (r : Nat), N 8 ≤ σ 0 + n → σ 5 = 0 → 0 < n → ¬ (sRow N n σ r) 5 = 0 := by
  intro n
  induction n with
  | zero => intro σ r _ _ h; exact absurd h (by decide)
  | succ n ih =>
    intro σ r h h5 _
    show ¬ (if σ 5 = 0 then sRow N n (sMv N σ (r % 2)) (r / 2) else σ) 5 = 0
    rw [if_pos h5]
    cases n with
    | zero =>
      show ¬ (sMv N σ (r % 2)) 5 = 0
      rw [sMv_last (by omega)]
      decide
    | succ n =>
      by_cases q : (sMv N σ (r % 2)) 5 = 0
      · exact ih _ _ (by show N 8 ≤ σ 0 + 1 + (n + 1); omega) q (by omega)
      · show ¬ (if (sMv N σ (r % 2)) 5 = 0 then sRow N n (sMv N (sMv N σ (r % 2)) (r / 2 % 2)) (r / 2 / 2) else sMv N σ (r % 2)) 5 = 0
        rw [if_neg q]; exact q
theorem sRow_over {N : Nat → Nat} {n r : Nat} {σ : Nat → Nat} (h : ¬ σ 5 = 0) : sRow N n σ r = σ := by
  cases n with
  | zero => rfl
  | succ n => show (if σ 5 = 0 then _ else σ) = σ; rw [if_neg h]
theorem sG_kno {N : Nat → Nat} : ∀ n (σ : Nat → Nat) (r : Nat), N 8 ≤ σ 0 + n → σ 5 = 0 → 0 < n → sG N cKno n σ r = (sRow N n σ r) 4 := by
  intro n
  induction n with
  | zero => intro σ r _ _ h; exact absurd h (by decide)
  | succ n ih =>
    intro σ r h h5 _
    show (if σ 5 = 0 then cKno (sMv N σ (r % 2)) + sG N cKno n (sMv N σ (r % 2)) (r / 2) else 0) = (if σ 5 = 0 then sRow N n (sMv N σ (r % 2)) (r / 2) else σ) 4
    rw [if_pos h5, if_pos h5]
    by_cases q : (sMv N σ (r % 2)) 5 = 0
    · have hn : 0 < n := by
        rcases Nat.eq_zero_or_pos n with e | e
        · subst e; rw [sMv_last (by omega)] at q; exact absurd q (by decide)
        · exact e
      rw [ih _ _ (by show N 8 ≤ σ 0 + 1 + n; omega) q hn]
      unfold cKno; rw [if_pos q, Nat.zero_add]
    · rw [sG_over q, sRow_over q]
      unfold cKno; rw [if_neg q]; rfl
theorem sG_end {N : Nat → Nat} (d : Nat) : ∀ n (σ : Nat → Nat) (r : Nat), N 8 ≤ σ 0 + n → σ 5 = 0 → 0 < n → sG N (cEnd d) n σ r = if (sRow N n σ r) 0 = d then 1 else 0 := by
  intro n
  induction n with
  | zero => intro σ r _ _ h; exact absurd h (by decide)
  | succ n ih =>
    intro σ r h h5 _
    show (if σ 5 = 0 then cEnd d (sMv N σ (r % 2)) + sG N (cEnd d) n (sMv N σ (r % 2)) (r / 2) else 0) = if (if σ 5 = 0 then sRow N n (sMv N σ (r % 2)) (r / 2) else σ) 0 = d then 1 else 0
    rw [if_pos h5, if_pos h5]
    by_cases q : (sMv N σ (r % 2)) 5 = 0
    · have hn : 0 < n := by
        rcases Nat.eq_zero_or_pos n with e | e
        · subst e; rw [sMv_last (by omega)] at q; exact absurd q (by decide)
        · exact e
      rw [ih _ _ (by show N 8 ≤ σ 0 + 1 + n; omega) q hn]
      unfold cEnd; rw [if_pos q, Nat.zero_add]
    · rw [sG_over q, sRow_over q]
      unfold cEnd; rw [if_neg q, Nat.add_zero]
/-- the least and the most of the rows -/
def sLo (N : Nat → Nat) : Nat → (Nat → Nat) → Nat
  | 0, _ => 0
  | n + 1, σ => min ((sMv N σ 1) 6 + (if (sMv N σ 1) 5 = 0 then sLo N n (sMv N σ 1) else 0)) ((sMv N σ 0) 6 + (if (sMv N σ 0) 5 = 0 then sLo N n (sMv N σ 0) else 0))
def sHi (N : Nat → Nat) : Nat → (Nat → Nat) → Nat
  | 0, _ => 0
  | n + 1, σ => max ((sMv N σ 1) 6 + (if (sMv N σ 1) 5 = 0 then sHi N n (sMv N σ 1) else 0)) ((sMv N σ 0) 6 + (if (sMv N σ 0) 5 = 0 then sHi N n (sMv N σ 0) else 0))
theorem sG_step {N : Nat → Nat} {c : (Nat → Nat) → Nat} {n r : Nat} {σ : Nat → Nat} (h : σ 5 = 0) : sG N c (n + 1) σ r = c (sMv N σ (r % 2)) + sG N c n (sMv N σ (r % 2)) (r / 2) := by
  show (if σ 5 = 0 then _ else 0) = _
  rw [if_pos h]
theorem mod2 (r : Nat) : r % 2 = 0 ∨ r % 2 = 1 := by omega
theorem sLo_le {N : Nat → Nat} : ∀ n (σ : Nat → Nat) (r : Nat), σ 5 = 0 → sLo N n σ ≤ sG N cPay n σ r := by
  intro n
  induction n with
  | zero => intro σ r _; exact Nat.le_refl 0
  | succ n ih =>
    intro σ r h5
    rw [sG_step h5]
    have key : ∀ up, (sMv N σ up) 6 + (if (sMv N σ up) 5 = 0 then sLo N n (sMv N σ up) else 0) ≤ cPay (sMv N σ up) + sG N cPay n (sMv N σ up) (r / 2) := by
      intro up
      refine Nat.add_le_add (Nat.le_refl _) ?_
      split
      · rename_i q; exact ih _ _ q
      · exact Nat.zero_le _
    rcases mod2 r with e | e
    · rw [e]; exact Nat.le_trans (Nat.min_le_right _ _) (key 0)
    · rw [e]; exact Nat.le_trans (Nat.min_le_left _ _) (key 1)
theorem sHi_ge {N : Nat → Nat} : ∀ n (σ : Nat → Nat) (r : Nat), σ 5 = 0 → sG N cPay n σ r ≤ sHi N n σ := by
  intro n
  induction n with
  | zero => intro σ r _; exact Nat.le_refl 0
  | succ n ih =>
    intro σ r h5
    rw [sG_step h5]
    have key : ∀ up, cPay (sMv N σ up) + sG N cPay n (sMv N σ up) (r / 2) ≤ (sMv N σ up) 6 + (if (sMv N σ up) 5 = 0 then sHi N n (sMv N σ up) else 0) := by
      intro up
      refine Nat.add_le_add (Nat.le_refl _) ?_
      split
      · rename_i q; exact ih _ _ q
      · rename_i q; rw [sG_over q]; exact Nat.le_refl 0
    rcases mod2 r with e | e
    · rw [e]; exact Nat.le_trans (key 0) (Nat.le_max_right _ _)
    · rw [e]; exact Nat.le_trans (key 1) (Nat.le_max_left _ _)
theorem sLo_at {N : Nat → Nat} : ∀ n (σ : Nat → Nat), σ 5 = 0 → ∃ r, r < 2 ^ n ∧ sG N cPay n σ r = sLo N n σ := by
  intro n
  induction n with
  | zero => intro σ _; exact ⟨0, by decide, rfl⟩
  | succ n ih =>
    intro σ h5
    have key : ∀ up, ∃ r, r < 2 ^ n ∧ sG N cPay n (sMv N σ up) r = (if (sMv N σ up) 5 = 0 then sLo N n (sMv N σ up) else 0) := by
      intro up
      by_cases q : (sMv N σ up) 5 = 0
      · obtain ⟨r, hr, e⟩ := ih _ q
        exact ⟨r, hr, by rw [e, if_pos q]⟩
      · exact ⟨0, Nat.pow_pos (by decide), by rw [sG_over q, if_neg q]⟩
    rcases Nat.le_total ((sMv N σ 1) 6 + (if (sMv N σ 1) 5 = 0 then sLo N n (sMv N σ 1) else 0)) ((sMv N σ 0) 6 + (if (sMv N σ 0) 5 = 0 then sLo N n (sMv N σ 0) else 0)) with q | q
    · obtain ⟨r, hr, e⟩ := key 1
      refine ⟨2 * r + 1, by rw [Nat.pow_succ]; omega, ?_⟩
      rw [sG_step h5, two_mod1, two_div1, e]
      exact (Nat.min_eq_left q).symm
    · obtain ⟨r, hr, e⟩ := key 0
      refine ⟨2 * r, by rw [Nat.pow_succ]; omega, ?_⟩
      rw [sG_step h5, two_mod0, two_div0, e]
      exact (Nat.min_eq_right q).symm
theorem sHi_at {N : Nat → Nat} : ∀ n (σ : Nat → Nat), σ 5 = 0 → ∃ r, r < 2 ^ n ∧ sG N cPay n σ r = sHi N n σ := by
  intro n
  induction n with
  | zero => intro σ _; exact ⟨0, by decide, rfl⟩
  | succ n ih =>
    intro σ h5
    have key : ∀ up, ∃ r, r < 2 ^ n ∧ sG N cPay n (sMv N σ up) r = (if (sMv N σ up) 5 = 0 then sHi N n (sMv N σ up) else 0) := by
      intro up
      by_cases q : (sMv N σ up) 5 = 0
      · obtain ⟨r, hr, e⟩ := ih _ q
        exact ⟨r, hr, by rw [e, if_pos q]⟩
      · exact ⟨0, Nat.pow_pos (by decide), by rw [sG_over q, if_neg q]⟩
    rcases Nat.le_total ((sMv N σ 0) 6 + (if (sMv N σ 0) 5 = 0 then sHi N n (sMv N σ 0) else 0)) ((sMv N σ 1) 6 + (if (sMv N σ 1) 5 = 0 then sHi N n (sMv N σ 1) else 0)) with q | q
    · obtain ⟨r, hr, e⟩ := key 1
      refine ⟨2 * r + 1, by rw [Nat.pow_succ]; omega, ?_⟩
      rw [sG_step h5, two_mod1, two_div1, e]
      exact (Nat.max_eq_left q).symm
    · obtain ⟨r, hr, e⟩ := key 0
      refine ⟨2 * r, by rw [Nat.pow_succ]; omega, ?_⟩
      rw [sG_step h5, two_mod0, two_div0, e]
      exact (Nat.max_eq_right q).symm
theorem sLo_like {N : Nat → Nat} : ∀ n (σ τ : Nat → Nat), Like σ τ → sLo N n σ = sLo N n τ ∧ sHi N n σ = sHi N n τ := by
  intro n
  induction n with
  | zero => intro σ τ _; exact ⟨rfl, rfl⟩
  | succ n ih =>
    intro σ τ h
    obtain ⟨a, a6⟩ := sMv_like (N := N) (up := 1) h
    obtain ⟨b, b6⟩ := sMv_like (N := N) (up := 0) h
    have a6 : (sMv N σ 1) 6 = (sMv N τ 1) 6 := a6
    have b6 : (sMv N σ 0) 6 = (sMv N τ 0) 6 := b6
    constructor
    · show min _ _ = min _ _
      rw [a6, b6, a.2.2.2.2.2, b.2.2.2.2.2, (ih _ _ a).1, (ih _ _ b).1]
    · show max _ _ = max _ _
      rw [a6, b6, a.2.2.2.2.2, b.2.2.2.2.2, (ih _ _ a).2, (ih _ _ b).2]
/-! Layers of unlike states. An entry e: 0 and 1 the prices, 2 missed, 3 knocked, 4 its weight, 5 and 6 the least and the most paid. -/
def sMax (x y : Nat) : Nat := if x < y then y else x
theorem sMin_eq (x y : Nat) : sMin x y = min x y := by unfold sMin; split <;> omega
theorem sMax_eq (x y : Nat) : sMax x y = max x y := by unfold sMax; split <;> omega
/-- alike: both prices, the missed periods and the knock -/
abbrev keq (e σ : Nat → Nat) : Prop := e 0 = σ 1 ∧ e 1 = σ 2 ∧ e 2 = σ 3 ∧ e 3 = σ 4
def eOf (σ : Nat → Nat) (w l m : Nat) : Nat → Nat := x8n (σ 1) (σ 2) (σ 3) (σ 4) w l m 0
def eMg (e : Nat → Nat) (w l m : Nat) : Nat → Nat := x8n (e 0) (e 1) (e 2) (e 3) (e 4 + w) (sMin (e 5) l) (sMax (e 6) m) 0
/-- the state of an entry, behind the period t -/
def eSt (t : Nat) (e : Nat → Nat) : Nat → Nat := x8n t (e 0) (e 1) (e 2) (e 3) 0 0 0
def sAdd : List (Nat → Nat) → (Nat → Nat) → Nat → Nat → Nat → List (Nat → Nat)
  | [], σ, w, l, m => [eOf σ w l m]
  | e :: E, σ, w, l, m => if keq e σ then eMg e w l m :: E else e :: sAdd E σ w l m
theorem sAdd_at {σ : Nat → Nat} {w l m : Nat} : ∀ (E : List (Nat → Nat)) (j : Nat) (e : Nat → Nat), E[j]? = some e → keq e σ → (∀ (i : Nat) (e' : Nat → Nat), i < j → E[i]? = some e' → ¬ keq e' σ) → sAdd E σ w l m = E.set j (eMg e w l m) := by
  intro E
  induction E with
  | nil => intro j e h; simp at h
  | cons a E ih =>
    intro j e h hk hn
    cases j with
    | zero =>
      have : a = e := by simpa using h
      subst this
      show (if keq a σ then eMg a w l m :: E else a :: sAdd E σ w l m) = _
      rw [if_pos hk]; rfl
    | succ j =>
      have ha : ¬ keq a σ := hn 0 a (by omega) rfl
      show (if keq a σ then eMg a w l m :: E else a :: sAdd E σ w l m) = a :: E.set j (eMg e w l m)
      rw [if_neg ha, ih j e (by simpa using h) hk (fun i e' hi he => hn (i + 1) e' (by omega) (by simpa using he))]
theorem sAdd_new {σ : Nat → Nat} {w l m : Nat} : ∀ (E : List (Nat → Nat)), (∀ (i : Nat) (e' : Nat → Nat), E[i]? = some e' → ¬ keq e' σ) → sAdd E σ w l m = E ++ [eOf σ w l m] := by
  intro E
  induction E with
  | nil => intro _; rfl
  | cons a E ih =>
    intro hn
    show (if keq a σ then eMg a w l m :: E else a :: sAdd E σ w l m) = a :: (E ++ [eOf σ w l m])
    rw [if_neg (hn 0 a rfl), ih (fun i e' he => hn (i + 1) e' (by simpa using he))]
theorem sAdd_len {σ : Nat → Nat} {w l m : Nat} : ∀ (E : List (Nat → Nat)), (sAdd E σ w l m).length ≤ E.length + 1 := by
  intro E
  induction E with
  | nil => exact Nat.le_refl 1
  | cons a E ih =>
    show (if keq a σ then eMg a w l m :: E else a :: sAdd E σ w l m).length ≤ E.length + 1 + 1
    split
    · show E.length + 1 ≤ E.length + 1 + 1; omega
    · show (sAdd E σ w l m).length + 1 ≤ E.length + 1 + 1; omega
/-- what holds of every entry -/
theorem sAdd_all {σ : Nat → Nat} {w l m : Nat} {P : (Nat → Nat) → Prop} (hnew : P (eOf σ w l m)) (hmg : ∀ e, P e → keq e σ → P (eMg e w l m)) : ∀ (E : List (Nat → Nat)), (∀ e ∈ E, P e) → ∀ e ∈ sAdd E σ w l m, P e := by
  intro E
  induction E with
  | nil => intro _ e he; rw [show sAdd [] σ w l m = [eOf σ w l m] from rfl, List.mem_singleton] at he; rw [he]; exact hnew
  | cons a E ih =>
    intro h e he
    rw [show sAdd (a :: E) σ w l m = (if keq a σ then eMg a w l m :: E else a :: sAdd E σ w l m) from rfl] at he
    split at he
    · rename_i q
      rcases List.mem_cons.mp he with r | r
      · rw [r]; exact hmg a (h a List.mem_cons_self) q
      · exact h e (List.mem_cons_of_mem _ r)
    · rcases List.mem_cons.mp he with r | r
      · rw [r]; exact h a List.mem_cons_self
      · exact ih (fun e he => h e (List.mem_cons_of_mem _ he)) e r
/-- what some entry's state is -/
theorem sAdd_ex {σ : Nat → Nat} {w l m : Nat} {P : (Nat → Nat) → Prop} (hP : ∀ e e' : Nat → Nat, e 0 = e' 0 → e 1 = e' 1 → e 2 = e' 2 → e 3 = e' 3 → (P e ↔ P e')) : ∀ (E : List (Nat → Nat)), (∃ e ∈ sAdd E σ w l m, P e) ↔ (∃ e ∈ E, P e) ∨ P (eOf σ w l m) := by
  intro E
  induction E with
  | nil =>
    constructor
    · rintro ⟨e, he, h⟩
      rw [show sAdd [] σ w l m = [eOf σ w l m] from rfl, List.mem_singleton] at he
      rw [he] at h; exact Or.inr h
    · rintro (⟨e, he, h⟩ | h)
      · cases he
      · exact ⟨_, List.mem_singleton.mpr rfl, h⟩
  | cons a E ih =>
    rw [show sAdd (a :: E) σ w l m = (if keq a σ then eMg a w l m :: E else a :: sAdd E σ w l m) from rfl]
    split
    · rename_i q
      have e1 : P (eMg a w l m) ↔ P a := hP _ _ rfl rfl rfl rfl
      have e2 : P (eOf σ w l m) ↔ P a := hP _ _ q.1.symm q.2.1.symm q.2.2.1.symm q.2.2.2.symm
      simp only [List.mem_cons, exists_eq_or_imp, e1, e2]
      constructor
      · rintro (h | h)
        · exact Or.inr h
        · exact Or.inl (Or.inr h)
      · rintro ((h | h) | h)
        · exact Or.inl h
        · exact Or.inr h
        · exact Or.inl h
    · simp only [List.mem_cons, exists_eq_or_imp, ih, or_assoc]
/-- unlike one another -/
def Unl : List (Nat → Nat) → Prop
  | [] => True
  | e :: E => (∀ e' ∈ E, ¬ (e 0 = e' 0 ∧ e 1 = e' 1 ∧ e 2 = e' 2 ∧ e 3 = e' 3)) ∧ Unl E
theorem sAdd_unl {σ : Nat → Nat} {w l m : Nat} : ∀ (E : List (Nat → Nat)), Unl E → Unl (sAdd E σ w l m) := by
  intro E
  induction E with
  | nil => intro _; exact ⟨fun e h => (by cases h), trivial⟩
  | cons a E ih =>
    intro h
    rw [show sAdd (a :: E) σ w l m = (if keq a σ then eMg a w l m :: E else a :: sAdd E σ w l m) from rfl]
    split
    · exact ⟨h.1, h.2⟩
    · rename_i q
      refine ⟨?_, ih h.2⟩
      refine sAdd_all (P := fun e' => ¬ (a 0 = e' 0 ∧ a 1 = e' 1 ∧ a 2 = e' 2 ∧ a 3 = e' 3)) q ?_ E h.1
      intro e he _
      exact he
def lS (f : (Nat → Nat) → Nat) : List (Nat → Nat) → Nat
  | [] => 0
  | e :: E => f e + lS f E
theorem sAdd_sum {σ : Nat → Nat} {w l m : Nat} {g : (Nat → Nat) → Nat} (hg : ∀ e e' : Nat → Nat, e 0 = e' 0 → e 1 = e' 1 → e 2 = e' 2 → e 3 = e' 3 → g e = g e') : ∀ (E : List (Nat → Nat)), lS (fun e => e 4 * g e) (sAdd E σ w l m) = lS (fun e => e 4 * g e) E + w * g (eOf σ w l m) := by
  intro E
  induction E with
  | nil => show w * g (eOf σ w l m) + 0 = 0 + w * g (eOf σ w l m); omega
  | cons a E ih =>
    rw [show sAdd (a :: E) σ w l m = (if keq a σ then eMg a w l m :: E else a :: sAdd E σ w l m) from rfl]
    split
    · rename_i q
      show (a 4 + w) * g (eMg a w l m) + lS (fun e => e 4 * g e) E = a 4 * g a + lS (fun e => e 4 * g e) E + w * g (eOf σ w l m)
      rw [hg (eMg a w l m) a rfl rfl rfl rfl, hg (eOf σ w l m) a q.1.symm q.2.1.symm q.2.2.1.symm q.2.2.2.symm, Nat.add_mul]
      omega
    · show a 4 * g a + lS (fun e => e 4 * g e) (sAdd E σ w l m) = a 4 * g a + lS (fun e => e 4 * g e) E + w * g (eOf σ w l m)
      rw [ih]; omega
/-- the least over the entries, B if there is none -/
def lMin (B : Nat) (f : (Nat → Nat) → Nat) : List (Nat → Nat) → Nat
  | [] => B
  | e :: E => min (f e) (lMin B f E)
def lMax (f : (Nat → Nat) → Nat) : List (Nat → Nat) → Nat
  | [] => 0
  | e :: E => max (f e) (lMax f E)
theorem sAdd_min {σ : Nat → Nat} {w l m B : Nat} {g : (Nat → Nat) → Nat} (hg : ∀ e e' : Nat → Nat, e 0 = e' 0 → e 1 = e' 1 → e 2 = e' 2 → e 3 = e' 3 → g e = g e') : ∀ (E : List (Nat → Nat)), lMin B (fun e => e 5 + g e) (sAdd E σ w l m) = min (lMin B (fun e => e 5 + g e) E) (l + g (eOf σ w l m)) := by
  intro E
  induction E with
  | nil => show min (l + g (eOf σ w l m)) B = min B (l + g (eOf σ w l m)); omega
  | cons a E ih =>
    rw [show sAdd (a :: E) σ w l m = (if keq a σ then eMg a w l m :: E else a :: sAdd E σ w l m) from rfl]
    split
    · rename_i q
      show min (sMin (a 5) l + g (eMg a w l m)) (lMin B (fun e => e 5 + g e) E) = min (min (a 5 + g a) (lMin B (fun e => e 5 + g e) E)) (l + g (eOf σ w l m))
      rw [hg (eMg a w l m) a rfl rfl rfl rfl, hg (eOf σ w l m) a q.1.symm q.2.1.symm q.2.2.1.symm q.2.2.2.symm, sMin_eq]
      omega
    · show min (a 5 + g a) (lMin B (fun e => e 5 + g e) (sAdd E σ w l m)) = min (min (a 5 + g a) (lMin B (fun e => e 5 + g e) E)) (l + g (eOf σ w l m))
      rw [ih]; omega
theorem sAdd_max {σ : Nat → Nat} {w l m : Nat} {g : (Nat → Nat) → Nat} (hg : ∀ e e' : Nat → Nat, e 0 = e' 0 → e 1 = e' 1 → e 2 = e' 2 → e 3 = e' 3 → g e = g e') : ∀ (E : List (Nat → Nat)), lMax (fun e => e 6 + g e) (sAdd E σ w l m) = max (lMax (fun e => e 6 + g e) E) (m + g (eOf σ w l m)) := by
  intro E
  induction E with
  | nil => show max (m + g (eOf σ w l m)) 0 = max 0 (m + g (eOf σ w l m)); omega
  | cons a E ih =>
    rw [show sAdd (a :: E) σ w l m = (if keq a σ then eMg a w l m :: E else a :: sAdd E σ w l m) from rfl]
    split
    · rename_i q
      show max (sMax (a 6) m + g (eMg a w l m)) (lMax (fun e => e 6 + g e) E) = max (max (a 6 + g a) (lMax (fun e => e 6 + g e) E)) (m + g (eOf σ w l m))
      rw [hg (eMg a w l m) a rfl rfl rfl rfl, hg (eOf σ w l m) a q.1.symm q.2.1.symm q.2.2.1.symm q.2.2.2.symm, sMax_eq]
      omega
    · show max (a 6 + g a) (lMax (fun e => e 6 + g e) (sAdd E σ w l m)) = max (max (a 6 + g a) (lMax (fun e => e 6 + g e) E)) (m + g (eOf σ w l m))
      rw [ih]; omega
/-! The tree. An account α: 0 the sum paid, 1 the sum knocked, 2 the least, 3 the most, 4 + d what ends in the period d. -/
def sT (N : Nat → Nat) (t : Nat) (e : Nat → Nat) (up : Nat) : Nat → Nat := sMv N (eSt (t - 1) e) up
def sWh (N : Nat → Nat) (t : Nat) (e : Nat → Nat) (up : Nat) : Nat := e 4 * sW N up * 10 ^ (N 8 - t)
def sAcc (N : Nat → Nat) (t : Nat) (e : Nat → Nat) (up : Nat) (α : Nat → Nat) : Nat → Nat := fun k => match k with
  | 0 => α 0 + sWh N t e up * (sT N t e up) 6
  | 1 => if (sT N t e up) 5 = 0 then α 1 else if (sT N t e up) 4 = 0 then α 1 else α 1 + sWh N t e up
  | 2 => if (sT N t e up) 5 = 0 then α 2 else sMin (α 2) (e 5 + (sT N t e up) 6)
  | 3 => if (sT N t e up) 5 = 0 then α 3 else sMax (α 3) (e 6 + (sT N t e up) 6)
  | d + 4 => if (sT N t e up) 5 = 0 then α (d + 4) else if d = t then α (d + 4) + sWh N t e up else α (d + 4)
def sF (N : Nat → Nat) (t : Nat) (e : Nat → Nat) (up : Nat) (F : List (Nat → Nat)) : List (Nat → Nat) :=
  if (sT N t e up) 5 = 0 ∨ t = N 8 then sAdd F (sT N t e up) (e 4 * sW N up) (e 5 + (sT N t e up) 6) (e 6 + (sT N t e up) 6) else F
def sGB (N : Nat → Nat) (t : Nat) (e : Nat → Nat) (up : Nat) (s : List (Nat → Nat) × (Nat → Nat)) : List (Nat → Nat) × (Nat → Nat) := (sF N t e up s.1, sAcc N t e up s.2)
def sGP (N : Nat → Nat) (t : Nat) (E : List (Nat → Nat)) (s : List (Nat → Nat) × (Nat → Nat)) : List (Nat → Nat) × (Nat → Nat) := E.foldl (fun s e => sGB N t e 0 (sGB N t e 1 s)) s
def sA0 : Nat → Nat := fun k => if k = 2 then 2147483647 else 0
def sGr (N : Nat → Nat) (σ : Nat → Nat) : Nat → List (Nat → Nat) × (Nat → Nat)
  | 0 => ([eOf σ 1 0 0], sA0)
  | n + 1 => sGP N (σ 0 + n + 1) (sGr N σ n).1 ([], (sGr N σ n).2)
/-- entries within the machine's reach, behind the period t -/
def Eok (t : Nat) (E : List (Nat → Nat)) : Prop := ∀ e ∈ E, Sok (eSt t e) ∧ e 5 ≤ 6000 * t ∧ e 6 ≤ 6000 * t
theorem sT_ok {N : Nat → Nat} {t : Nat} {e : Nat → Nat} {up : Nat} (hN : Nok N) (ht : 1 ≤ t) (ht8 : t ≤ N 8) (he : Sok (eSt (t - 1) e)) : Sok (sT N t e up) ∧ (sT N t e up) 0 = t := by
  have h8 : N 8 ≤ 8 := hN.2.2.2.2.2.1
  refine ⟨sMv_ok hN he (by show t - 1 < 8; omega), ?_⟩
  show t - 1 + 1 = t
  omega
theorem sF_ok {N : Nat → Nat} {t : Nat} {e : Nat → Nat} {up : Nat} {F : List (Nat → Nat)} (hN : Nok N) (ht : 1 ≤ t) (ht8 : t ≤ N 8) (he : Sok (eSt (t - 1) e) ∧ e 5 ≤ 6000 * (t - 1) ∧ e 6 ≤ 6000 * (t - 1)) (hF : Eok t F) : Eok t (sF N t e up F) := by
  obtain ⟨hs, h0⟩ := sT_ok (up := up) hN ht ht8 he.1
  have h6 : (sT N t e up) 6 ≤ 6000 := hs.2.2.2.2.2.2.2.2.1
  unfold sF
  split
  · refine sAdd_all ?_ ?_ F hF
    · refine ⟨?_, ?_, ?_⟩
      · obtain ⟨a0, a1, a2, a3, a4, a5, a6, -, -, -⟩ := hs
        rw [h0] at a0 a2 a4 a5
        exact ⟨a0, a1, a2, a3, a4, a5, a6, Nat.zero_le _, Nat.zero_le _, Nat.zero_le _⟩
      · show e 5 + (sT N t e up) 6 ≤ 6000 * t; omega
      · show e 6 + (sT N t e up) 6 ≤ 6000 * t; omega
    · rintro a ⟨b1, b2, b3⟩ -
      refine ⟨b1, ?_, ?_⟩
      · show sMin (a 5) _ ≤ _; rw [sMin_eq]; omega
      · show sMax (a 6) _ ≤ _; rw [sMax_eq]; omega
  · exact hF
theorem sF_len {N : Nat → Nat} {t : Nat} {e : Nat → Nat} {up : Nat} {F : List (Nat → Nat)} : (sF N t e up F).length ≤ F.length + 1 := by
  unfold sF
  split
  · exact sAdd_len F
  · omega
theorem sF_unl {N : Nat → Nat} {t : Nat} {e : Nat → Nat} {up : Nat} {F : List (Nat → Nat)} (h : Unl F) : Unl (sF N t e up F) := by
  unfold sF
  split
  · exact sAdd_unl F h
  · exact h
theorem sGP_ok {N : Nat → Nat} {t : Nat} (hN : Nok N) (ht : 1 ≤ t) (ht8 : t ≤ N 8) : ∀ (E : List (Nat → Nat)) (s : List (Nat → Nat) × (Nat → Nat)), Eok (t - 1) E → Eok t s.1 → Unl s.1 → Eok t (sGP N t E s).1 ∧ (sGP N t E s).1.length ≤ s.1.length + 2 * E.length ∧ Unl (sGP N t E s).1 := by
  intro E
  induction E with
  | nil => intro s _ h u; exact ⟨h, Nat.le_refl _, u⟩
  | cons e E ih =>
    intro s hE hs hu
    have he := hE e List.mem_cons_self
    have a := sF_ok (up := 1) hN ht ht8 he hs
    have b := sF_ok (up := 0) hN ht ht8 he a
    obtain ⟨c1, c2, c3⟩ := ih (sGB N t e 0 (sGB N t e 1 s)) (fun x hx => hE x (List.mem_cons_of_mem _ hx)) b (sF_unl (sF_unl hu))
    refine ⟨c1, Nat.le_trans c2 ?_, c3⟩
    have l1 : (sF N t e 1 s.1).length ≤ s.1.length + 1 := sF_len
    have l2 : (sF N t e 0 (sF N t e 1 s.1)).length ≤ (sF N t e 1 s.1).length + 1 := sF_len
    show (sF N t e 0 (sF N t e 1 s.1)).length + 2 * E.length ≤ s.1.length + 2 * (E.length + 1)
    omega
theorem sGr_ok {N σ : Nat → Nat} (hN : Nok N) (hs : Sok σ) : ∀ n, σ 0 + n ≤ N 8 → Eok (σ 0 + n) (sGr N σ n).1 ∧ (sGr N σ n).1.length ≤ 2 ^ n ∧ Unl (sGr N σ n).1 := by
  intro n
  induction n with
  | zero =>
    intro _
    refine ⟨?_, Nat.le_refl _, ⟨fun e h => (by cases h), trivial⟩⟩
    intro e he
    rw [show (sGr N σ 0).1 = [eOf σ 1 0 0] from rfl, List.mem_singleton] at he
    rw [he]
    obtain ⟨a0, a1, a2, a3, a4, a5, a6, -, -, -⟩ := hs
    exact ⟨⟨a0, a1, a2, a3, a4, a5, a6, Nat.zero_le _, Nat.zero_le _, Nat.zero_le _⟩, Nat.zero_le _, Nat.zero_le _⟩
  | succ n ih =>
    intro h
    obtain ⟨a, b, c⟩ := ih (by omega)
    obtain ⟨d, e, f⟩ := sGP_ok (t := σ 0 + n + 1) hN (by omega) (by omega) (sGr N σ n).1 ([], (sGr N σ n).2) a (fun x hx => by cases hx) trivial
    refine ⟨d, Nat.le_trans e ?_, f⟩
    rw [Nat.pow_succ]
    show 0 + 2 * (sGr N σ n).1.length ≤ _
    omega
theorem eOf_like {τ : Nat → Nat} {t w l m : Nat} (h5 : τ 5 = 0) (h0 : τ 0 = t) : Like (eSt t (eOf τ w l m)) τ := ⟨h0.symm, rfl, rfl, rfl, rfl, h5.symm⟩
/-- one branch, for an account that grows by whole weights times a cost -/
theorem sGB_sum {N : Nat → Nat} {c : (Nat → Nat) → Nat} {v : (Nat → Nat) → Nat} {t : Nat} {e : Nat → Nat} {up : Nat} (hN : Nok N) (hc : Cok N c) (hv : ∀ α, v (sAcc N t e up α) = v α + sWh N t e up * c (sT N t e up)) (ht : 1 ≤ t) (ht8 : t ≤ N 8) (he : Sok (eSt (t - 1) e)) (s : List (Nat → Nat) × (Nat → Nat)) :
    v (sGB N t e up s).2 + lS (fun e => e 4 * sPhi N c (N 8 - t) (eSt t e)) (sGB N t e up s).1 = v s.2 + lS (fun e => e 4 * sPhi N c (N 8 - t) (eSt t e)) s.1 + e 4 * (sW N up * (10 ^ (N 8 - t) * c (sT N t e up) + (if (sT N t e up) 5 = 0 then sPhi N c (N 8 - t) (sT N t e up) else 0))) := by
  show v (sAcc N t e up s.2) + lS (fun e => e 4 * sPhi N c (N 8 - t) (eSt t e)) (sF N t e up s.1) = _
  rw [hv]
  have hx : sWh N t e up * c (sT N t e up) = e 4 * (sW N up * (10 ^ (N 8 - t) * c (sT N t e up))) := by unfold sWh; simp only [Nat.mul_assoc]
  obtain ⟨-, h0⟩ := sT_ok (up := up) hN ht ht8 he
  unfold sF
  rw [hx]
  by_cases q : (sT N t e up) 5 = 0
  · rw [if_pos (Or.inl q), if_pos q, sAdd_sum (g := fun e => sPhi N c (N 8 - t) (eSt t e)) (fun a b h0 h1 h2 h3 => by show sPhi N c (N 8 - t) (eSt t a) = sPhi N c (N 8 - t) (eSt t b); unfold eSt; rw [h0, h1, h2, h3])]
    show _ + (_ + e 4 * sW N up * sPhi N c (N 8 - t) (eSt t (eOf (sT N t e up) (e 4 * sW N up) (e 5 + (sT N t e up) 6) (e 6 + (sT N t e up) 6)))) = _
    rw [sPhi_like hc _ _ _ (eOf_like q h0), Nat.mul_assoc (e 4) (sW N up) (sPhi N c (N 8 - t) (sT N t e up))]
    simp only [Nat.mul_add]
    omega
  · rw [if_neg q]
    by_cases q2 : t = N 8
    · rw [if_pos (Or.inr q2), sAdd_sum (g := fun e => sPhi N c (N 8 - t) (eSt t e)) (fun a b h0 h1 h2 h3 => by show sPhi N c (N 8 - t) (eSt t a) = sPhi N c (N 8 - t) (eSt t b); unfold eSt; rw [h0, h1, h2, h3])]
      have z : N 8 - t = 0 := by omega
      show _ + (_ + e 4 * sW N up * sPhi N c (N 8 - t) (eSt t (eOf (sT N t e up) (e 4 * sW N up) (e 5 + (sT N t e up) 6) (e 6 + (sT N t e up) 6)))) = _
      have z2 : ∀ x, sPhi N c (N 8 - t) x = 0 := fun x => by rw [z]; rfl
      rw [z2 (eSt t _), Nat.mul_zero, Nat.add_zero, Nat.add_zero]
      omega
    · rw [if_neg (by intro h; rcases h with h | h; exact q h; exact q2 h), Nat.add_zero]
      omega
theorem sGP_sum {N : Nat → Nat} {c : (Nat → Nat) → Nat} {v : (Nat → Nat) → Nat} {t : Nat} (hN : Nok N) (hc : Cok N c) (ht : 1 ≤ t) (ht8 : t ≤ N 8) (hv : ∀ e up α, up ≤ 1 → Sok (eSt (t - 1) e) → v (sAcc N t e up α) = v α + sWh N t e up * c (sT N t e up)) : ∀ (E : List (Nat → Nat)) (s : List (Nat → Nat) × (Nat → Nat)), Eok (t - 1) E →
    v (sGP N t E s).2 + lS (fun e => e 4 * sPhi N c (N 8 - t) (eSt t e)) (sGP N t E s).1 = v s.2 + lS (fun e => e 4 * sPhi N c (N 8 - t) (eSt t e)) s.1 + lS (fun e => e 4 * sPhi N c (N 8 - (t - 1)) (eSt (t - 1) e)) E := by
  intro E
  induction E with
  | nil => intro s _; rfl
  | cons e E ih =>
    intro s hE
    have he := (hE e List.mem_cons_self).1
    have a := sGB_sum (up := 1) hN hc (fun α => hv e 1 α (by omega) he) ht ht8 he s
    have b := sGB_sum (up := 0) hN hc (fun α => hv e 0 α (by omega) he) ht ht8 he (sGB N t e 1 s)
    have g := ih (sGB N t e 0 (sGB N t e 1 s)) (fun x hx => hE x (List.mem_cons_of_mem _ hx))
    have z : N 8 - (t - 1) = N 8 - t + 1 := by omega
    have w : sPhi N c (N 8 - (t - 1)) (eSt (t - 1) e) = sW N 1 * (10 ^ (N 8 - t) * c (sT N t e 1) + (if (sT N t e 1) 5 = 0 then sPhi N c (N 8 - t) (sT N t e 1) else 0)) + sW N 0 * (10 ^ (N 8 - t) * c (sT N t e 0) + (if (sT N t e 0) 5 = 0 then sPhi N c (N 8 - t) (sT N t e 0) else 0)) := by rw [z]; rfl
    show v (sGP N t E (sGB N t e 0 (sGB N t e 1 s))).2 + lS _ (sGP N t E (sGB N t e 0 (sGB N t e 1 s))).1 = v s.2 + lS _ s.1 + (e 4 * sPhi N c (N 8 - (t - 1)) (eSt (t - 1) e) + lS _ E)
    rw [g, b, a, w, Nat.mul_add (e 4)]
    omega
theorem sGr_sum {N σ : Nat → Nat} {c : (Nat → Nat) → Nat} {v : (Nat → Nat) → Nat} (hN : Nok N) (hs : Sok σ) (h5 : σ 5 = 0) (hc : Cok N c) (hv0 : v sA0 = 0) (hv : ∀ t e up α, 1 ≤ t → t ≤ N 8 → up ≤ 1 → Sok (eSt (t - 1) e) → v (sAcc N t e up α) = v α + sWh N t e up * c (sT N t e up)) : ∀ n, σ 0 + n ≤ N 8 →
    v (sGr N σ n).2 + lS (fun e => e 4 * sPhi N c (N 8 - (σ 0 + n)) (eSt (σ 0 + n) e)) (sGr N σ n).1 = sPhi N c (N 8 - σ 0) σ := by
  intro n
  induction n with
  | zero =>
    intro _
    show v sA0 + (1 * sPhi N c (N 8 - σ 0) (eSt (σ 0) (eOf σ 1 0 0)) + 0) = _
    rw [hv0, sPhi_like hc _ _ _ (eOf_like h5 rfl)]
    omega
  | succ n ih =>
    intro h
    have a := ih (by omega)
    have b := sGP_sum (c := c) (v := v) (t := σ 0 + n + 1) hN hc (by omega) (by omega) (fun e up α h1 h2 => hv _ e up α (by omega) (by omega) h1 h2) (sGr N σ n).1 ([], (sGr N σ n).2) (sGr_ok hN hs n (by omega)).1
    show v (sGP N (σ 0 + n + 1) (sGr N σ n).1 ([], (sGr N σ n).2)).2 + lS _ (sGP N (σ 0 + n + 1) (sGr N σ n).1 ([], (sGr N σ n).2)).1 = _
    rw [← a]
    refine Eq.trans b ?_
    show v (sGr N σ n).2 + 0 + lS _ (sGr N σ n).1 = _
    rw [Nat.add_zero]
    rfl
theorem lS_zero {f : (Nat → Nat) → Nat} (h : ∀ e, f e = 0) : ∀ E, lS f E = 0 := by
  intro E
  induction E with
  | nil => rfl
  | cons e E ih => show f e + lS f E = 0; rw [h, ih]
/-- the sums that the tree finds -/
theorem sTree_sum {N σ : Nat → Nat} {c : (Nat → Nat) → Nat} {v : (Nat → Nat) → Nat} (hN : Nok N) (hs : Sok σ) (h5 : σ 5 = 0) (h8 : σ 0 ≤ N 8) (hc : Cok N c) (hv0 : v sA0 = 0) (hv : ∀ t e up α, 1 ≤ t → t ≤ N 8 → up ≤ 1 → Sok (eSt (t - 1) e) → v (sAcc N t e up α) = v α + sWh N t e up * c (sT N t e up)) : v (sGr N σ (N 8 - σ 0)).2 = sPhi N c (N 8 - σ 0) σ := by
  have a := sGr_sum hN hs h5 hc hv0 hv (N 8 - σ 0) (by omega)
  rw [lS_zero (fun e => by rw [show N 8 - (σ 0 + (N 8 - σ 0)) = 0 by omega]; rfl), Nat.add_zero] at a
  exact a
theorem sTree_pay {N σ : Nat → Nat} (hN : Nok N) (hs : Sok σ) (h5 : σ 5 = 0) (h8 : σ 0 ≤ N 8) : (sGr N σ (N 8 - σ 0)).2 0 = sPhi N cPay (N 8 - σ 0) σ :=
  sTree_sum (v := fun α => α 0) hN hs h5 h8 (cPay_ok N) rfl (fun t e up α _ _ _ _ => rfl)
theorem sTree_kno {N σ : Nat → Nat} (hN : Nok N) (hs : Sok σ) (h5 : σ 5 = 0) (h8 : σ 0 ≤ N 8) : (sGr N σ (N 8 - σ 0)).2 1 = sPhi N cKno (N 8 - σ 0) σ := by
  refine sTree_sum (v := fun α => α 1) hN hs h5 h8 (cKno_ok N) rfl (fun t e up α h1 h2 _ he => ?_)
  have h4 : (sT N t e up) 4 ≤ 1 := (sT_ok (up := up) hN h1 h2 he).1.2.2.2.2.2.2.1
  show (if (sT N t e up) 5 = 0 then α 1 else if (sT N t e up) 4 = 0 then α 1 else α 1 + sWh N t e up) = α 1 + sWh N t e up * (if (sT N t e up) 5 = 0 then 0 else (sT N t e up) 4)
  split
  · rfl
  · split
    · rename_i q; rw [q]; rfl
    · rename_i q; rw [show (sT N t e up) 4 = 1 by omega, Nat.mul_one]
theorem sTree_end {N σ : Nat → Nat} (d : Nat) (hN : Nok N) (hs : Sok σ) (h5 : σ 5 = 0) (h8 : σ 0 ≤ N 8) : (sGr N σ (N 8 - σ 0)).2 (d + 4) = sPhi N (cEnd d) (N 8 - σ 0) σ := by
  refine sTree_sum (v := fun α => α (d + 4)) hN hs h5 h8 (cEnd_ok N d) (by show (if d + 4 = 2 then 2147483647 else 0) = 0; rw [if_neg (by omega)]) (fun t e up α h1 h2 _ he => ?_)
  have h0 := (sT_ok (up := up) hN h1 h2 he).2
  show (if (sT N t e up) 5 = 0 then α (d + 4) else if d = t then α (d + 4) + sWh N t e up else α (d + 4)) = α (d + 4) + sWh N t e up * (if (sT N t e up) 5 = 0 then 0 else if (sT N t e up) 0 = d then 1 else 0)
  rw [h0]
  split
  · rfl
  · by_cases q : d = t
    · rw [if_pos q, if_pos q.symm, Nat.mul_one]
    · rw [if_neg q, if_neg (fun h => q h.symm)]; rfl
/-! The least, the most and the unlike states that the tree finds. -/
def sBig : Nat := 2147483647
def gLo (N : Nat → Nat) (n : Nat) (σ : Nat → Nat) : Nat := if n = 0 then sBig else sLo N n σ
def mLo (N : Nat → Nat) (t : Nat) (s : List (Nat → Nat) × (Nat → Nat)) : Nat := min (s.2 2) (lMin sBig (fun e => e 5 + gLo N (N 8 - t) (eSt t e)) s.1)
def mHi (N : Nat → Nat) (t : Nat) (s : List (Nat → Nat) × (Nat → Nat)) : Nat := max (s.2 3) (lMax (fun e => e 6 + sHi N (N 8 - t) (eSt t e)) s.1)
theorem lMin_le {B : Nat} {f : (Nat → Nat) → Nat} : ∀ E, lMin B f E ≤ B := by
  intro E
  induction E with
  | nil => exact Nat.le_refl B
  | cons e E ih => show min (f e) (lMin B f E) ≤ B; omega
theorem eSt_c {t : Nat} {a b : Nat → Nat} (h0 : a 0 = b 0) (h1 : a 1 = b 1) (h2 : a 2 = b 2) (h3 : a 3 = b 3) : eSt t a = eSt t b := by unfold eSt; rw [h0, h1, h2, h3]
theorem sGB_lo {N : Nat → Nat} {t : Nat} {e : Nat → Nat} {up : Nat} (hN : Nok N) (ht : 1 ≤ t) (ht8 : t ≤ N 8) (he : Sok (eSt (t - 1) e)) (s : List (Nat → Nat) × (Nat → Nat)) :
    mLo N t (sGB N t e up s) = min (mLo N t s) (e 5 + ((sT N t e up) 6 + (if (sT N t e up) 5 = 0 then gLo N (N 8 - t) (sT N t e up) else 0))) := by
  obtain ⟨-, h0⟩ := sT_ok (up := up) hN ht ht8 he
  have hg : ∀ a b : Nat → Nat, a 0 = b 0 → a 1 = b 1 → a 2 = b 2 → a 3 = b 3 → gLo N (N 8 - t) (eSt t a) = gLo N (N 8 - t) (eSt t b) := fun a b h0 h1 h2 h3 => by rw [eSt_c h0 h1 h2 h3]
  show min (if (sT N t e up) 5 = 0 then s.2 2 else sMin (s.2 2) (e 5 + (sT N t e up) 6)) (lMin sBig (fun e => e 5 + gLo N (N 8 - t) (eSt t e)) (sF N t e up s.1)) = min (min (s.2 2) (lMin sBig (fun e => e 5 + gLo N (N 8 - t) (eSt t e)) s.1)) _
  unfold sF
  by_cases q : (sT N t e up) 5 = 0
  · rw [if_pos q, if_pos (Or.inl q), if_pos q, sAdd_min hg]
    have z : gLo N (N 8 - t) (eSt t (eOf (sT N t e up) (e 4 * sW N up) (e 5 + (sT N t e up) 6) (e 6 + (sT N t e up) 6))) = gLo N (N 8 - t) (sT N t e up) := by
      unfold gLo
      split
      · rfl
      · exact (sLo_like _ _ _ (eOf_like q h0)).1
    rw [z]
    omega
  · rw [if_neg q, if_neg q, sMin_eq]
    split
    · rw [sAdd_min hg]
      omega
    · omega
theorem sGP_lo {N : Nat → Nat} {t : Nat} (hN : Nok N) (ht : 1 ≤ t) (ht8 : t ≤ N 8) : ∀ (E : List (Nat → Nat)) (s : List (Nat → Nat) × (Nat → Nat)), Eok (t - 1) E → s.2 2 ≤ sBig →
    mLo N t (sGP N t E s) = min (mLo N t s) (lMin sBig (fun e => e 5 + gLo N (N 8 - (t - 1)) (eSt (t - 1) e)) E) ∧ (sGP N t E s).2 2 ≤ sBig := by
  intro E
  induction E with
  | nil => intro s _ h; refine ⟨?_, h⟩; show mLo N t s = min (mLo N t s) sBig; unfold mLo; omega
  | cons e E ih =>
    intro s hE h
    have he := (hE e List.mem_cons_self).1
    have a := sGB_lo (up := 1) hN ht ht8 he s
    have b := sGB_lo (up := 0) hN ht ht8 he (sGB N t e 1 s)
    have h1 : (sGB N t e 1 s).2 2 ≤ sBig := by
      show (if (sT N t e 1) 5 = 0 then s.2 2 else sMin (s.2 2) (e 5 + (sT N t e 1) 6)) ≤ sBig
      rw [sMin_eq]; split <;> omega
    have h2 : (sGB N t e 0 (sGB N t e 1 s)).2 2 ≤ sBig := by
      show (if (sT N t e 0) 5 = 0 then (sGB N t e 1 s).2 2 else sMin ((sGB N t e 1 s).2 2) (e 5 + (sT N t e 0) 6)) ≤ sBig
      rw [sMin_eq]; split <;> omega
    obtain ⟨g, g2⟩ := ih (sGB N t e 0 (sGB N t e 1 s)) (fun x hx => hE x (List.mem_cons_of_mem _ hx)) h2
    refine ⟨?_, g2⟩
    show mLo N t (sGP N t E (sGB N t e 0 (sGB N t e 1 s))) = min (mLo N t s) (min (e 5 + gLo N (N 8 - (t - 1)) (eSt (t - 1) e)) (lMin sBig (fun e => e 5 + gLo N (N 8 - (t - 1)) (eSt (t - 1) e)) E))
    rw [g, b, a]
    have z : N 8 - (t - 1) = N 8 - t + 1 := by omega
    have key : ∀ up, (if (sT N t e up) 5 = 0 then gLo N (N 8 - t) (sT N t e up) else 0) = (if (sT N t e up) 5 = 0 then sLo N (N 8 - t) (sT N t e up) else 0) := by
      intro up
      split
      · rename_i q
        unfold gLo
        rw [if_neg]
        intro z0
        have : (sT N t e up) 5 = 1 := sMv_last (by show N 8 ≤ t - 1 + 1; omega)
        omega
      · rfl
    have w : gLo N (N 8 - (t - 1)) (eSt (t - 1) e) = min ((sT N t e 1) 6 + (if (sT N t e 1) 5 = 0 then sLo N (N 8 - t) (sT N t e 1) else 0)) ((sT N t e 0) 6 + (if (sT N t e 0) 5 = 0 then sLo N (N 8 - t) (sT N t e 0) else 0)) := by
      unfold gLo; rw [if_neg (by omega), z]; rfl
    rw [w, key 1, key 0]
    omega
theorem sGr_lo {N σ : Nat → Nat} (hN : Nok N) (hs : Sok σ) (h5 : σ 5 = 0) : ∀ n, σ 0 + n ≤ N 8 → mLo N (σ 0 + n) (sGr N σ n) = min sBig (gLo N (N 8 - σ 0) σ) ∧ (sGr N σ n).2 2 ≤ sBig := by
  intro n
  induction n with
  | zero =>
    intro _
    refine ⟨?_, Nat.le_refl _⟩
    show min sBig (min (0 + gLo N (N 8 - σ 0) (eSt (σ 0) (eOf σ 1 0 0))) sBig) = _
    have z : gLo N (N 8 - σ 0) (eSt (σ 0) (eOf σ 1 0 0)) = gLo N (N 8 - σ 0) σ := by
      unfold gLo
      split
      · rfl
      · exact (sLo_like _ _ _ (eOf_like h5 rfl)).1
    rw [z]
    omega
  | succ n ih =>
    intro h
    obtain ⟨a, a2⟩ := ih (by omega)
    obtain ⟨b, b2⟩ := sGP_lo (t := σ 0 + n + 1) hN (by omega) (by omega) (sGr N σ n).1 ([], (sGr N σ n).2) (sGr_ok hN hs n (by omega)).1 a2
    refine ⟨?_, b2⟩
    refine Eq.trans b (Eq.trans ?_ a)
    have c := @lMin_le sBig (fun e => e 5 + gLo N (N 8 - (σ 0 + n)) (eSt (σ 0 + n) e)) (sGr N σ n).1
    show min (min ((sGr N σ n).2 2) sBig) (lMin sBig (fun e => e 5 + gLo N (N 8 - (σ 0 + n)) (eSt (σ 0 + n) e)) (sGr N σ n).1) = min ((sGr N σ n).2 2) (lMin sBig (fun e => e 5 + gLo N (N 8 - (σ 0 + n)) (eSt (σ 0 + n) e)) (sGr N σ n).1)
    omega
theorem sG_b {N : Nat → Nat} (hN : Nok N) : ∀ n (σ : Nat → Nat) (r : Nat), Sok σ → σ 0 + n ≤ 8 → sG N cPay n σ r ≤ 6000 * n := by
  intro n
  induction n with
  | zero => intro σ r _ _; exact Nat.zero_le _
  | succ n ih =>
    intro σ r hs h
    show (if σ 5 = 0 then cPay (sMv N σ (r % 2)) + sG N cPay n (sMv N σ (r % 2)) (r / 2) else 0) ≤ _
    split
    · have a := sMv_ok (up := r % 2) hN hs (by omega)
      have b := ih (sMv N σ (r % 2)) (r / 2) a (by show σ 0 + 1 + n ≤ 8; omega)
      have c : cPay (sMv N σ (r % 2)) ≤ 6000 := a.2.2.2.2.2.2.2.2.1
      omega
    · exact Nat.zero_le _
theorem sTree_lo {N σ : Nat → Nat} (hN : Nok N) (hs : Sok σ) (h5 : σ 5 = 0) (h8 : σ 0 < N 8) : (sGr N σ (N 8 - σ 0)).2 2 = sLo N (N 8 - σ 0) σ := by
  obtain ⟨a, a2⟩ := sGr_lo hN hs h5 (N 8 - σ 0) (by omega)
  have h88 : N 8 ≤ 8 := hN.2.2.2.2.2.1
  obtain ⟨r, -, e⟩ := sLo_at (N := N) (N 8 - σ 0) σ h5
  have b := sG_b hN (N 8 - σ 0) σ r hs (by omega)
  have c : gLo N (N 8 - σ 0) σ = sLo N (N 8 - σ 0) σ := by unfold gLo; rw [if_neg (by omega)]
  have d : ∀ E, sBig ≤ lMin sBig (fun e => e 5 + gLo N (N 8 - (σ 0 + (N 8 - σ 0))) (eSt (σ 0 + (N 8 - σ 0)) e)) E := by
    intro E
    induction E with
    | nil => exact Nat.le_refl _
    | cons x E ih =>
      show sBig ≤ min (x 5 + gLo N (N 8 - (σ 0 + (N 8 - σ 0))) (eSt (σ 0 + (N 8 - σ 0)) x)) _
      have : gLo N (N 8 - (σ 0 + (N 8 - σ 0))) (eSt (σ 0 + (N 8 - σ 0)) x) = sBig := by unfold gLo; rw [if_pos (by omega)]
      rw [this]
      exact Nat.le_min.mpr ⟨Nat.le_add_left _ _, ih⟩
  have f := d (sGr N σ (N 8 - σ 0)).1
  unfold mLo at a
  rw [c, ← e] at a
  rw [← e]
  have g : 6000 * (N 8 - σ 0) ≤ 48000 := by omega
  unfold sBig at *
  omega
theorem sGB_hi {N : Nat → Nat} {t : Nat} {e : Nat → Nat} {up : Nat} (hN : Nok N) (ht : 1 ≤ t) (ht8 : t ≤ N 8) (he : Sok (eSt (t - 1) e)) (s : List (Nat → Nat) × (Nat → Nat)) :
    mHi N t (sGB N t e up s) = max (mHi N t s) (e 6 + ((sT N t e up) 6 + (if (sT N t e up) 5 = 0 then sHi N (N 8 - t) (sT N t e up) else 0))) := by
  obtain ⟨-, h0⟩ := sT_ok (up := up) hN ht ht8 he
  have hg : ∀ a b : Nat → Nat, a 0 = b 0 → a 1 = b 1 → a 2 = b 2 → a 3 = b 3 → sHi N (N 8 - t) (eSt t a) = sHi N (N 8 - t) (eSt t b) := fun a b h0 h1 h2 h3 => by rw [eSt_c h0 h1 h2 h3]
  show max (if (sT N t e up) 5 = 0 then s.2 3 else sMax (s.2 3) (e 6 + (sT N t e up) 6)) (lMax (fun e => e 6 + sHi N (N 8 - t) (eSt t e)) (sF N t e up s.1)) = max (max (s.2 3) (lMax (fun e => e 6 + sHi N (N 8 - t) (eSt t e)) s.1)) _
  unfold sF
  by_cases q : (sT N t e up) 5 = 0
  · rw [if_pos q, if_pos (Or.inl q), if_pos q, sAdd_max hg, (sLo_like _ _ _ (eOf_like q h0)).2]
    omega
  · rw [if_neg q, if_neg q, sMax_eq]
    by_cases q2 : t = N 8
    · rw [if_pos (Or.inr q2), sAdd_max hg]
      have z : ∀ x, sHi N (N 8 - t) x = 0 := fun x => by rw [show N 8 - t = 0 by omega]; rfl
      rw [z]
      omega
    · rw [if_neg (by intro h; rcases h with h | h; exact q h; exact q2 h)]
      omega
theorem sGP_hi {N : Nat → Nat} {t : Nat} (hN : Nok N) (ht : 1 ≤ t) (ht8 : t ≤ N 8) : ∀ (E : List (Nat → Nat)) (s : List (Nat → Nat) × (Nat → Nat)), Eok (t - 1) E →
    mHi N t (sGP N t E s) = max (mHi N t s) (lMax (fun e => e 6 + sHi N (N 8 - (t - 1)) (eSt (t - 1) e)) E) := by
  intro E
  induction E with
  | nil => intro s _; show mHi N t s = max (mHi N t s) 0; omega
  | cons e E ih =>
    intro s hE
    have he := (hE e List.mem_cons_self).1
    have a := sGB_hi (up := 1) hN ht ht8 he s
    have b := sGB_hi (up := 0) hN ht ht8 he (sGB N t e 1 s)
    have g := ih (sGB N t e 0 (sGB N t e 1 s)) (fun x hx => hE x (List.mem_cons_of_mem _ hx))
    show mHi N t (sGP N t E (sGB N t e 0 (sGB N t e 1 s))) = max (mHi N t s) (max (e 6 + sHi N (N 8 - (t - 1)) (eSt (t - 1) e)) (lMax (fun e => e 6 + sHi N (N 8 - (t - 1)) (eSt (t - 1) e)) E))
    have z : N 8 - (t - 1) = N 8 - t + 1 := by omega
    have w : sHi N (N 8 - (t - 1)) (eSt (t - 1) e) = max ((sT N t e 1) 6 + (if (sT N t e 1) 5 = 0 then sHi N (N 8 - t) (sT N t e 1) else 0)) ((sT N t e 0) 6 + (if (sT N t e 0) 5 = 0 then sHi N (N 8 - t) (sT N t e 0) else 0)) := by rw [z]; rfl
    rw [g, b, a, w]
    omega
theorem sGr_hi {N σ : Nat → Nat} (hN : Nok N) (hs : Sok σ) (h5 : σ 5 = 0) : ∀ n, σ 0 + n ≤ N 8 → mHi N (σ 0 + n) (sGr N σ n) = sHi N (N 8 - σ 0) σ := by
  intro n
  induction n with
  | zero =>
    intro _
    show max 0 (max (0 + sHi N (N 8 - σ 0) (eSt (σ 0) (eOf σ 1 0 0))) 0) = _
    rw [(sLo_like _ _ _ (eOf_like h5 rfl)).2]
    omega
  | succ n ih =>
    intro h
    have a := ih (by omega)
    have b := sGP_hi (t := σ 0 + n + 1) hN (by omega) (by omega) (sGr N σ n).1 ([], (sGr N σ n).2) (sGr_ok hN hs n (by omega)).1
    refine Eq.trans b (Eq.trans ?_ a)
    show max (max ((sGr N σ n).2 3) 0) (lMax (fun e => e 6 + sHi N (N 8 - (σ 0 + n)) (eSt (σ 0 + n) e)) (sGr N σ n).1) = max ((sGr N σ n).2 3) (lMax (fun e => e 6 + sHi N (N 8 - (σ 0 + n)) (eSt (σ 0 + n) e)) (sGr N σ n).1)
    omega
/-- in the last period every branch is counted at once -/
theorem sGP_top {N : Nat → Nat} {t : Nat} (ht : 1 ≤ t) (ht8 : t = N 8) : ∀ (E : List (Nat → Nat)) (s : List (Nat → Nat) × (Nat → Nat)), lMax (fun e => e 6 + 0) s.1 ≤ s.2 3 → lMax (fun e => e 6 + 0) (sGP N t E s).1 ≤ (sGP N t E s).2 3 := by
  intro E
  induction E with
  | nil => intro s h; exact h
  | cons e E ih =>
    intro s h
    have key : ∀ up (s : List (Nat → Nat) × (Nat → Nat)), lMax (fun e => e 6 + 0) s.1 ≤ s.2 3 → lMax (fun e => e 6 + 0) (sGB N t e up s).1 ≤ (sGB N t e up s).2 3 := by
      intro up s h
      have q : (sT N t e up) 5 = 1 := sMv_last (by show N 8 ≤ t - 1 + 1; omega)
      show lMax (fun e => e 6 + 0) (sF N t e up s.1) ≤ (if (sT N t e up) 5 = 0 then s.2 3 else sMax (s.2 3) (e 6 + (sT N t e up) 6))
      unfold sF
      rw [if_pos (Or.inr ht8), if_neg (by omega), sAdd_max (g := fun _ => 0) (fun _ _ _ _ _ _ => rfl), sMax_eq]
      omega
    exact ih _ (key 0 _ (key 1 s h))
theorem sTree_hi {N σ : Nat → Nat} (hN : Nok N) (hs : Sok σ) (h5 : σ 5 = 0) (h8 : σ 0 < N 8) : (sGr N σ (N 8 - σ 0)).2 3 = sHi N (N 8 - σ 0) σ := by
  have a := sGr_hi hN hs h5 (N 8 - σ 0) (by omega)
  obtain ⟨n, hn⟩ : ∃ n, N 8 - σ 0 = n + 1 := ⟨N 8 - σ 0 - 1, by omega⟩
  have b : lMax (fun e => e 6 + 0) (sGr N σ (n + 1)).1 ≤ (sGr N σ (n + 1)).2 3 := sGP_top (by omega) (by omega) (sGr N σ n).1 ([], (sGr N σ n).2) (Nat.zero_le _)
  rw [← a, hn]
  unfold mHi
  have z : (fun e => e 6 + sHi N (N 8 - (σ 0 + (n + 1))) (eSt (σ 0 + (n + 1)) e)) = (fun e : Nat → Nat => e 6 + 0) := by
    funext e
    rw [show N 8 - (σ 0 + (n + 1)) = 0 by omega]; rfl
  rw [z]
  omega
/-! Unlike states behind the last period. -/
def kOf (τ : Nat → Nat) : Nat × Nat × Nat × Nat := (τ 1, τ 2, τ 3, τ 4)
/-- some row from σ on goes through all periods and ends in the state κ -/
def Qst (N : Nat → Nat) (n : Nat) (σ : Nat → Nat) (κ : Nat × Nat × Nat × Nat) : Prop := ∃ r, r < 2 ^ n ∧ (sRow N n σ r) 0 = N 8 ∧ kOf (sRow N n σ r) = κ
def Rch (N : Nat → Nat) (n t : Nat) (E : List (Nat → Nat)) (κ : Nat × Nat × Nat × Nat) : Prop := ∃ e ∈ E, Qst N n (eSt t e) κ
theorem kOf_like {σ τ : Nat → Nat} (h : Like σ τ) : kOf σ = kOf τ := by unfold kOf; rw [h.2.1, h.2.2.1, h.2.2.2.1, h.2.2.2.2.1]
theorem Qst_like {N : Nat → Nat} {n : Nat} {σ τ : Nat → Nat} {κ : Nat × Nat × Nat × Nat} (h : Like σ τ) : Qst N n σ κ ↔ Qst N n τ κ := by
  constructor
  · rintro ⟨r, h1, h2, h3⟩
    have l := sRow_like (N := N) n σ τ r h
    exact ⟨r, h1, by rw [← l.1]; exact h2, by rw [← kOf_like l]; exact h3⟩
  · rintro ⟨r, h1, h2, h3⟩
    have l := sRow_like (N := N) n σ τ r h
    exact ⟨r, h1, by rw [l.1]; exact h2, by rw [kOf_like l]; exact h3⟩
theorem sF_rch {N : Nat → Nat} {t : Nat} {e : Nat → Nat} {up : Nat} {κ : Nat × Nat × Nat × Nat} (hN : Nok N) (ht : 1 ≤ t) (ht8 : t ≤ N 8) (he : Sok (eSt (t - 1) e)) (F : List (Nat → Nat)) : Rch N (N 8 - t) t (sF N t e up F) κ ↔ Rch N (N 8 - t) t F κ ∨ Qst N (N 8 - t) (sT N t e up) κ := by
  obtain ⟨-, h0⟩ := sT_ok (up := up) hN ht ht8 he
  have hP : ∀ a b : Nat → Nat, a 0 = b 0 → a 1 = b 1 → a 2 = b 2 → a 3 = b 3 → (Qst N (N 8 - t) (eSt t a) κ ↔ Qst N (N 8 - t) (eSt t b) κ) := fun a b h0 h1 h2 h3 => by rw [eSt_c h0 h1 h2 h3]
  unfold Rch sF
  by_cases q : (sT N t e up) 5 = 0
  · rw [if_pos (Or.inl q), sAdd_ex (P := fun e => Qst N (N 8 - t) (eSt t e) κ) hP]
    rw [show Qst N (N 8 - t) (eSt t (eOf (sT N t e up) (e 4 * sW N up) (e 5 + (sT N t e up) 6) (e 6 + (sT N t e up) 6))) κ ↔ Qst N (N 8 - t) (sT N t e up) κ from Qst_like (eOf_like q h0)]
  · by_cases q2 : t = N 8
    · rw [if_pos (Or.inr q2), sAdd_ex (P := fun e => Qst N (N 8 - t) (eSt t e) κ) hP]
      have z : N 8 - t = 0 := by omega
      have w : Qst N (N 8 - t) (eSt t (eOf (sT N t e up) (e 4 * sW N up) (e 5 + (sT N t e up) 6) (e 6 + (sT N t e up) 6))) κ ↔ Qst N (N 8 - t) (sT N t e up) κ := by
        rw [z]
        constructor
        · rintro ⟨r, h1, -, h3⟩
          exact ⟨r, h1, by show (sT N t e up) 0 = N 8; rw [h0]; exact q2, h3⟩
        · rintro ⟨r, h1, -, h3⟩
          exact ⟨r, h1, q2, h3⟩
      rw [w]
    · rw [if_neg (by intro h; rcases h with h | h; exact q h; exact q2 h)]
      constructor
      · exact Or.inl
      · rintro (h | ⟨r, -, h2, -⟩)
        · exact h
        · rw [sRow_over q, h0] at h2
          exact absurd h2 q2
theorem Qst_step {N : Nat → Nat} {n : Nat} {σ : Nat → Nat} {κ : Nat × Nat × Nat × Nat} (h5 : σ 5 = 0) : Qst N (n + 1) σ κ ↔ Qst N n (sMv N σ 1) κ ∨ Qst N n (sMv N σ 0) κ := by
  have e : ∀ r, sRow N (n + 1) σ r = sRow N n (sMv N σ (r % 2)) (r / 2) := fun r => by show (if σ 5 = 0 then _ else _) = _; rw [if_pos h5]
  constructor
  · rintro ⟨r, h1, h2, h3⟩
    rw [e] at h2 h3
    rw [Nat.pow_succ] at h1
    rcases mod2 r with q | q
    · rw [q] at h2 h3; exact Or.inr ⟨r / 2, by omega, h2, h3⟩
    · rw [q] at h2 h3; exact Or.inl ⟨r / 2, by omega, h2, h3⟩
  · rintro (⟨r, h1, h2, h3⟩ | ⟨r, h1, h2, h3⟩)
    · refine ⟨2 * r + 1, by rw [Nat.pow_succ]; omega, ?_, ?_⟩
      · rw [e, two_mod1, two_div1]; exact h2
      · rw [e, two_mod1, two_div1]; exact h3
    · refine ⟨2 * r, by rw [Nat.pow_succ]; omega, ?_, ?_⟩
      · rw [e, two_mod0, two_div0]; exact h2
      · rw [e, two_mod0, two_div0]; exact h3
theorem sGP_rch {N : Nat → Nat} {t : Nat} {κ : Nat × Nat × Nat × Nat} (hN : Nok N) (ht : 1 ≤ t) (ht8 : t ≤ N 8) : ∀ (E : List (Nat → Nat)) (s : List (Nat → Nat) × (Nat → Nat)), Eok (t - 1) E → (Rch N (N 8 - t) t (sGP N t E s).1 κ ↔ Rch N (N 8 - t) t s.1 κ ∨ Rch N (N 8 - (t - 1)) (t - 1) E κ) := by
  intro E
  induction E with
  | nil =>
    intro s _
    constructor
    · exact Or.inl
    · rintro (h | ⟨e, he, -⟩)
      · exact h
      · cases he
  | cons e E ih =>
    intro s hE
    have he := (hE e List.mem_cons_self).1
    have g := ih (sGB N t e 0 (sGB N t e 1 s)) (fun x hx => hE x (List.mem_cons_of_mem _ hx))
    have b : Rch N (N 8 - t) t (sGB N t e 0 (sGB N t e 1 s)).1 κ ↔ Rch N (N 8 - t) t (sGB N t e 1 s).1 κ ∨ Qst N (N 8 - t) (sT N t e 0) κ := sF_rch hN ht ht8 he _
    have a : Rch N (N 8 - t) t (sGB N t e 1 s).1 κ ↔ Rch N (N 8 - t) t s.1 κ ∨ Qst N (N 8 - t) (sT N t e 1) κ := sF_rch hN ht ht8 he _
    have w : Qst N (N 8 - (t - 1)) (eSt (t - 1) e) κ ↔ Qst N (N 8 - t) (sT N t e 1) κ ∨ Qst N (N 8 - t) (sT N t e 0) κ := by
      rw [show N 8 - (t - 1) = N 8 - t + 1 by omega]
      exact Qst_step rfl
    have x : Rch N (N 8 - (t - 1)) (t - 1) (e :: E) κ ↔ Qst N (N 8 - (t - 1)) (eSt (t - 1) e) κ ∨ Rch N (N 8 - (t - 1)) (t - 1) E κ := by
      unfold Rch; simp only [List.mem_cons, exists_eq_or_imp]
    show Rch N (N 8 - t) t (sGP N t E (sGB N t e 0 (sGB N t e 1 s))).1 κ ↔ _
    rw [g, b, a, x, w]
    constructor
    · rintro (((h | h) | h) | h)
      · exact Or.inl h
      · exact Or.inr (Or.inl (Or.inl h))
      · exact Or.inr (Or.inl (Or.inr h))
      · exact Or.inr (Or.inr h)
    · rintro (h | (h | h) | h)
      · exact Or.inl (Or.inl (Or.inl h))
      · exact Or.inl (Or.inl (Or.inr h))
      · exact Or.inl (Or.inr h)
      · exact Or.inr h
theorem sGr_rch {N σ : Nat → Nat} {κ : Nat × Nat × Nat × Nat} (hN : Nok N) (hs : Sok σ) (h5 : σ 5 = 0) : ∀ n, σ 0 + n ≤ N 8 → (Rch N (N 8 - (σ 0 + n)) (σ 0 + n) (sGr N σ n).1 κ ↔ Qst N (N 8 - σ 0) σ κ) := by
  intro n
  induction n with
  | zero =>
    intro _
    unfold Rch
    rw [show (sGr N σ 0).1 = [eOf σ 1 0 0] from rfl]
    simp only [List.mem_singleton, exists_eq_left]
    exact Qst_like (eOf_like h5 rfl)
  | succ n ih =>
    intro h
    have b := sGP_rch (t := σ 0 + n + 1) (κ := κ) hN (by omega) (by omega) (sGr N σ n).1 ([], (sGr N σ n).2) (sGr_ok hN hs n (by omega)).1
    rw [← ih (by omega)]
    refine Iff.trans b ?_
    constructor
    · rintro (⟨e, he, -⟩ | h)
      · cases he
      · exact h
    · exact Or.inr
/-- the states that the machine has seen in the rows ahead of r -/
def sSeen (N : Nat → Nat) (n : Nat) (σ : Nat → Nat) : Nat → List (Nat × Nat × Nat × Nat)
  | 0 => []
  | r + 1 => if (sRow N n σ r) 0 = N 8 ∧ ¬ kOf (sRow N n σ r) ∈ sSeen N n σ r then sSeen N n σ r ++ [kOf (sRow N n σ r)] else sSeen N n σ r
theorem sSeen_len {N : Nat → Nat} {n : Nat} {σ : Nat → Nat} : ∀ r, (sSeen N n σ r).length ≤ r := by
  intro r
  induction r with
  | zero => exact Nat.le_refl 0
  | succ r ih =>
    show (if (sRow N n σ r) 0 = N 8 ∧ ¬ kOf (sRow N n σ r) ∈ sSeen N n σ r then sSeen N n σ r ++ [kOf (sRow N n σ r)] else sSeen N n σ r).length ≤ r + 1
    split
    · rw [List.length_append, List.length_singleton]; omega
    · omega
theorem sSeen_nd {N : Nat → Nat} {n : Nat} {σ : Nat → Nat} : ∀ r, (sSeen N n σ r).Nodup := by
  intro r
  induction r with
  | zero => exact List.nodup_nil
  | succ r ih =>
    show (if (sRow N n σ r) 0 = N 8 ∧ ¬ kOf (sRow N n σ r) ∈ sSeen N n σ r then sSeen N n σ r ++ [kOf (sRow N n σ r)] else sSeen N n σ r).Nodup
    split
    · rename_i q
      rw [List.nodup_append]
      refine ⟨ih, by simp, ?_⟩
      intro a ha b hb hab
      rw [List.mem_singleton] at hb
      rw [hab, hb] at ha
      exact q.2 ha
    · exact ih
theorem sSeen_mem {N : Nat → Nat} {n : Nat} {σ : Nat → Nat} {κ : Nat × Nat × Nat × Nat} : ∀ r, κ ∈ sSeen N n σ r ↔ ∃ i, i < r ∧ (sRow N n σ i) 0 = N 8 ∧ kOf (sRow N n σ i) = κ := by
  intro r
  induction r with
  | zero =>
    constructor
    · intro h; cases h
    · rintro ⟨i, h, -⟩; omega
  | succ r ih =>
    have e : (∃ i, i < r + 1 ∧ (sRow N n σ i) 0 = N 8 ∧ kOf (sRow N n σ i) = κ) ↔ (∃ i, i < r ∧ (sRow N n σ i) 0 = N 8 ∧ kOf (sRow N n σ i) = κ) ∨ ((sRow N n σ r) 0 = N 8 ∧ kOf (sRow N n σ r) = κ) := by
      constructor
      · rintro ⟨i, h1, h2, h3⟩
        rcases Nat.lt_or_ge i r with q | q
        · exact Or.inl ⟨i, q, h2, h3⟩
        · rw [show i = r by omega] at h2 h3; exact Or.inr ⟨h2, h3⟩
      · rintro (⟨i, h1, h2, h3⟩ | ⟨h2, h3⟩)
        · exact ⟨i, by omega, h2, h3⟩
        · exact ⟨r, by omega, h2, h3⟩
    rw [e, ← ih]
    show κ ∈ (if (sRow N n σ r) 0 = N 8 ∧ ¬ kOf (sRow N n σ r) ∈ sSeen N n σ r then sSeen N n σ r ++ [kOf (sRow N n σ r)] else sSeen N n σ r) ↔ _
    split
    · rename_i q
      rw [List.mem_append, List.mem_singleton]
      constructor
      · rintro (h | h)
        · exact Or.inl h
        · exact Or.inr ⟨q.1, h.symm⟩
      · rintro (h | h)
        · exact Or.inl h
        · exact Or.inr h.2.symm
    · rename_i q
      constructor
      · exact Or.inl
      · rintro (h | ⟨h1, h2⟩)
        · exact h
        · rw [← h2]
          exact Classical.byContradiction fun h3 => q ⟨h1, h3⟩
theorem nd_le {α : Type} [DecidableEq α] : ∀ (l k : List α), l.Nodup → (∀ x ∈ l, x ∈ k) → l.length ≤ k.length := by
  intro l
  induction l with
  | nil => intro k _ _; exact Nat.zero_le _
  | cons a l ih =>
    intro k h hk
    have ha : a ∈ k := hk a List.mem_cons_self
    obtain ⟨h1, h2⟩ := List.nodup_cons.mp h
    have b := ih (k.erase a) h2 (fun x hx => (List.mem_erase_of_ne (fun e => h1 (by rw [← e]; exact hx))).mpr (hk x (List.mem_cons_of_mem _ hx)))
    rw [List.length_erase_of_mem ha] at b
    have c : 0 < k.length := List.length_pos_of_mem ha
    show l.length + 1 ≤ k.length
    omega
def eKey (e : Nat → Nat) : Nat × Nat × Nat × Nat := (e 0, e 1, e 2, e 3)
theorem Unl_nd : ∀ E, Unl E → (E.map eKey).Nodup := by
  intro E
  induction E with
  | nil => intro _; exact List.nodup_nil
  | cons e E ih =>
    intro h
    rw [List.map_cons, List.nodup_cons]
    refine ⟨?_, ih h.2⟩
    intro hm
    obtain ⟨e', he', hk⟩ := List.mem_map.mp hm
    have := h.1 e' he'
    unfold eKey at hk
    simp only [Prod.mk.injEq] at hk
    exact this ⟨hk.1.symm, hk.2.1.symm, hk.2.2.1.symm, hk.2.2.2.symm⟩
/-- as many states in the tree's last layer as the rows see -/
theorem sTree_states {N σ : Nat → Nat} (hN : Nok N) (hs : Sok σ) (h5 : σ 5 = 0) (h8 : σ 0 ≤ N 8) : (sGr N σ (N 8 - σ 0)).1.length = (sSeen N (N 8 - σ 0) σ (2 ^ (N 8 - σ 0))).length := by
  have hm : ∀ κ, κ ∈ (sGr N σ (N 8 - σ 0)).1.map eKey ↔ κ ∈ sSeen N (N 8 - σ 0) σ (2 ^ (N 8 - σ 0)) := by
    intro κ
    rw [sSeen_mem]
    have a := sGr_rch (κ := κ) hN hs h5 (N 8 - σ 0) (by omega)
    refine Iff.trans ?_ a
    rw [List.mem_map]
    unfold Rch
    have z : N 8 - (σ 0 + (N 8 - σ 0)) = 0 := by omega
    have w : σ 0 + (N 8 - σ 0) = N 8 := by omega
    constructor
    · rintro ⟨e, he, hk⟩
      refine ⟨e, he, ?_⟩
      rw [z, w]
      exact ⟨0, by decide, rfl, hk⟩
    · rintro ⟨e, he, hq⟩
      rw [z, w] at hq
      obtain ⟨r, -, -, h3⟩ := hq
      exact ⟨e, he, h3⟩
  have u := (sGr_ok hN hs (N 8 - σ 0) (by omega)).2.2
  have p1 := nd_le _ _ (Unl_nd _ u) (fun x hx => (hm x).mp hx)
  have p2 := nd_le _ _ (sSeen_nd (N := N) (n := N 8 - σ 0) (σ := σ) (2 ^ (N 8 - σ 0))) (fun x hx => (hm x).mpr hx)
  rw [List.length_map] at p1 p2
  omega
