/-! What the class's small methods answer, in the machine's own ints. a: an asset (first, rise, fall); nt: the note by its slots (2 isAgainst .. 10 remembers); st: a standing by its slots. -/
def kLev (a : Nat → Int32) (p : Int32) : Int32 := if 100 ≤ a 0 then p * 100 / a 0 else 0
def kPri (a : Nat → Int32) (p up : Int32) : Int32 := if up = 0 then (if 1 < p - a 2 then p - a 2 else 1) else p + a 1
def kMin (x y : Int32) : Int32 := if y < x then y else x
def kMax (x y : Int32) : Int32 := if x < y then y else x
def kWl (a b : Nat → Int32) (p q : Int32) : Int32 := kMin (kLev a p) (kLev b q)
def kXor (up ag : Int32) : Int32 := if up = ag then 0 else 1
def kLast (nt : Nat → Int32) (t : Int32) : Int32 := if t < nt 4 then 0 else 1
def kKn (nt : Nat → Int32) (lev last kn : Int32) : Int32 := if nt 5 ≤ lev then kn else if ¬ last = 0 then 1 else if ¬ nt 9 = 0 then kn else 1
def kCp (nt : Nat → Int32) (lev ms : Int32) : Int32 := if nt 6 ≤ lev then (if nt 10 = 0 then 1 else 1 + ms) * nt 8 else 0
def kMs (nt : Nat → Int32) (lev ms : Int32) : Int32 := if nt 6 ≤ lev then 0 else ms + 1
def kEp (lev last kn : Int32) : Int32 := if last = 0 then 1000 else if kn = 0 then 1000 else if 100 ≤ lev then 1000 else 10 * lev
def kOv (nt : Nat → Int32) (lev last ov : Int32) : Int32 := if ¬ last = 0 then 1 else if lev < nt 7 then ov else 1
def kPl (nt : Nat → Int32) (lev last kn cp : Int32) : Int32 := if ¬ last = 0 then cp + kEp lev last kn else if lev < nt 7 then cp else cp + kEp lev last kn
/-- a standing behind one more move -/
def kMv (nt a b st : Nat → Int32) (up : Int32) : Nat → Int32 :=
  x8f (st 0 + 1) (kPri a (st 1) up) (kPri b (st 2) (kXor up (nt 2))) (kMs nt (kWl a b (kPri a (st 1) up) (kPri b (st 2) (kXor up (nt 2)))) (st 3))
    (kKn nt (kWl a b (kPri a (st 1) up) (kPri b (st 2) (kXor up (nt 2)))) (kLast nt (st 0 + 1)) (st 4))
    (kOv nt (kWl a b (kPri a (st 1) up) (kPri b (st 2) (kXor up (nt 2)))) (kLast nt (st 0 + 1)) (st 5))
    (kPl nt (kWl a b (kPri a (st 1) up) (kPri b (st 2) (kXor up (nt 2)))) (kLast nt (st 0 + 1)) (kKn nt (kWl a b (kPri a (st 1) up) (kPri b (st 2) (kXor up (nt 2)))) (kLast nt (st 0 + 1)) (st 4)) (kCp nt (kWl a b (kPri a (st 1) up) (kPri b (st 2) (kXor up (nt 2)))) (st 3)))
    (st 7 + kPl nt (kWl a b (kPri a (st 1) up) (kPri b (st 2) (kXor up (nt 2)))) (kLast nt (st 0 + 1)) (kKn nt (kWl a b (kPri a (st 1) up) (kPri b (st 2) (kXor up (nt 2)))) (kLast nt (st 0 + 1)) (st 4)) (kCp nt (kWl a b (kPri a (st 1) up) (kPri b (st 2) (kXor up (nt 2)))) (st 3)))
def kBit (row i : Int32) : Int32 := if (row >>> (i &&& 31)) &&& 1 = 1 then 1 else 0
def kIn (x lo hi : Int32) : Int32 := if x < lo then 0 else if hi < x then 0 else 1
def kAs (x : Int32) : Int32 := if x = 0 then 1 else if x = 1 then 1 else 0
def kWe (nt : Nat → Int32) (up : Int32) : Int32 := if up = 0 then 10 - nt 3 else nt 3
theorem xkb01 (row i : Int32) : kBit row i = 0 ∨ kBit row i = 1 := by unfold kBit; split <;> simp
theorem kKn01 {nt : Nat → Int32} {lev last kn : Int32} (h : kn = 0 ∨ kn = 1) : kKn nt lev last kn = 0 ∨ kKn nt lev last kn = 1 := by
  unfold kKn; repeat' split
  all_goals first | exact h | exact Or.inr rfl | exact Or.inl rfl
theorem kOv01 {nt : Nat → Int32} {lev last ov : Int32} (h : ov = 0 ∨ ov = 1) : kOv nt lev last ov = 0 ∨ kOv nt lev last ov = 1 := by
  unfold kOv; repeat' split
  all_goals first | exact h | exact Or.inr rfl | exact Or.inl rfl
set_option maxHeartbeats 4000000 in
set_option maxRecDepth 100000 in
/-- Asset(): 500, 50, 40 -/
theorem c_X0_init (l : Launch) (dC : Nat → ClassId) (dI : Nat → Nat → Nat) (cI cZ cJ : ClassId) (sz : Nat) (h0 : Nat) : Met l yX0_init wsX0_init ({ frames := 1, cells := 0, slots := 0, locals := 21 }) (va_Pc [.ref h0] (xB (dC, dI) (xT cI cZ cJ) [(h0, .inr (0, [.int 0, .int 0, .int 0]))] sz)) (va_Qv (fun (u : Unit) => True) (fun (u : Unit) t => xA (dC, dI) (xT cI cZ cJ) [(h0, .inr (0, [.int 500, .int 50, .int 40]))] (va_A [(h0, .inr (0, [.int 0, .int 0, .int 0]))] sz) t) (va_A [(h0, .inr (0, [.int 0, .int 0, .int 0]))] sz)) 0 0 (va_A [(h0, .inr (0, [.int 0, .int 0, .int 0]))] sz) := by
  refine xMet (QF := fun A => va_Qv (fun (u : Unit) => True) (fun (u : Unit) t => xA (dC, dI) (xT cI cZ cJ) [(h0, .inr (0, [.int 500, .int 50, .int 40]))] A t) A) (maxL := 1) (ret := none) (cc := cX0_init) (by decide) rfl (Nat.le_of_ble_eq_true rfl) ?_
  intro p e s m below meth c ls A hf hr hlk hnm hK hP hD hA hS hl
  obtain ⟨hx, hb, hml, hown, hts⟩ := id hf
  have iX0 : ∀ w ∈ wsX00, w ∈ wsX0_init := by decide +kernel
  have hl : lv_has ls 1 [(0, .ref h0)] := hl
  have hP : va_P (dC, dI) vwCl [(h0, .inr (0, [.int 0, .int 0, .int 0]))] s.heap := hP
  refine lv_aload_n hx hb dX0_init_0 rfl (lv_at hl 0 rfl) ?_
  refine W.objInit hx hb hown (hts (.methodLink RX0 3 objectInit) (by decide +kernel)) (hts (.instanceMethod objectInit) (by decide +kernel)) (hts (.code objectInit ⟨#[0xb1]⟩ 1 none) (by decide +kernel)) rfl (by rw [hml]; exact hl.1) rfl dX0_init_1 (Nat.le_of_ble_eq_true rfl) (Nat.le_of_ble_eq_true rfl) ?_
  refine W.eq (g2 := F0 m 4 ls []) rfl ?_
  refine lv_aload_n hx hb dX0_init_4 rfl (lv_at hl 0 rfl) ?_
  refine lv_sipush (v := 500) hx hb dX0_init_5 (by decide +kernel) ?_
  refine va_put (D := (dC, dI)) (ci := 0) (v := .int 500) (ty := .int) (C := RX0) (T := TX0) (N := 3) hx hb hts iX0 tyX0 tyX0_ok nmX0 hown hK hP hD hS 0 rfl rfl 0 (by decide) (hts (.fieldLink RX0 9 "Barrierbook$Asset" "first" "I") (by decide +kernel)) (fun _ h9 => h9) rfl (by decide +kernel) rfl rfl (Nat.le_of_ble_eq_true rfl) dX0_init_8 (fun H locs hP hD hS => ?_)
  have hP : va_P (dC, dI) vwCl [(h0, .inr (0, [.int 500, .int 0, .int 0]))] H := hP
  have hD : va_D A [(h0, .inr (0, [.int 500, .int 0, .int 0]))] := hD
  refine lv_aload_n hx hb dX0_init_11 rfl (lv_at hl 0 rfl) ?_
  refine lv_bipush (v := 50) hx hb dX0_init_12 (by decide) ?_
  refine va_put (D := (dC, dI)) (ci := 0) (v := .int 50) (ty := .int) (C := RX0) (T := TX0) (N := 3) hx hb hts iX0 tyX0 tyX0_ok nmX0 hown hK hP hD hS 0 rfl rfl 1 (by decide) (hts (.fieldLink RX0 15 "Barrierbook$Asset" "rise" "I") (by decide +kernel)) (fun _ h9 => h9) rfl (by decide +kernel) rfl rfl (Nat.le_of_ble_eq_true rfl) dX0_init_14 (fun H locs hP hD hS => ?_)
  have hP : va_P (dC, dI) vwCl [(h0, .inr (0, [.int 500, .int 50, .int 0]))] H := hP
  have hD : va_D A [(h0, .inr (0, [.int 500, .int 50, .int 0]))] := hD
  refine lv_aload_n hx hb dX0_init_17 rfl (lv_at hl 0 rfl) ?_
  refine lv_bipush (v := 40) hx hb dX0_init_18 (by decide) ?_
  refine va_put (D := (dC, dI)) (ci := 0) (v := .int 40) (ty := .int) (C := RX0) (T := TX0) (N := 3) hx hb hts iX0 tyX0 tyX0_ok nmX0 hown hK hP hD hS 0 rfl rfl 2 (by decide) (hts (.fieldLink RX0 18 "Barrierbook$Asset" "fall" "I") (by decide +kernel)) (fun _ h9 => h9) rfl (by decide +kernel) rfl rfl (Nat.le_of_ble_eq_true rfl) dX0_init_20 (fun H locs hP hD hS => ?_)
  have hP : va_P (dC, dI) vwCl [(h0, .inr (0, [.int 500, .int 50, .int 40]))] H := hP
  have hD : va_D A [(h0, .inr (0, [.int 500, .int 50, .int 40]))] := hD
  exact xrv hf hr hlk (()) (trivial) (hP.sub [0] rfl) (hD.sub [0] rfl rfl) hK hS dX0_init_23
set_option maxHeartbeats 4000000 in
set_option maxRecDepth 100000 in
/-- the price behind a move -/
theorem c_X0_priceBehind (l : Launch) (dC : Nat → ClassId) (dI : Nat → Nat → Nat) (cI cZ cJ : ClassId) (sz : Nat) (h0 : Nat) (fa : Nat → Int32) (x up : Int32) : Met l yX0_priceBehind wsX0_priceBehind ({ frames := 1, cells := 0, slots := 0, locals := 21 }) (va_Pc [.ref h0, .int x, .int up] (xB (dC, dI) (xT cI cZ cJ) [(h0, .inr (0, [.int (fa 0), .int (fa 1), .int (fa 2)]))] sz)) (va_Qi (fun (r : Int32) (u : Unit) => r = kPri fa x up) (fun (u : Unit) t => xA (dC, dI) (xT cI cZ cJ) [(h0, .inr (0, [.int (fa 0), .int (fa 1), .int (fa 2)]))] (va_A [(h0, .inr (0, [.int (fa 0), .int (fa 1), .int (fa 2)]))] sz) t) (va_A [(h0, .inr (0, [.int (fa 0), .int (fa 1), .int (fa 2)]))] sz)) 0 0 (va_A [(h0, .inr (0, [.int (fa 0), .int (fa 1), .int (fa 2)]))] sz) := by
  refine xMet (QF := fun A => va_Qi (fun (r : Int32) (u : Unit) => r = kPri fa x up) (fun (u : Unit) t => xA (dC, dI) (xT cI cZ cJ) [(h0, .inr (0, [.int (fa 0), .int (fa 1), .int (fa 2)]))] A t) A) (maxL := 3) (ret := (some .int)) (cc := cX0_priceBehind) (by decide) rfl (Nat.le_of_ble_eq_true rfl) ?_
  intro p e s m below meth c ls A hf hr hlk hnm hK hP hD hA hS hl
  obtain ⟨hx, hb, hml, hown, hts⟩ := id hf
  have iX0 : ∀ w ∈ wsX00, w ∈ wsX0_priceBehind := by decide +kernel
  have hl : lv_has ls 3 [(0, .ref h0), (1, .int x), (2, .int up)] := hl
  have hP : va_P (dC, dI) vwCl [(h0, .inr (0, [.int (fa 0), .int (fa 1), .int (fa 2)]))] s.heap := hP
  refine lv_iload_n hx hb dX0_priceBehind_0 rfl (lv_at hl 2 rfl) ?_
  refine lv_if_eq (tgt := 13) hx hb dX0_priceBehind_1 (by decide) (fun c_1 => ?_) (fun c_1 => ?_)
  · refine lv_iconst (v := 1) hx hb dX0_priceBehind_13 (by decide) ?_
    refine lv_iload_n hx hb dX0_priceBehind_14 rfl (lv_at hl 1 rfl) ?_
    refine lv_aload_n hx hb dX0_priceBehind_15 rfl (lv_at hl 0 rfl) ?_
    refine va_get (D := (dC, dI)) (ci := 0) (v := .int (fa 2)) (C := RX0) (T := TX0) (N := 3) hx hb hts iX0 hown hK hP 0 rfl rfl 2 (by decide) (hts (.fieldLink RX0 18 "Barrierbook$Asset" "fall" "I") (by decide +kernel)) (fun _ h9 => h9) rfl dX0_priceBehind_16 ?_
    refine lv_isub hx hb dX0_priceBehind_19 ?_
    refine lv_topi (fun x_19 e_19 => ?_)
    refine va_mmax hx hb (hml.trans hl.1.symm) hown (hts (.methodLink RX0 21 Lib.Math.max.name) (by decide +kernel)) (hts (.static Lib.Math.max.name) (by decide +kernel)) (hts (.initialized "java/lang/Math") (by decide +kernel)) (hts (.code Lib.Math.max.name Lib.Math.max.code 2 (some .int)) (by decide +kernel)) (Nat.le_of_ble_eq_true rfl) (Nat.le_of_ble_eq_true rfl) (Nat.le_of_ble_eq_true rfl) (Nat.le_of_ble_eq_true rfl) dX0_priceBehind_20 ?_
    refine lv_topi (fun x_20 e_20 => ?_)
    exact xri hf hr hlk (()) (by subst e_19 e_20; simp [kPri, x8f, c_1]) (hP.sub [0] rfl) (hD.sub [0] rfl rfl) hK hS dX0_priceBehind_23
  refine lv_iload_n hx hb dX0_priceBehind_4 rfl (lv_at hl 1 rfl) ?_
  refine lv_aload_n hx hb dX0_priceBehind_5 rfl (lv_at hl 0 rfl) ?_
  refine va_get (D := (dC, dI)) (ci := 0) (v := .int (fa 1)) (C := RX0) (T := TX0) (N := 3) hx hb hts iX0 hown hK hP 0 rfl rfl 1 (by decide) (hts (.fieldLink RX0 15 "Barrierbook$Asset" "rise" "I") (by decide +kernel)) (fun _ h9 => h9) rfl dX0_priceBehind_6 ?_
  refine lv_iadd hx hb dX0_priceBehind_9 ?_
  refine lv_topi (fun x_9 e_9 => ?_)
  refine lv_goto (tgt := 23) hx hb dX0_priceBehind_10 (by decide) ?_
  exact xri hf hr hlk (()) (by subst e_9; simp [kPri, x8f, c_1]) (hP.sub [0] rfl) (hD.sub [0] rfl rfl) hK hS dX0_priceBehind_23
set_option maxHeartbeats 4000000 in
set_option maxRecDepth 100000 in
/-- the level of a price -/
theorem c_X0_levelAt (l : Launch) (dC : Nat → ClassId) (dI : Nat → Nat → Nat) (cI cZ cJ : ClassId) (sz : Nat) (h0 : Nat) (fa : Nat → Int32) (x : Int32) : Met l yX0_levelAt wsX0_levelAt ({ frames := 0, cells := 0, slots := 0, locals := 0 }) (va_Pc [.ref h0, .int x] (xB (dC, dI) (xT cI cZ cJ) [(h0, .inr (0, [.int (fa 0), .int (fa 1), .int (fa 2)]))] sz)) (va_Qi (fun (r : Int32) (u : Unit) => r = kLev fa x) (fun (u : Unit) t => xA (dC, dI) (xT cI cZ cJ) [(h0, .inr (0, [.int (fa 0), .int (fa 1), .int (fa 2)]))] (va_A [(h0, .inr (0, [.int (fa 0), .int (fa 1), .int (fa 2)]))] sz) t) (va_A [(h0, .inr (0, [.int (fa 0), .int (fa 1), .int (fa 2)]))] sz)) 0 0 (va_A [(h0, .inr (0, [.int (fa 0), .int (fa 1), .int (fa 2)]))] sz) := by
  refine xMet (QF := fun A => va_Qi (fun (r : Int32) (u : Unit) => r = kLev fa x) (fun (u : Unit) t => xA (dC, dI) (xT cI cZ cJ) [(h0, .inr (0, [.int (fa 0), .int (fa 1), .int (fa 2)]))] A t) A) (maxL := 2) (ret := (some .int)) (cc := cX0_levelAt) (by decide) rfl (Nat.le_of_ble_eq_true rfl) ?_
  intro p e s m below meth c ls A hf hr hlk hnm hK hP hD hA hS hl
  obtain ⟨hx, hb, hml, hown, hts⟩ := id hf
  have iX0 : ∀ w ∈ wsX00, w ∈ wsX0_levelAt := by decide +kernel
  have hl : lv_has ls 2 [(0, .ref h0), (1, .int x)] := hl
  have hP : va_P (dC, dI) vwCl [(h0, .inr (0, [.int (fa 0), .int (fa 1), .int (fa 2)]))] s.heap := hP
  refine lv_aload_n hx hb dX0_levelAt_0 rfl (lv_at hl 0 rfl) ?_
  refine va_get (D := (dC, dI)) (ci := 0) (v := .int (fa 0)) (C := RX0) (T := TX0) (N := 3) hx hb hts iX0 hown hK hP 0 rfl rfl 0 (by decide) (hts (.fieldLink RX0 9 "Barrierbook$Asset" "first" "I") (by decide +kernel)) (fun _ h9 => h9) rfl dX0_levelAt_1 ?_
  refine lv_bipush (v := 100) hx hb dX0_levelAt_4 (by decide) ?_
  refine lv_icmp_ge (tgt := 13) hx hb dX0_levelAt_6 (by decide) (fun c_6 => ?_) (fun c_6 => ?_)
  · refine lv_iload_n hx hb dX0_levelAt_13 rfl (lv_at hl 1 rfl) ?_
    refine lv_bipush (v := 100) hx hb dX0_levelAt_14 (by decide) ?_
    refine lv_imul hx hb dX0_levelAt_16 ?_
    refine lv_topi (fun x_16 e_16 => ?_)
    refine lv_aload_n hx hb dX0_levelAt_17 rfl (lv_at hl 0 rfl) ?_
    refine va_get (D := (dC, dI)) (ci := 0) (v := .int (fa 0)) (C := RX0) (T := TX0) (N := 3) hx hb hts iX0 hown hK hP 0 rfl rfl 0 (by decide) (hts (.fieldLink RX0 9 "Barrierbook$Asset" "first" "I") (by decide +kernel)) (fun _ h9 => h9) rfl dX0_levelAt_18 ?_
    refine lv_idiv hx hb dX0_levelAt_21 (fun h => absurd c_6 (by rw [h]; decide)) ?_
    refine lv_topi (fun x_21 e_21 => ?_)
    exact xri hf hr hlk (()) (by subst e_16 e_21; simp [kLev, x8f, c_6]) (hP.sub [0] rfl) (hD.sub [0] rfl rfl) hK hS dX0_levelAt_22
  refine lv_iconst (v := 0) hx hb dX0_levelAt_9 (by decide) ?_
  refine lv_goto (tgt := 22) hx hb dX0_levelAt_10 (by decide) ?_
  exact xri hf hr hlk (()) (by simp [kLev, x8f, c_6]) (hP.sub [0] rfl) (hD.sub [0] rfl rfl) hK hS dX0_levelAt_22
set_option maxHeartbeats 4000000 in
set_option maxRecDepth 100000 in
theorem c_X2_weightOf (l : Launch) (dC : Nat → ClassId) (dI : Nat → Nat → Nat) (cI cZ cJ : ClassId) (sz : Nat) (h0 a0 b0 : Nat) (nt : Nat → Int32) (up : Int32) : Met l yX2_weightOf wsX2_weightOf ({ frames := 0, cells := 0, slots := 0, locals := 0 }) (va_Pc [.ref h0, .int up] (xB (dC, dI) (xT cI cZ cJ) [(h0, .inr (2, [.ref a0, .ref b0, .int (nt 2), .int (nt 3), .int (nt 4), .int (nt 5), .int (nt 6), .int (nt 7), .int (nt 8), .int (nt 9), .int (nt 10)]))] sz)) (va_Qi (fun (r : Int32) (u : Unit) => r = kWe nt up) (fun (u : Unit) t => xA (dC, dI) (xT cI cZ cJ) [(h0, .inr (2, [.ref a0, .ref b0, .int (nt 2), .int (nt 3), .int (nt 4), .int (nt 5), .int (nt 6), .int (nt 7), .int (nt 8), .int (nt 9), .int (nt 10)]))] (va_A [(h0, .inr (2, [.ref a0, .ref b0, .int (nt 2), .int (nt 3), .int (nt 4), .int (nt 5), .int (nt 6), .int (nt 7), .int (nt 8), .int (nt 9), .int (nt 10)]))] sz) t) (va_A [(h0, .inr (2, [.ref a0, .ref b0, .int (nt 2), .int (nt 3), .int (nt 4), .int (nt 5), .int (nt 6), .int (nt 7), .int (nt 8), .int (nt 9), .int (nt 10)]))] sz)) 0 0 (va_A [(h0, .inr (2, [.ref a0, .ref b0, .int (nt 2), .int (nt 3), .int (nt 4), .int (nt 5), .int (nt 6), .int (nt 7), .int (nt 8), .int (nt 9), .int (nt 10)]))] sz) := by
  refine xMet (QF := fun A => va_Qi (fun (r : Int32) (u : Unit) => r = kWe nt up) (fun (u : Unit) t => xA (dC, dI) (xT cI cZ cJ) [(h0, .inr (2, [.ref a0, .ref b0, .int (nt 2), .int (nt 3), .int (nt 4), .int (nt 5), .int (nt 6), .int (nt 7), .int (nt 8), .int (nt 9), .int (nt 10)]))] A t) A) (maxL := 2) (ret := (some .int)) (cc := cX2_weightOf) (by decide) rfl (Nat.le_of_ble_eq_true rfl) ?_
  intro p e s m below meth c ls A hf hr hlk hnm hK hP hD hA hS hl
  obtain ⟨hx, hb, hml, hown, hts⟩ := id hf
  have iX2 : ∀ w ∈ wsX20, w ∈ wsX2_weightOf := by decide +kernel
  have hl : lv_has ls 2 [(0, .ref h0), (1, .int up)] := hl
  have hP : va_P (dC, dI) vwCl [(h0, .inr (2, [.ref a0, .ref b0, .int (nt 2), .int (nt 3), .int (nt 4), .int (nt 5), .int (nt 6), .int (nt 7), .int (nt 8), .int (nt 9), .int (nt 10)]))] s.heap := hP
  refine lv_iload_n hx hb dX2_weightOf_0 rfl (lv_at hl 1 rfl) ?_
  refine lv_if_eq (tgt := 11) hx hb dX2_weightOf_1 (by decide) (fun c_1 => ?_) (fun c_1 => ?_)
  · refine lv_bipush (v := 10) hx hb dX2_weightOf_11 (by decide) ?_
    refine lv_aload_n hx hb dX2_weightOf_13 rfl (lv_at hl 0 rfl) ?_
    refine va_get (D := (dC, dI)) (ci := 2) (v := .int (nt 3)) (C := RX2) (T := TX2) (N := 11) hx hb hts iX2 hown hK hP 0 rfl rfl 3 (by decide) (hts (.fieldLink RX2 25 "Barrierbook$Note" "chance" "I") (by decide +kernel)) (fun _ h9 => h9) rfl dX2_weightOf_14 ?_
    refine lv_isub hx hb dX2_weightOf_17 ?_
    refine lv_topi (fun x_17 e_17 => ?_)
    exact xri hf hr hlk (()) (by subst e_17; simp [kWe, x8f, c_1]) (hP.sub [0] rfl) (hD.sub [0] rfl rfl) hK hS dX2_weightOf_18
  refine lv_aload_n hx hb dX2_weightOf_4 rfl (lv_at hl 0 rfl) ?_
  refine va_get (D := (dC, dI)) (ci := 2) (v := .int (nt 3)) (C := RX2) (T := TX2) (N := 11) hx hb hts iX2 hown hK hP 0 rfl rfl 3 (by decide) (hts (.fieldLink RX2 25 "Barrierbook$Note" "chance" "I") (by decide +kernel)) (fun _ h9 => h9) rfl dX2_weightOf_5 ?_
  refine lv_goto (tgt := 18) hx hb dX2_weightOf_8 (by decide) ?_
  exact xri hf hr hlk (()) (by simp [kWe, x8f, c_1]) (hP.sub [0] rfl) (hD.sub [0] rfl rfl) hK hS dX2_weightOf_18
set_option maxHeartbeats 4000000 in
set_option maxRecDepth 100000 in
theorem c_X3_worstLevel (l : Launch) (dC : Nat → ClassId) (dI : Nat → Nat → Nat) (cI cZ cJ : ClassId) (sz : Nat) (h0 n0 a0 b0 : Nat) (st nt fa fb : Nat → Int32) : Met l yX3_worstLevel wsX3_worstLevel ({ frames := 1, cells := 0, slots := 0, locals := 21 }) (va_Pc [.ref h0, .ref n0] (xB (dC, dI) (xT cI cZ cJ) [(h0, .inr (3, [.int (st 0), .int (st 1), .int (st 2), .int (st 3), .int (st 4), .int (st 5), .int (st 6), .int (st 7)])), (n0, .inr (2, [.ref a0, .ref b0, .int (nt 2), .int (nt 3), .int (nt 4), .int (nt 5), .int (nt 6), .int (nt 7), .int (nt 8), .int (nt 9), .int (nt 10)])), (a0, .inr (0, [.int (fa 0), .int (fa 1), .int (fa 2)])), (b0, .inr (0, [.int (fb 0), .int (fb 1), .int (fb 2)]))] sz)) (va_Qi (fun (r : Int32) (u : Unit) => r = kWl fa fb (st 1) (st 2)) (fun (u : Unit) t => xA (dC, dI) (xT cI cZ cJ) [(h0, .inr (3, [.int (st 0), .int (st 1), .int (st 2), .int (st 3), .int (st 4), .int (st 5), .int (st 6), .int (st 7)])), (n0, .inr (2, [.ref a0, .ref b0, .int (nt 2), .int (nt 3), .int (nt 4), .int (nt 5), .int (nt 6), .int (nt 7), .int (nt 8), .int (nt 9), .int (nt 10)])), (a0, .inr (0, [.int (fa 0), .int (fa 1), .int (fa 2)])), (b0, .inr (0, [.int (fb 0), .int (fb 1), .int (fb 2)]))] (va_A [(h0, .inr (3, [.int (st 0), .int (st 1), .int (st 2), .int (st 3), .int (st 4), .int (st 5), .int (st 6), .int (st 7)])), (n0, .inr (2, [.ref a0, .ref b0, .int (nt 2), .int (nt 3), .int (nt 4), .int (nt 5), .int (nt 6), .int (nt 7), .int (nt 8), .int (nt 9), .int (nt 10)])), (a0, .inr (0, [.int (fa 0), .int (fa 1), .int (fa 2)])), (b0, .inr (0, [.int (fb 0), .int (fb 1), .int (fb 2)]))] sz) t) (va_A [(h0, .inr (3, [.int (st 0), .int (st 1), .int (st 2), .int (st 3), .int (st 4), .int (st 5), .int (st 6), .int (st 7)])), (n0, .inr (2, [.ref a0, .ref b0, .int (nt 2), .int (nt 3), .int (nt 4), .int (nt 5), .int (nt 6), .int (nt 7), .int (nt 8), .int (nt 9), .int (nt 10)])), (a0, .inr (0, [.int (fa 0), .int (fa 1), .int (fa 2)])), (b0, .inr (0, [.int (fb 0), .int (fb 1), .int (fb 2)]))] sz)) 0 0 (va_A [(h0, .inr (3, [.int (st 0), .int (st 1), .int (st 2), .int (st 3), .int (st 4), .int (st 5), .int (st 6), .int (st 7)])), (n0, .inr (2, [.ref a0, .ref b0, .int (nt 2), .int (nt 3), .int (nt 4), .int (nt 5), .int (nt 6), .int (nt 7), .int (nt 8), .int (nt 9), .int (nt 10)])), (a0, .inr (0, [.int (fa 0), .int (fa 1), .int (fa 2)])), (b0, .inr (0, [.int (fb 0), .int (fb 1), .int (fb 2)]))] sz) := by
  refine xMet (QF := fun A => va_Qi (fun (r : Int32) (u : Unit) => r = kWl fa fb (st 1) (st 2)) (fun (u : Unit) t => xA (dC, dI) (xT cI cZ cJ) [(h0, .inr (3, [.int (st 0), .int (st 1), .int (st 2), .int (st 3), .int (st 4), .int (st 5), .int (st 6), .int (st 7)])), (n0, .inr (2, [.ref a0, .ref b0, .int (nt 2), .int (nt 3), .int (nt 4), .int (nt 5), .int (nt 6), .int (nt 7), .int (nt 8), .int (nt 9), .int (nt 10)])), (a0, .inr (0, [.int (fa 0), .int (fa 1), .int (fa 2)])), (b0, .inr (0, [.int (fb 0), .int (fb 1), .int (fb 2)]))] A t) A) (maxL := 2) (ret := (some .int)) (cc := cX3_worstLevel) (by decide) rfl (Nat.le_of_ble_eq_true rfl) ?_
  intro p e s m below meth c ls A hf hr hlk hnm hK hP hD hA hS hl
  obtain ⟨hx, hb, hml, hown, hts⟩ := id hf
  have iX2 : ∀ w ∈ wsX20, w ∈ wsX3_worstLevel := by decide +kernel
  have iX3 : ∀ w ∈ wsX30, w ∈ wsX3_worstLevel := by decide +kernel
  have hl : lv_has ls 2 [(0, .ref h0), (1, .ref n0)] := hl
  have hP : va_P (dC, dI) vwCl [(h0, .inr (3, [.int (st 0), .int (st 1), .int (st 2), .int (st 3), .int (st 4), .int (st 5), .int (st 6), .int (st 7)])), (n0, .inr (2, [.ref a0, .ref b0, .int (nt 2), .int (nt 3), .int (nt 4), .int (nt 5), .int (nt 6), .int (nt 7), .int (nt 8), .int (nt 9), .int (nt 10)])), (a0, .inr (0, [.int (fa 0), .int (fa 1), .int (fa 2)])), (b0, .inr (0, [.int (fb 0), .int (fb 1), .int (fb 2)]))] s.heap := hP
  refine lv_aload_n hx hb dX3_worstLevel_0 rfl (lv_at hl 1 rfl) ?_
  refine va_get (D := (dC, dI)) (ci := 2) (v := .ref a0) (C := RX2) (T := TX2) (N := 11) hx hb hts iX2 hown hK hP 1 rfl rfl 0 (by decide) (hts (.fieldLink RX3 37 "Barrierbook$Note" "asset0" "LBarrierbook$Asset;") (by decide +kernel)) (fun _ h9 => h9) rfl dX3_worstLevel_1 ?_
  refine lv_aload_n hx hb dX3_worstLevel_4 rfl (lv_at hl 0 rfl) ?_
  refine va_get (D := (dC, dI)) (ci := 3) (v := .int (st 1)) (C := RX3) (T := TX3) (N := 8) hx hb hts iX3 hown hK hP 0 rfl rfl 1 (by decide) (hts (.fieldLink RX3 15 "Barrierbook$Standing" "price0" "I") (by decide +kernel)) (fun _ h9 => h9) rfl dX3_worstLevel_5 ?_
  refine xci (wr := [(h0, .inr (3, [.int (st 0), .int (st 1), .int (st 2), .int (st 3), .int (st 4), .int (st 5), .int (st 6), .int (st 7)])), (n0, .inr (2, [.ref a0, .ref b0, .int (nt 2), .int (nt 3), .int (nt 4), .int (nt 5), .int (nt 6), .int (nt 7), .int (nt 8), .int (nt 9), .int (nt 10)])), (b0, .inr (0, [.int (fb 0), .int (fb 1), .int (fb 2)]))]) (va_runV (As := [.int (st 1)]) (rest := []) hf (c_X0_levelAt l dC dI cI cZ cJ s.heap.size a0 fa (st 1)) (cwV 1 hts gX3_worstLevel_X0_levelAt rfl rfl rfl (by decide +kernel) ⟨Nat.le_of_ble_eq_true rfl, Nat.le_of_ble_eq_true rfl⟩) (xPV (qc := (RX0, TX0, 3)) hK hP hD [2] rfl rfl 0 rfl rfl) rfl rfl hl.1 rfl (lv_room (Nat.le_of_ble_eq_true rfl)) dX3_worstLevel_8 ⟨Nat.le_of_ble_eq_true rfl, Nat.le_of_ble_eq_true rfl⟩) hP hD hS hA [2] [0, 1, 3] rfl rfl rfl (by decide) (fun r_8 u_8 H locs w_8 hP hD hS => ?_)
  have hP : va_P (dC, dI) vwCl [(h0, .inr (3, [.int (st 0), .int (st 1), .int (st 2), .int (st 3), .int (st 4), .int (st 5), .int (st 6), .int (st 7)])), (n0, .inr (2, [.ref a0, .ref b0, .int (nt 2), .int (nt 3), .int (nt 4), .int (nt 5), .int (nt 6), .int (nt 7), .int (nt 8), .int (nt 9), .int (nt 10)])), (b0, .inr (0, [.int (fb 0), .int (fb 1), .int (fb 2)])), (a0, .inr (0, [.int (fa 0), .int (fa 1), .int (fa 2)]))] H := hP
  have hD : va_D A [(h0, .inr (3, [.int (st 0), .int (st 1), .int (st 2), .int (st 3), .int (st 4), .int (st 5), .int (st 6), .int (st 7)])), (n0, .inr (2, [.ref a0, .ref b0, .int (nt 2), .int (nt 3), .int (nt 4), .int (nt 5), .int (nt 6), .int (nt 7), .int (nt 8), .int (nt 9), .int (nt 10)])), (b0, .inr (0, [.int (fb 0), .int (fb 1), .int (fb 2)])), (a0, .inr (0, [.int (fa 0), .int (fa 1), .int (fa 2)]))] := hD
  refine lv_aload_n hx hb dX3_worstLevel_11 rfl (lv_at hl 1 rfl) ?_
  refine va_get (D := (dC, dI)) (ci := 2) (v := .ref b0) (C := RX2) (T := TX2) (N := 11) hx hb hts iX2 hown hK hP 1 rfl rfl 1 (by decide) (hts (.fieldLink RX3 48 "Barrierbook$Note" "asset1" "LBarrierbook$Asset;") (by decide +kernel)) (fun _ h9 => h9) rfl dX3_worstLevel_12 ?_
  refine lv_aload_n hx hb dX3_worstLevel_15 rfl (lv_at hl 0 rfl) ?_
  refine va_get (D := (dC, dI)) (ci := 3) (v := .int (st 2)) (C := RX3) (T := TX3) (N := 8) hx hb hts iX3 hown hK hP 0 rfl rfl 2 (by decide) (hts (.fieldLink RX3 18 "Barrierbook$Standing" "price1" "I") (by decide +kernel)) (fun _ h9 => h9) rfl dX3_worstLevel_16 ?_
  refine xci (wr := [(h0, .inr (3, [.int (st 0), .int (st 1), .int (st 2), .int (st 3), .int (st 4), .int (st 5), .int (st 6), .int (st 7)])), (n0, .inr (2, [.ref a0, .ref b0, .int (nt 2), .int (nt 3), .int (nt 4), .int (nt 5), .int (nt 6), .int (nt 7), .int (nt 8), .int (nt 9), .int (nt 10)])), (a0, .inr (0, [.int (fa 0), .int (fa 1), .int (fa 2)]))]) (va_runV (As := [.int (st 2)]) (rest := [.int r_8]) hf (c_X0_levelAt l dC dI cI cZ cJ H.size b0 fb (st 2)) (cwV 1 hts gX3_worstLevel_X0_levelAt rfl rfl rfl (by decide +kernel) ⟨Nat.le_of_ble_eq_true rfl, Nat.le_of_ble_eq_true rfl⟩) (xPV (qc := (RX0, TX0, 3)) hK hP hD [2] rfl rfl 0 rfl rfl) rfl rfl hl.1 rfl (lv_room (Nat.le_of_ble_eq_true rfl)) dX3_worstLevel_19 ⟨Nat.le_of_ble_eq_true rfl, Nat.le_of_ble_eq_true rfl⟩) hP hD hS hA [2] [0, 1, 3] rfl rfl rfl (by decide) (fun r_19 u_19 H locs w_19 hP hD hS => ?_)
  have hP : va_P (dC, dI) vwCl [(h0, .inr (3, [.int (st 0), .int (st 1), .int (st 2), .int (st 3), .int (st 4), .int (st 5), .int (st 6), .int (st 7)])), (n0, .inr (2, [.ref a0, .ref b0, .int (nt 2), .int (nt 3), .int (nt 4), .int (nt 5), .int (nt 6), .int (nt 7), .int (nt 8), .int (nt 9), .int (nt 10)])), (a0, .inr (0, [.int (fa 0), .int (fa 1), .int (fa 2)])), (b0, .inr (0, [.int (fb 0), .int (fb 1), .int (fb 2)]))] H := hP
  have hD : va_D A [(h0, .inr (3, [.int (st 0), .int (st 1), .int (st 2), .int (st 3), .int (st 4), .int (st 5), .int (st 6), .int (st 7)])), (n0, .inr (2, [.ref a0, .ref b0, .int (nt 2), .int (nt 3), .int (nt 4), .int (nt 5), .int (nt 6), .int (nt 7), .int (nt 8), .int (nt 9), .int (nt 10)])), (a0, .inr (0, [.int (fa 0), .int (fa 1), .int (fa 2)])), (b0, .inr (0, [.int (fb 0), .int (fb 1), .int (fb 2)]))] := hD
  refine va_mmin hx hb (hml.trans hl.1.symm) hown (hts (.methodLink RX3 55 Lib.Math.min.name) (by decide +kernel)) (hts (.static Lib.Math.min.name) (by decide +kernel)) (hts (.initialized "java/lang/Math") (by decide +kernel)) (hts (.code Lib.Math.min.name Lib.Math.min.code 2 (some .int)) (by decide +kernel)) (Nat.le_of_ble_eq_true rfl) (Nat.le_of_ble_eq_true rfl) (Nat.le_of_ble_eq_true rfl) (Nat.le_of_ble_eq_true rfl) dX3_worstLevel_22 ?_
  refine lv_topi (fun x_22 e_22 => ?_)
  exact xri hf hr hlk (()) (by subst e_22; simp [kWl, kMin, x8f, w_8, w_19]) (hP.sub [0, 1, 2, 3] rfl) (hD.sub [0, 1, 2, 3] rfl rfl) hK hS dX3_worstLevel_25
set_option maxHeartbeats 4000000 in
set_option maxRecDepth 100000 in
theorem c_X3_takeCoupons (l : Launch) (dC : Nat → ClassId) (dI : Nat → Nat → Nat) (cI cZ cJ : ClassId) (sz : Nat) (h0 n0 a0 b0 : Nat) (st nt : Nat → Int32) (lev : Int32) : Met l yX3_takeCoupons wsX3_takeCoupons ({ frames := 0, cells := 0, slots := 0, locals := 0 }) (va_Pc [.ref h0, .ref n0, .int lev] (xB (dC, dI) (xT cI cZ cJ) [(h0, .inr (3, [.int (st 0), .int (st 1), .int (st 2), .int (st 3), .int (st 4), .int (st 5), .int (st 6), .int (st 7)])), (n0, .inr (2, [.ref a0, .ref b0, .int (nt 2), .int (nt 3), .int (nt 4), .int (nt 5), .int (nt 6), .int (nt 7), .int (nt 8), .int (nt 9), .int (nt 10)]))] sz)) (va_Qi (fun (r : Int32) (u : Nat → Int32) => r = kCp nt lev (st 3) ∧ u = x8f (st 0) (st 1) (st 2) (kMs nt lev (st 3)) (st 4) (st 5) (st 6) (st 7)) (fun (u : Nat → Int32) t => xA (dC, dI) (xT cI cZ cJ) [(h0, .inr (3, [.int (u 0), .int (u 1), .int (u 2), .int (u 3), .int (u 4), .int (u 5), .int (u 6), .int (u 7)])), (n0, .inr (2, [.ref a0, .ref b0, .int (nt 2), .int (nt 3), .int (nt 4), .int (nt 5), .int (nt 6), .int (nt 7), .int (nt 8), .int (nt 9), .int (nt 10)]))] (va_A [(h0, .inr (3, [.int (st 0), .int (st 1), .int (st 2), .int (st 3), .int (st 4), .int (st 5), .int (st 6), .int (st 7)])), (n0, .inr (2, [.ref a0, .ref b0, .int (nt 2), .int (nt 3), .int (nt 4), .int (nt 5), .int (nt 6), .int (nt 7), .int (nt 8), .int (nt 9), .int (nt 10)]))] sz) t) (va_A [(h0, .inr (3, [.int (st 0), .int (st 1), .int (st 2), .int (st 3), .int (st 4), .int (st 5), .int (st 6), .int (st 7)])), (n0, .inr (2, [.ref a0, .ref b0, .int (nt 2), .int (nt 3), .int (nt 4), .int (nt 5), .int (nt 6), .int (nt 7), .int (nt 8), .int (nt 9), .int (nt 10)]))] sz)) 0 0 (va_A [(h0, .inr (3, [.int (st 0), .int (st 1), .int (st 2), .int (st 3), .int (st 4), .int (st 5), .int (st 6), .int (st 7)])), (n0, .inr (2, [.ref a0, .ref b0, .int (nt 2), .int (nt 3), .int (nt 4), .int (nt 5), .int (nt 6), .int (nt 7), .int (nt 8), .int (nt 9), .int (nt 10)]))] sz) := by
  refine xMet (QF := fun A => va_Qi (fun (r : Int32) (u : Nat → Int32) => r = kCp nt lev (st 3) ∧ u = x8f (st 0) (st 1) (st 2) (kMs nt lev (st 3)) (st 4) (st 5) (st 6) (st 7)) (fun (u : Nat → Int32) t => xA (dC, dI) (xT cI cZ cJ) [(h0, .inr (3, [.int (u 0), .int (u 1), .int (u 2), .int (u 3), .int (u 4), .int (u 5), .int (u 6), .int (u 7)])), (n0, .inr (2, [.ref a0, .ref b0, .int (nt 2), .int (nt 3), .int (nt 4), .int (nt 5), .int (nt 6), .int (nt 7), .int (nt 8), .int (nt 9), .int (nt 10)]))] A t) A) (maxL := 4) (ret := (some .int)) (cc := cX3_takeCoupons) (by decide) rfl (Nat.le_of_ble_eq_true rfl) ?_
  intro p e s m below meth c ls A hf hr hlk hnm hK hP hD hA hS hl
  obtain ⟨hx, hb, hml, hown, hts⟩ := id hf
  have iX2 : ∀ w ∈ wsX20, w ∈ wsX3_takeCoupons := by decide +kernel
  have iX3 : ∀ w ∈ wsX30, w ∈ wsX3_takeCoupons := by decide +kernel
  have hl : lv_has ls 4 [(0, .ref h0), (1, .ref n0), (2, .int lev)] := hl
  have hP : va_P (dC, dI) vwCl [(h0, .inr (3, [.int (st 0), .int (st 1), .int (st 2), .int (st 3), .int (st 4), .int (st 5), .int (st 6), .int (st 7)])), (n0, .inr (2, [.ref a0, .ref b0, .int (nt 2), .int (nt 3), .int (nt 4), .int (nt 5), .int (nt 6), .int (nt 7), .int (nt 8), .int (nt 9), .int (nt 10)]))] s.heap := hP
  refine lv_iload_n hx hb dX3_takeCoupons_0 rfl (lv_at hl 2 rfl) ?_
  refine lv_aload_n hx hb dX3_takeCoupons_1 rfl (lv_at hl 1 rfl) ?_
  refine va_get (D := (dC, dI)) (ci := 2) (v := .int (nt 6)) (C := RX2) (T := TX2) (N := 11) hx hb hts iX2 hown hK hP 1 rfl rfl 6 (by decide) (hts (.fieldLink RX3 91 "Barrierbook$Note" "couponLevel" "I") (by decide +kernel)) (fun _ h9 => h9) rfl dX3_takeCoupons_2 ?_
  refine lv_icmp_ge (tgt := 20) hx hb dX3_takeCoupons_5 (by decide) (fun c_5 => ?_) (fun c_5 => ?_)
  · refine lv_aload_n hx hb dX3_takeCoupons_20 rfl (lv_at hl 1 rfl) ?_
    refine va_get (D := (dC, dI)) (ci := 2) (v := .int (nt 10)) (C := RX2) (T := TX2) (N := 11) hx hb hts iX2 hown hK hP 1 rfl rfl 10 (by decide) (hts (.fieldLink RX3 94 "Barrierbook$Note" "remembers" "Z") (by decide +kernel)) (fun _ h9 => h9) rfl dX3_takeCoupons_21 ?_
    refine lv_if_eq (tgt := 36) hx hb dX3_takeCoupons_24 (by decide) (fun c_24 => ?_) (fun c_24 => ?_)
    · refine lv_iconst (v := 1) hx hb dX3_takeCoupons_36 (by decide) ?_
      refine lv_istore_n (lv' := [(3, .int 1), (0, .ref h0), (1, .ref n0), (2, .int lev)]) hx hb dX3_takeCoupons_37 rfl hl (by decide) rfl (fun ls hl => ?_)
      refine lv_aload_n hx hb dX3_takeCoupons_38 rfl (lv_at hl 1 rfl) ?_
      refine lv_iconst (v := 0) hx hb dX3_takeCoupons_39 (by decide) ?_
      refine va_put (D := (dC, dI)) (ci := 3) (v := .int 0) (ty := .int) (C := RX3) (T := TX3) (N := 8) hx hb hts iX3 tyX3 tyX3_ok nmX3 hown hK hP hD hS 0 rfl rfl 3 (by decide) (hts (.fieldLink RX3 21 "Barrierbook$Standing" "missed" "I") (by decide +kernel)) (fun _ h9 => h9) rfl (by decide +kernel) rfl rfl (Nat.le_of_ble_eq_true rfl) dX3_takeCoupons_40 (fun H locs hP hD hS => ?_)
      have hP : va_P (dC, dI) vwCl [(h0, .inr (3, [.int (st 0), .int (st 1), .int (st 2), .int 0, .int (st 4), .int (st 5), .int (st 6), .int (st 7)])), (n0, .inr (2, [.ref a0, .ref b0, .int (nt 2), .int (nt 3), .int (nt 4), .int (nt 5), .int (nt 6), .int (nt 7), .int (nt 8), .int (nt 9), .int (nt 10)]))] H := hP
      have hD : va_D A [(h0, .inr (3, [.int (st 0), .int (st 1), .int (st 2), .int 0, .int (st 4), .int (st 5), .int (st 6), .int (st 7)])), (n0, .inr (2, [.ref a0, .ref b0, .int (nt 2), .int (nt 3), .int (nt 4), .int (nt 5), .int (nt 6), .int (nt 7), .int (nt 8), .int (nt 9), .int (nt 10)]))] := hD
      refine lv_iload_n hx hb dX3_takeCoupons_43 rfl (lv_at hl 0 rfl) ?_
      refine lv_aload_n hx hb dX3_takeCoupons_44 rfl (lv_at hl 2 rfl) ?_
      refine va_get (D := (dC, dI)) (ci := 2) (v := .int (nt 8)) (C := RX2) (T := TX2) (N := 11) hx hb hts iX2 hown hK hP 1 rfl rfl 8 (by decide) (hts (.fieldLink RX3 97 "Barrierbook$Note" "coupon" "I") (by decide +kernel)) (fun _ h9 => h9) rfl dX3_takeCoupons_45 ?_
      refine lv_imul hx hb dX3_takeCoupons_48 ?_
      refine lv_topi (fun x_48 e_48 => ?_)
      exact xri hf hr hlk (x8f (st 0) (st 1) (st 2) 0 (st 4) (st 5) (st 6) (st 7)) (by subst e_48; simp [kCp, kMs, x8f, c_5, c_24]) (hP.sub [0, 1] rfl) (hD.sub [0, 1] rfl rfl) hK hS dX3_takeCoupons_49
    refine lv_iconst (v := 1) hx hb dX3_takeCoupons_27 (by decide) ?_
    refine lv_aload_n hx hb dX3_takeCoupons_28 rfl (lv_at hl 0 rfl) ?_
    refine va_get (D := (dC, dI)) (ci := 3) (v := .int (st 3)) (C := RX3) (T := TX3) (N := 8) hx hb hts iX3 hown hK hP 0 rfl rfl 3 (by decide) (hts (.fieldLink RX3 21 "Barrierbook$Standing" "missed" "I") (by decide +kernel)) (fun _ h9 => h9) rfl dX3_takeCoupons_29 ?_
    refine lv_iadd hx hb dX3_takeCoupons_32 ?_
    refine lv_topi (fun x_32 e_32 => ?_)
    refine lv_goto (tgt := 37) hx hb dX3_takeCoupons_33 (by decide) ?_
    refine lv_istore_n (lv' := [(3, .int x_32), (0, .ref h0), (1, .ref n0), (2, .int lev)]) hx hb dX3_takeCoupons_37 rfl hl (by decide) rfl (fun ls hl => ?_)
    refine lv_aload_n hx hb dX3_takeCoupons_38 rfl (lv_at hl 1 rfl) ?_
    refine lv_iconst (v := 0) hx hb dX3_takeCoupons_39 (by decide) ?_
    refine va_put (D := (dC, dI)) (ci := 3) (v := .int 0) (ty := .int) (C := RX3) (T := TX3) (N := 8) hx hb hts iX3 tyX3 tyX3_ok nmX3 hown hK hP hD hS 0 rfl rfl 3 (by decide) (hts (.fieldLink RX3 21 "Barrierbook$Standing" "missed" "I") (by decide +kernel)) (fun _ h9 => h9) rfl (by decide +kernel) rfl rfl (Nat.le_of_ble_eq_true rfl) dX3_takeCoupons_40 (fun H locs hP hD hS => ?_)
    have hP : va_P (dC, dI) vwCl [(h0, .inr (3, [.int (st 0), .int (st 1), .int (st 2), .int 0, .int (st 4), .int (st 5), .int (st 6), .int (st 7)])), (n0, .inr (2, [.ref a0, .ref b0, .int (nt 2), .int (nt 3), .int (nt 4), .int (nt 5), .int (nt 6), .int (nt 7), .int (nt 8), .int (nt 9), .int (nt 10)]))] H := hP
    have hD : va_D A [(h0, .inr (3, [.int (st 0), .int (st 1), .int (st 2), .int 0, .int (st 4), .int (st 5), .int (st 6), .int (st 7)])), (n0, .inr (2, [.ref a0, .ref b0, .int (nt 2), .int (nt 3), .int (nt 4), .int (nt 5), .int (nt 6), .int (nt 7), .int (nt 8), .int (nt 9), .int (nt 10)]))] := hD
    refine lv_iload_n hx hb dX3_takeCoupons_43 rfl (lv_at hl 0 rfl) ?_
    refine lv_aload_n hx hb dX3_takeCoupons_44 rfl (lv_at hl 2 rfl) ?_
    refine va_get (D := (dC, dI)) (ci := 2) (v := .int (nt 8)) (C := RX2) (T := TX2) (N := 11) hx hb hts iX2 hown hK hP 1 rfl rfl 8 (by decide) (hts (.fieldLink RX3 97 "Barrierbook$Note" "coupon" "I") (by decide +kernel)) (fun _ h9 => h9) rfl dX3_takeCoupons_45 ?_
    refine lv_imul hx hb dX3_takeCoupons_48 ?_
    refine lv_topi (fun x_48 e_48 => ?_)
    exact xri hf hr hlk (x8f (st 0) (st 1) (st 2) 0 (st 4) (st 5) (st 6) (st 7)) (by subst e_32 e_48; simp [kCp, kMs, x8f, c_5, c_24]) (hP.sub [0, 1] rfl) (hD.sub [0, 1] rfl rfl) hK hS dX3_takeCoupons_49
  refine lv_aload_n hx hb dX3_takeCoupons_8 rfl (lv_at hl 0 rfl) ?_
  refine lv_dup hx hb dX3_takeCoupons_9 rfl ?_
  refine va_get (D := (dC, dI)) (ci := 3) (v := .int (st 3)) (C := RX3) (T := TX3) (N := 8) hx hb hts iX3 hown hK hP 0 rfl rfl 3 (by decide) (hts (.fieldLink RX3 21 "Barrierbook$Standing" "missed" "I") (by decide +kernel)) (fun _ h9 => h9) rfl dX3_takeCoupons_10 ?_
  refine lv_iconst (v := 1) hx hb dX3_takeCoupons_13 (by decide) ?_
  refine lv_iadd hx hb dX3_takeCoupons_14 ?_
  refine lv_topi (fun x_14 e_14 => ?_)
  refine va_put (D := (dC, dI)) (ci := 3) (v := .int x_14) (ty := .int) (C := RX3) (T := TX3) (N := 8) hx hb hts iX3 tyX3 tyX3_ok nmX3 hown hK hP hD hS 0 rfl rfl 3 (by decide) (hts (.fieldLink RX3 21 "Barrierbook$Standing" "missed" "I") (by decide +kernel)) (fun _ h9 => h9) rfl (by decide +kernel) rfl rfl (Nat.le_of_ble_eq_true rfl) dX3_takeCoupons_15 (fun H locs hP hD hS => ?_)
  have hP : va_P (dC, dI) vwCl [(h0, .inr (3, [.int (st 0), .int (st 1), .int (st 2), .int x_14, .int (st 4), .int (st 5), .int (st 6), .int (st 7)])), (n0, .inr (2, [.ref a0, .ref b0, .int (nt 2), .int (nt 3), .int (nt 4), .int (nt 5), .int (nt 6), .int (nt 7), .int (nt 8), .int (nt 9), .int (nt 10)]))] H := hP
  have hD : va_D A [(h0, .inr (3, [.int (st 0), .int (st 1), .int (st 2), .int x_14, .int (st 4), .int (st 5), .int (st 6), .int (st 7)])), (n0, .inr (2, [.ref a0, .ref b0, .int (nt 2), .int (nt 3), .int (nt 4), .int (nt 5), .int (nt 6), .int (nt 7), .int (nt 8), .int (nt 9), .int (nt 10)]))] := hD
  refine lv_iconst (v := 0) hx hb dX3_takeCoupons_18 (by decide) ?_
  exact xri hf hr hlk (x8f (st 0) (st 1) (st 2) x_14 (st 4) (st 5) (st 6) (st 7)) (by subst e_14; simp [kCp, kMs, x8f, c_5]) (hP.sub [0, 1] rfl) (hD.sub [0, 1] rfl rfl) hK hS dX3_takeCoupons_19
set_option maxHeartbeats 4000000 in
set_option maxRecDepth 100000 in
theorem c_X3_endPay (l : Launch) (dC : Nat → ClassId) (dI : Nat → Nat → Nat) (cI cZ cJ : ClassId) (sz : Nat) (h0 : Nat) (st : Nat → Int32) (lev last : Int32) : Met l yX3_endPay wsX3_endPay ({ frames := 0, cells := 0, slots := 0, locals := 0 }) (va_Pc [.ref h0, .int lev, .int last] (xB (dC, dI) (xT cI cZ cJ) [(h0, .inr (3, [.int (st 0), .int (st 1), .int (st 2), .int (st 3), .int (st 4), .int (st 5), .int (st 6), .int (st 7)]))] sz)) (va_Qi (fun (r : Int32) (u : Unit) => r = kEp lev last (st 4)) (fun (u : Unit) t => xA (dC, dI) (xT cI cZ cJ) [(h0, .inr (3, [.int (st 0), .int (st 1), .int (st 2), .int (st 3), .int (st 4), .int (st 5), .int (st 6), .int (st 7)]))] (va_A [(h0, .inr (3, [.int (st 0), .int (st 1), .int (st 2), .int (st 3), .int (st 4), .int (st 5), .int (st 6), .int (st 7)]))] sz) t) (va_A [(h0, .inr (3, [.int (st 0), .int (st 1), .int (st 2), .int (st 3), .int (st 4), .int (st 5), .int (st 6), .int (st 7)]))] sz)) 0 0 (va_A [(h0, .inr (3, [.int (st 0), .int (st 1), .int (st 2), .int (st 3), .int (st 4), .int (st 5), .int (st 6), .int (st 7)]))] sz) := by
  refine xMet (QF := fun A => va_Qi (fun (r : Int32) (u : Unit) => r = kEp lev last (st 4)) (fun (u : Unit) t => xA (dC, dI) (xT cI cZ cJ) [(h0, .inr (3, [.int (st 0), .int (st 1), .int (st 2), .int (st 3), .int (st 4), .int (st 5), .int (st 6), .int (st 7)]))] A t) A) (maxL := 4) (ret := (some .int)) (cc := cX3_endPay) (by decide) rfl (Nat.le_of_ble_eq_true rfl) ?_
  intro p e s m below meth c ls A hf hr hlk hnm hK hP hD hA hS hl
  obtain ⟨hx, hb, hml, hown, hts⟩ := id hf
  have iX3 : ∀ w ∈ wsX30, w ∈ wsX3_endPay := by decide +kernel
  have hl : lv_has ls 4 [(0, .ref h0), (1, .int lev), (2, .int last)] := hl
  have hP : va_P (dC, dI) vwCl [(h0, .inr (3, [.int (st 0), .int (st 1), .int (st 2), .int (st 3), .int (st 4), .int (st 5), .int (st 6), .int (st 7)]))] s.heap := hP
  refine lv_iload_n hx hb dX3_endPay_0 rfl (lv_at hl 2 rfl) ?_
  refine lv_if_eq (tgt := 21) hx hb dX3_endPay_1 (by decide) (fun c_1 => ?_) (fun c_1 => ?_)
  · refine lv_iconst (v := 0) hx hb dX3_endPay_21 (by decide) ?_
    refine lv_istore_n (lv' := [(3, .int 0), (0, .ref h0), (1, .int lev), (2, .int last)]) hx hb dX3_endPay_22 rfl hl (by decide) rfl (fun ls hl => ?_)
    refine lv_iload_n hx hb dX3_endPay_23 rfl (lv_at hl 0 rfl) ?_
    refine lv_if_eq (tgt := 34) hx hb dX3_endPay_24 (by decide) (fun c_24 => ?_) (fun c_24 => ?_)
    · refine lv_sipush (v := 1000) hx hb dX3_endPay_34 (by decide +kernel) ?_
      exact xri hf hr hlk (()) (by simp [kEp, x8f, c_1, c_24]) (hP.sub [0] rfl) (hD.sub [0] rfl rfl) hK hS dX3_endPay_37
    · exact absurd (by decide) c_24
  refine lv_aload_n hx hb dX3_endPay_4 rfl (lv_at hl 0 rfl) ?_
  refine va_get (D := (dC, dI)) (ci := 3) (v := .int (st 4)) (C := RX3) (T := TX3) (N := 8) hx hb hts iX3 hown hK hP 0 rfl rfl 4 (by decide) (hts (.fieldLink RX3 24 "Barrierbook$Standing" "isKnocked" "Z") (by decide +kernel)) (fun _ h9 => h9) rfl dX3_endPay_5 ?_
  refine lv_if_eq (tgt := 21) hx hb dX3_endPay_8 (by decide) (fun c_8 => ?_) (fun c_8 => ?_)
  · refine lv_iconst (v := 0) hx hb dX3_endPay_21 (by decide) ?_
    refine lv_istore_n (lv' := [(3, .int 0), (0, .ref h0), (1, .int lev), (2, .int last)]) hx hb dX3_endPay_22 rfl hl (by decide) rfl (fun ls hl => ?_)
    refine lv_iload_n hx hb dX3_endPay_23 rfl (lv_at hl 0 rfl) ?_
    refine lv_if_eq (tgt := 34) hx hb dX3_endPay_24 (by decide) (fun c_24 => ?_) (fun c_24 => ?_)
    · refine lv_sipush (v := 1000) hx hb dX3_endPay_34 (by decide +kernel) ?_
      exact xri hf hr hlk (()) (by simp [kEp, x8f, c_1, c_8, c_24]) (hP.sub [0] rfl) (hD.sub [0] rfl rfl) hK hS dX3_endPay_37
    · exact absurd (by decide) c_24
  refine lv_iload_n hx hb dX3_endPay_11 rfl (lv_at hl 1 rfl) ?_
  refine lv_bipush (v := 100) hx hb dX3_endPay_12 (by decide) ?_
  refine lv_icmp_ge (tgt := 21) hx hb dX3_endPay_14 (by decide) (fun c_14 => ?_) (fun c_14 => ?_)
  · refine lv_iconst (v := 0) hx hb dX3_endPay_21 (by decide) ?_
    refine lv_istore_n (lv' := [(3, .int 0), (0, .ref h0), (1, .int lev), (2, .int last)]) hx hb dX3_endPay_22 rfl hl (by decide) rfl (fun ls hl => ?_)
    refine lv_iload_n hx hb dX3_endPay_23 rfl (lv_at hl 0 rfl) ?_
    refine lv_if_eq (tgt := 34) hx hb dX3_endPay_24 (by decide) (fun c_24 => ?_) (fun c_24 => ?_)
    · refine lv_sipush (v := 1000) hx hb dX3_endPay_34 (by decide +kernel) ?_
      exact xri hf hr hlk (()) (by simp [kEp, x8f, c_1, c_8, c_14, c_24]) (hP.sub [0] rfl) (hD.sub [0] rfl rfl) hK hS dX3_endPay_37
    · exact absurd (by decide) c_24
  refine lv_iconst (v := 1) hx hb dX3_endPay_17 (by decide) ?_
  refine lv_goto (tgt := 22) hx hb dX3_endPay_18 (by decide) ?_
  refine lv_istore_n (lv' := [(3, .int 1), (0, .ref h0), (1, .int lev), (2, .int last)]) hx hb dX3_endPay_22 rfl hl (by decide) rfl (fun ls hl => ?_)
  refine lv_iload_n hx hb dX3_endPay_23 rfl (lv_at hl 0 rfl) ?_
  refine lv_if_eq (tgt := 34) hx hb dX3_endPay_24 (by decide) (fun c_24 => ?_) (fun c_24 => ?_)
  · exact absurd c_24 (by decide)
  refine lv_bipush (v := 10) hx hb dX3_endPay_27 (by decide) ?_
  refine lv_iload_n hx hb dX3_endPay_29 rfl (lv_at hl 2 rfl) ?_
  refine lv_imul hx hb dX3_endPay_30 ?_
  refine lv_topi (fun x_30 e_30 => ?_)
  refine lv_goto (tgt := 37) hx hb dX3_endPay_31 (by decide) ?_
  exact xri hf hr hlk (()) (by subst e_30; simp [kEp, x8f, c_1, c_8, c_14, c_24]) (hP.sub [0] rfl) (hD.sub [0] rfl rfl) hK hS dX3_endPay_37
set_option maxHeartbeats 4000000 in
set_option maxRecDepth 100000 in
theorem c_X3_begin (l : Launch) (dC : Nat → ClassId) (dI : Nat → Nat → Nat) (cI cZ cJ : ClassId) (sz : Nat) (h0 n0 a0 b0 : Nat) (st nt fa fb : Nat → Int32) : Met l yX3_begin wsX3_begin ({ frames := 0, cells := 0, slots := 0, locals := 0 }) (va_Pc [.ref h0, .ref n0] (xB (dC, dI) (xT cI cZ cJ) [(h0, .inr (3, [.int (st 0), .int (st 1), .int (st 2), .int (st 3), .int (st 4), .int (st 5), .int (st 6), .int (st 7)])), (n0, .inr (2, [.ref a0, .ref b0, .int (nt 2), .int (nt 3), .int (nt 4), .int (nt 5), .int (nt 6), .int (nt 7), .int (nt 8), .int (nt 9), .int (nt 10)])), (a0, .inr (0, [.int (fa 0), .int (fa 1), .int (fa 2)])), (b0, .inr (0, [.int (fb 0), .int (fb 1), .int (fb 2)]))] sz)) (va_Qv (fun (u : Unit) => True) (fun (u : Unit) t => xA (dC, dI) (xT cI cZ cJ) [(h0, .inr (3, [.int ((x8f 0 (fa 0) (fb 0) 0 0 0 0 0) 0), .int ((x8f 0 (fa 0) (fb 0) 0 0 0 0 0) 1), .int ((x8f 0 (fa 0) (fb 0) 0 0 0 0 0) 2), .int ((x8f 0 (fa 0) (fb 0) 0 0 0 0 0) 3), .int ((x8f 0 (fa 0) (fb 0) 0 0 0 0 0) 4), .int ((x8f 0 (fa 0) (fb 0) 0 0 0 0 0) 5), .int ((x8f 0 (fa 0) (fb 0) 0 0 0 0 0) 6), .int ((x8f 0 (fa 0) (fb 0) 0 0 0 0 0) 7)])), (n0, .inr (2, [.ref a0, .ref b0, .int (nt 2), .int (nt 3), .int (nt 4), .int (nt 5), .int (nt 6), .int (nt 7), .int (nt 8), .int (nt 9), .int (nt 10)])), (a0, .inr (0, [.int (fa 0), .int (fa 1), .int (fa 2)])), (b0, .inr (0, [.int (fb 0), .int (fb 1), .int (fb 2)]))] (va_A [(h0, .inr (3, [.int (st 0), .int (st 1), .int (st 2), .int (st 3), .int (st 4), .int (st 5), .int (st 6), .int (st 7)])), (n0, .inr (2, [.ref a0, .ref b0, .int (nt 2), .int (nt 3), .int (nt 4), .int (nt 5), .int (nt 6), .int (nt 7), .int (nt 8), .int (nt 9), .int (nt 10)])), (a0, .inr (0, [.int (fa 0), .int (fa 1), .int (fa 2)])), (b0, .inr (0, [.int (fb 0), .int (fb 1), .int (fb 2)]))] sz) t) (va_A [(h0, .inr (3, [.int (st 0), .int (st 1), .int (st 2), .int (st 3), .int (st 4), .int (st 5), .int (st 6), .int (st 7)])), (n0, .inr (2, [.ref a0, .ref b0, .int (nt 2), .int (nt 3), .int (nt 4), .int (nt 5), .int (nt 6), .int (nt 7), .int (nt 8), .int (nt 9), .int (nt 10)])), (a0, .inr (0, [.int (fa 0), .int (fa 1), .int (fa 2)])), (b0, .inr (0, [.int (fb 0), .int (fb 1), .int (fb 2)]))] sz)) 0 0 (va_A [(h0, .inr (3, [.int (st 0), .int (st 1), .int (st 2), .int (st 3), .int (st 4), .int (st 5), .int (st 6), .int (st 7)])), (n0, .inr (2, [.ref a0, .ref b0, .int (nt 2), .int (nt 3), .int (nt 4), .int (nt 5), .int (nt 6), .int (nt 7), .int (nt 8), .int (nt 9), .int (nt 10)])), (a0, .inr (0, [.int (fa 0), .int (fa 1), .int (fa 2)])), (b0, .inr (0, [.int (fb 0), .int (fb 1), .int (fb 2)]))] sz) := by
  refine xMet (QF := fun A => va_Qv (fun (u : Unit) => True) (fun (u : Unit) t => xA (dC, dI) (xT cI cZ cJ) [(h0, .inr (3, [.int ((x8f 0 (fa 0) (fb 0) 0 0 0 0 0) 0), .int ((x8f 0 (fa 0) (fb 0) 0 0 0 0 0) 1), .int ((x8f 0 (fa 0) (fb 0) 0 0 0 0 0) 2), .int ((x8f 0 (fa 0) (fb 0) 0 0 0 0 0) 3), .int ((x8f 0 (fa 0) (fb 0) 0 0 0 0 0) 4), .int ((x8f 0 (fa 0) (fb 0) 0 0 0 0 0) 5), .int ((x8f 0 (fa 0) (fb 0) 0 0 0 0 0) 6), .int ((x8f 0 (fa 0) (fb 0) 0 0 0 0 0) 7)])), (n0, .inr (2, [.ref a0, .ref b0, .int (nt 2), .int (nt 3), .int (nt 4), .int (nt 5), .int (nt 6), .int (nt 7), .int (nt 8), .int (nt 9), .int (nt 10)])), (a0, .inr (0, [.int (fa 0), .int (fa 1), .int (fa 2)])), (b0, .inr (0, [.int (fb 0), .int (fb 1), .int (fb 2)]))] A t) A) (maxL := 2) (ret := none) (cc := cX3_begin) (by decide) rfl (Nat.le_of_ble_eq_true rfl) ?_
  intro p e s m below meth c ls A hf hr hlk hnm hK hP hD hA hS hl
  obtain ⟨hx, hb, hml, hown, hts⟩ := id hf
  have iX0 : ∀ w ∈ wsX00, w ∈ wsX3_begin := by decide +kernel
  have iX2 : ∀ w ∈ wsX20, w ∈ wsX3_begin := by decide +kernel
  have iX3 : ∀ w ∈ wsX30, w ∈ wsX3_begin := by decide +kernel
  have hl : lv_has ls 2 [(0, .ref h0), (1, .ref n0)] := hl
  have hP : va_P (dC, dI) vwCl [(h0, .inr (3, [.int (st 0), .int (st 1), .int (st 2), .int (st 3), .int (st 4), .int (st 5), .int (st 6), .int (st 7)])), (n0, .inr (2, [.ref a0, .ref b0, .int (nt 2), .int (nt 3), .int (nt 4), .int (nt 5), .int (nt 6), .int (nt 7), .int (nt 8), .int (nt 9), .int (nt 10)])), (a0, .inr (0, [.int (fa 0), .int (fa 1), .int (fa 2)])), (b0, .inr (0, [.int (fb 0), .int (fb 1), .int (fb 2)]))] s.heap := hP
  refine lv_aload_n hx hb dX3_begin_0 rfl (lv_at hl 0 rfl) ?_
  refine lv_iconst (v := 0) hx hb dX3_begin_1 (by decide) ?_
  refine va_put (D := (dC, dI)) (ci := 3) (v := .int 0) (ty := .int) (C := RX3) (T := TX3) (N := 8) hx hb hts iX3 tyX3 tyX3_ok nmX3 hown hK hP hD hS 0 rfl rfl 0 (by decide) (hts (.fieldLink RX3 9 "Barrierbook$Standing" "told" "I") (by decide +kernel)) (fun _ h9 => h9) rfl (by decide +kernel) rfl rfl (Nat.le_of_ble_eq_true rfl) dX3_begin_2 (fun H locs hP hD hS => ?_)
  have hP : va_P (dC, dI) vwCl [(h0, .inr (3, [.int 0, .int (st 1), .int (st 2), .int (st 3), .int (st 4), .int (st 5), .int (st 6), .int (st 7)])), (n0, .inr (2, [.ref a0, .ref b0, .int (nt 2), .int (nt 3), .int (nt 4), .int (nt 5), .int (nt 6), .int (nt 7), .int (nt 8), .int (nt 9), .int (nt 10)])), (a0, .inr (0, [.int (fa 0), .int (fa 1), .int (fa 2)])), (b0, .inr (0, [.int (fb 0), .int (fb 1), .int (fb 2)]))] H := hP
  have hD : va_D A [(h0, .inr (3, [.int 0, .int (st 1), .int (st 2), .int (st 3), .int (st 4), .int (st 5), .int (st 6), .int (st 7)])), (n0, .inr (2, [.ref a0, .ref b0, .int (nt 2), .int (nt 3), .int (nt 4), .int (nt 5), .int (nt 6), .int (nt 7), .int (nt 8), .int (nt 9), .int (nt 10)])), (a0, .inr (0, [.int (fa 0), .int (fa 1), .int (fa 2)])), (b0, .inr (0, [.int (fb 0), .int (fb 1), .int (fb 2)]))] := hD
  refine lv_aload_n hx hb dX3_begin_5 rfl (lv_at hl 0 rfl) ?_
  refine lv_aload_n hx hb dX3_begin_6 rfl (lv_at hl 1 rfl) ?_
  refine va_get (D := (dC, dI)) (ci := 2) (v := .ref a0) (C := RX2) (T := TX2) (N := 11) hx hb hts iX2 hown hK hP 1 rfl rfl 0 (by decide) (hts (.fieldLink RX3 37 "Barrierbook$Note" "asset0" "LBarrierbook$Asset;") (by decide +kernel)) (fun _ h9 => h9) rfl dX3_begin_7 ?_
  refine va_get (D := (dC, dI)) (ci := 0) (v := .int (fa 0)) (C := RX0) (T := TX0) (N := 3) hx hb hts iX0 hown hK hP 2 rfl rfl 0 (by decide) (hts (.fieldLink RX3 43 "Barrierbook$Asset" "first" "I") (by decide +kernel)) (fun _ h9 => h9) rfl dX3_begin_10 ?_
  refine va_put (D := (dC, dI)) (ci := 3) (v := .int (fa 0)) (ty := .int) (C := RX3) (T := TX3) (N := 8) hx hb hts iX3 tyX3 tyX3_ok nmX3 hown hK hP hD hS 0 rfl rfl 1 (by decide) (hts (.fieldLink RX3 15 "Barrierbook$Standing" "price0" "I") (by decide +kernel)) (fun _ h9 => h9) rfl (by decide +kernel) rfl rfl (Nat.le_of_ble_eq_true rfl) dX3_begin_13 (fun H locs hP hD hS => ?_)
  have hP : va_P (dC, dI) vwCl [(h0, .inr (3, [.int 0, .int (fa 0), .int (st 2), .int (st 3), .int (st 4), .int (st 5), .int (st 6), .int (st 7)])), (n0, .inr (2, [.ref a0, .ref b0, .int (nt 2), .int (nt 3), .int (nt 4), .int (nt 5), .int (nt 6), .int (nt 7), .int (nt 8), .int (nt 9), .int (nt 10)])), (a0, .inr (0, [.int (fa 0), .int (fa 1), .int (fa 2)])), (b0, .inr (0, [.int (fb 0), .int (fb 1), .int (fb 2)]))] H := hP
  have hD : va_D A [(h0, .inr (3, [.int 0, .int (fa 0), .int (st 2), .int (st 3), .int (st 4), .int (st 5), .int (st 6), .int (st 7)])), (n0, .inr (2, [.ref a0, .ref b0, .int (nt 2), .int (nt 3), .int (nt 4), .int (nt 5), .int (nt 6), .int (nt 7), .int (nt 8), .int (nt 9), .int (nt 10)])), (a0, .inr (0, [.int (fa 0), .int (fa 1), .int (fa 2)])), (b0, .inr (0, [.int (fb 0), .int (fb 1), .int (fb 2)]))] := hD
  refine lv_aload_n hx hb dX3_begin_16 rfl (lv_at hl 0 rfl) ?_
  refine lv_aload_n hx hb dX3_begin_17 rfl (lv_at hl 1 rfl) ?_
  refine va_get (D := (dC, dI)) (ci := 2) (v := .ref b0) (C := RX2) (T := TX2) (N := 11) hx hb hts iX2 hown hK hP 1 rfl rfl 1 (by decide) (hts (.fieldLink RX3 48 "Barrierbook$Note" "asset1" "LBarrierbook$Asset;") (by decide +kernel)) (fun _ h9 => h9) rfl dX3_begin_18 ?_
  refine va_get (D := (dC, dI)) (ci := 0) (v := .int (fb 0)) (C := RX0) (T := TX0) (N := 3) hx hb hts iX0 hown hK hP 3 rfl rfl 0 (by decide) (hts (.fieldLink RX3 43 "Barrierbook$Asset" "first" "I") (by decide +kernel)) (fun _ h9 => h9) rfl dX3_begin_21 ?_
  refine va_put (D := (dC, dI)) (ci := 3) (v := .int (fb 0)) (ty := .int) (C := RX3) (T := TX3) (N := 8) hx hb hts iX3 tyX3 tyX3_ok nmX3 hown hK hP hD hS 0 rfl rfl 2 (by decide) (hts (.fieldLink RX3 18 "Barrierbook$Standing" "price1" "I") (by decide +kernel)) (fun _ h9 => h9) rfl (by decide +kernel) rfl rfl (Nat.le_of_ble_eq_true rfl) dX3_begin_24 (fun H locs hP hD hS => ?_)
  have hP : va_P (dC, dI) vwCl [(h0, .inr (3, [.int 0, .int (fa 0), .int (fb 0), .int (st 3), .int (st 4), .int (st 5), .int (st 6), .int (st 7)])), (n0, .inr (2, [.ref a0, .ref b0, .int (nt 2), .int (nt 3), .int (nt 4), .int (nt 5), .int (nt 6), .int (nt 7), .int (nt 8), .int (nt 9), .int (nt 10)])), (a0, .inr (0, [.int (fa 0), .int (fa 1), .int (fa 2)])), (b0, .inr (0, [.int (fb 0), .int (fb 1), .int (fb 2)]))] H := hP
  have hD : va_D A [(h0, .inr (3, [.int 0, .int (fa 0), .int (fb 0), .int (st 3), .int (st 4), .int (st 5), .int (st 6), .int (st 7)])), (n0, .inr (2, [.ref a0, .ref b0, .int (nt 2), .int (nt 3), .int (nt 4), .int (nt 5), .int (nt 6), .int (nt 7), .int (nt 8), .int (nt 9), .int (nt 10)])), (a0, .inr (0, [.int (fa 0), .int (fa 1), .int (fa 2)])), (b0, .inr (0, [.int (fb 0), .int (fb 1), .int (fb 2)]))] := hD
  refine lv_aload_n hx hb dX3_begin_27 rfl (lv_at hl 0 rfl) ?_
  refine lv_iconst (v := 0) hx hb dX3_begin_28 (by decide) ?_
  refine va_put (D := (dC, dI)) (ci := 3) (v := .int 0) (ty := .int) (C := RX3) (T := TX3) (N := 8) hx hb hts iX3 tyX3 tyX3_ok nmX3 hown hK hP hD hS 0 rfl rfl 3 (by decide) (hts (.fieldLink RX3 21 "Barrierbook$Standing" "missed" "I") (by decide +kernel)) (fun _ h9 => h9) rfl (by decide +kernel) rfl rfl (Nat.le_of_ble_eq_true rfl) dX3_begin_29 (fun H locs hP hD hS => ?_)
  have hP : va_P (dC, dI) vwCl [(h0, .inr (3, [.int 0, .int (fa 0), .int (fb 0), .int 0, .int (st 4), .int (st 5), .int (st 6), .int (st 7)])), (n0, .inr (2, [.ref a0, .ref b0, .int (nt 2), .int (nt 3), .int (nt 4), .int (nt 5), .int (nt 6), .int (nt 7), .int (nt 8), .int (nt 9), .int (nt 10)])), (a0, .inr (0, [.int (fa 0), .int (fa 1), .int (fa 2)])), (b0, .inr (0, [.int (fb 0), .int (fb 1), .int (fb 2)]))] H := hP
  have hD : va_D A [(h0, .inr (3, [.int 0, .int (fa 0), .int (fb 0), .int 0, .int (st 4), .int (st 5), .int (st 6), .int (st 7)])), (n0, .inr (2, [.ref a0, .ref b0, .int (nt 2), .int (nt 3), .int (nt 4), .int (nt 5), .int (nt 6), .int (nt 7), .int (nt 8), .int (nt 9), .int (nt 10)])), (a0, .inr (0, [.int (fa 0), .int (fa 1), .int (fa 2)])), (b0, .inr (0, [.int (fb 0), .int (fb 1), .int (fb 2)]))] := hD
  refine lv_aload_n hx hb dX3_begin_32 rfl (lv_at hl 0 rfl) ?_
  refine lv_iconst (v := 0) hx hb dX3_begin_33 (by decide) ?_
  refine va_put (D := (dC, dI)) (ci := 3) (v := .int 0) (ty := .boolean) (C := RX3) (T := TX3) (N := 8) hx hb hts iX3 tyX3 tyX3_ok nmX3 hown hK hP hD hS 0 rfl rfl 4 (by decide) (hts (.fieldLink RX3 24 "Barrierbook$Standing" "isKnocked" "Z") (by decide +kernel)) (fun _ h9 => h9) rfl (by decide +kernel) rfl rfl (Nat.le_of_ble_eq_true rfl) dX3_begin_34 (fun H locs hP hD hS => ?_)
  have hP : va_P (dC, dI) vwCl [(h0, .inr (3, [.int 0, .int (fa 0), .int (fb 0), .int 0, .int 0, .int (st 5), .int (st 6), .int (st 7)])), (n0, .inr (2, [.ref a0, .ref b0, .int (nt 2), .int (nt 3), .int (nt 4), .int (nt 5), .int (nt 6), .int (nt 7), .int (nt 8), .int (nt 9), .int (nt 10)])), (a0, .inr (0, [.int (fa 0), .int (fa 1), .int (fa 2)])), (b0, .inr (0, [.int (fb 0), .int (fb 1), .int (fb 2)]))] H := hP
  have hD : va_D A [(h0, .inr (3, [.int 0, .int (fa 0), .int (fb 0), .int 0, .int 0, .int (st 5), .int (st 6), .int (st 7)])), (n0, .inr (2, [.ref a0, .ref b0, .int (nt 2), .int (nt 3), .int (nt 4), .int (nt 5), .int (nt 6), .int (nt 7), .int (nt 8), .int (nt 9), .int (nt 10)])), (a0, .inr (0, [.int (fa 0), .int (fa 1), .int (fa 2)])), (b0, .inr (0, [.int (fb 0), .int (fb 1), .int (fb 2)]))] := hD
  refine lv_aload_n hx hb dX3_begin_37 rfl (lv_at hl 0 rfl) ?_
  refine lv_iconst (v := 0) hx hb dX3_begin_38 (by decide) ?_
  refine va_put (D := (dC, dI)) (ci := 3) (v := .int 0) (ty := .boolean) (C := RX3) (T := TX3) (N := 8) hx hb hts iX3 tyX3 tyX3_ok nmX3 hown hK hP hD hS 0 rfl rfl 5 (by decide) (hts (.fieldLink RX3 28 "Barrierbook$Standing" "isOver" "Z") (by decide +kernel)) (fun _ h9 => h9) rfl (by decide +kernel) rfl rfl (Nat.le_of_ble_eq_true rfl) dX3_begin_39 (fun H locs hP hD hS => ?_)
  have hP : va_P (dC, dI) vwCl [(h0, .inr (3, [.int 0, .int (fa 0), .int (fb 0), .int 0, .int 0, .int 0, .int (st 6), .int (st 7)])), (n0, .inr (2, [.ref a0, .ref b0, .int (nt 2), .int (nt 3), .int (nt 4), .int (nt 5), .int (nt 6), .int (nt 7), .int (nt 8), .int (nt 9), .int (nt 10)])), (a0, .inr (0, [.int (fa 0), .int (fa 1), .int (fa 2)])), (b0, .inr (0, [.int (fb 0), .int (fb 1), .int (fb 2)]))] H := hP
  have hD : va_D A [(h0, .inr (3, [.int 0, .int (fa 0), .int (fb 0), .int 0, .int 0, .int 0, .int (st 6), .int (st 7)])), (n0, .inr (2, [.ref a0, .ref b0, .int (nt 2), .int (nt 3), .int (nt 4), .int (nt 5), .int (nt 6), .int (nt 7), .int (nt 8), .int (nt 9), .int (nt 10)])), (a0, .inr (0, [.int (fa 0), .int (fa 1), .int (fa 2)])), (b0, .inr (0, [.int (fb 0), .int (fb 1), .int (fb 2)]))] := hD
  refine lv_aload_n hx hb dX3_begin_42 rfl (lv_at hl 0 rfl) ?_
  refine lv_iconst (v := 0) hx hb dX3_begin_43 (by decide) ?_
  refine va_put (D := (dC, dI)) (ci := 3) (v := .int 0) (ty := .int) (C := RX3) (T := TX3) (N := 8) hx hb hts iX3 tyX3 tyX3_ok nmX3 hown hK hP hD hS 0 rfl rfl 6 (by decide) (hts (.fieldLink RX3 31 "Barrierbook$Standing" "paidLast" "I") (by decide +kernel)) (fun _ h9 => h9) rfl (by decide +kernel) rfl rfl (Nat.le_of_ble_eq_true rfl) dX3_begin_44 (fun H locs hP hD hS => ?_)
  have hP : va_P (dC, dI) vwCl [(h0, .inr (3, [.int 0, .int (fa 0), .int (fb 0), .int 0, .int 0, .int 0, .int 0, .int (st 7)])), (n0, .inr (2, [.ref a0, .ref b0, .int (nt 2), .int (nt 3), .int (nt 4), .int (nt 5), .int (nt 6), .int (nt 7), .int (nt 8), .int (nt 9), .int (nt 10)])), (a0, .inr (0, [.int (fa 0), .int (fa 1), .int (fa 2)])), (b0, .inr (0, [.int (fb 0), .int (fb 1), .int (fb 2)]))] H := hP
  have hD : va_D A [(h0, .inr (3, [.int 0, .int (fa 0), .int (fb 0), .int 0, .int 0, .int 0, .int 0, .int (st 7)])), (n0, .inr (2, [.ref a0, .ref b0, .int (nt 2), .int (nt 3), .int (nt 4), .int (nt 5), .int (nt 6), .int (nt 7), .int (nt 8), .int (nt 9), .int (nt 10)])), (a0, .inr (0, [.int (fa 0), .int (fa 1), .int (fa 2)])), (b0, .inr (0, [.int (fb 0), .int (fb 1), .int (fb 2)]))] := hD
  refine lv_aload_n hx hb dX3_begin_47 rfl (lv_at hl 0 rfl) ?_
  refine lv_iconst (v := 0) hx hb dX3_begin_48 (by decide) ?_
  refine va_put (D := (dC, dI)) (ci := 3) (v := .int 0) (ty := .int) (C := RX3) (T := TX3) (N := 8) hx hb hts iX3 tyX3 tyX3_ok nmX3 hown hK hP hD hS 0 rfl rfl 7 (by decide) (hts (.fieldLink RX3 34 "Barrierbook$Standing" "paidInAll" "I") (by decide +kernel)) (fun _ h9 => h9) rfl (by decide +kernel) rfl rfl (Nat.le_of_ble_eq_true rfl) dX3_begin_49 (fun H locs hP hD hS => ?_)
  have hP : va_P (dC, dI) vwCl [(h0, .inr (3, [.int 0, .int (fa 0), .int (fb 0), .int 0, .int 0, .int 0, .int 0, .int 0])), (n0, .inr (2, [.ref a0, .ref b0, .int (nt 2), .int (nt 3), .int (nt 4), .int (nt 5), .int (nt 6), .int (nt 7), .int (nt 8), .int (nt 9), .int (nt 10)])), (a0, .inr (0, [.int (fa 0), .int (fa 1), .int (fa 2)])), (b0, .inr (0, [.int (fb 0), .int (fb 1), .int (fb 2)]))] H := hP
  have hD : va_D A [(h0, .inr (3, [.int 0, .int (fa 0), .int (fb 0), .int 0, .int 0, .int 0, .int 0, .int 0])), (n0, .inr (2, [.ref a0, .ref b0, .int (nt 2), .int (nt 3), .int (nt 4), .int (nt 5), .int (nt 6), .int (nt 7), .int (nt 8), .int (nt 9), .int (nt 10)])), (a0, .inr (0, [.int (fa 0), .int (fa 1), .int (fa 2)])), (b0, .inr (0, [.int (fb 0), .int (fb 1), .int (fb 2)]))] := hD
  exact xrv hf hr hlk (()) (trivial) (hP.sub [0, 1, 2, 3] rfl) (hD.sub [0, 1, 2, 3] rfl rfl) hK hS dX3_begin_52
set_option maxHeartbeats 4000000 in
set_option maxRecDepth 100000 in
theorem c_X3_copy (l : Launch) (dC : Nat → ClassId) (dI : Nat → Nat → Nat) (cI cZ cJ : ClassId) (sz : Nat) (h0 h1 : Nat) (st sx : Nat → Int32) (hk : sx 4 = 0 ∨ sx 4 = 1) (ho : sx 5 = 0 ∨ sx 5 = 1) : Met l yX3_copy wsX3_copy ({ frames := 0, cells := 0, slots := 0, locals := 0 }) (va_Pc [.ref h0, .ref h1] (xB (dC, dI) (xT cI cZ cJ) [(h0, .inr (3, [.int (st 0), .int (st 1), .int (st 2), .int (st 3), .int (st 4), .int (st 5), .int (st 6), .int (st 7)])), (h1, .inr (3, [.int (sx 0), .int (sx 1), .int (sx 2), .int (sx 3), .int (sx 4), .int (sx 5), .int (sx 6), .int (sx 7)]))] sz)) (va_Qv (fun (u : Unit) => True) (fun (u : Unit) t => xA (dC, dI) (xT cI cZ cJ) [(h0, .inr (3, [.int (sx 0), .int (sx 1), .int (sx 2), .int (sx 3), .int (sx 4), .int (sx 5), .int (sx 6), .int (sx 7)])), (h1, .inr (3, [.int (sx 0), .int (sx 1), .int (sx 2), .int (sx 3), .int (sx 4), .int (sx 5), .int (sx 6), .int (sx 7)]))] (va_A [(h0, .inr (3, [.int (st 0), .int (st 1), .int (st 2), .int (st 3), .int (st 4), .int (st 5), .int (st 6), .int (st 7)])), (h1, .inr (3, [.int (sx 0), .int (sx 1), .int (sx 2), .int (sx 3), .int (sx 4), .int (sx 5), .int (sx 6), .int (sx 7)]))] sz) t) (va_A [(h0, .inr (3, [.int (st 0), .int (st 1), .int (st 2), .int (st 3), .int (st 4), .int (st 5), .int (st 6), .int (st 7)])), (h1, .inr (3, [.int (sx 0), .int (sx 1), .int (sx 2), .int (sx 3), .int (sx 4), .int (sx 5), .int (sx 6), .int (sx 7)]))] sz)) 0 0 (va_A [(h0, .inr (3, [.int (st 0), .int (st 1), .int (st 2), .int (st 3), .int (st 4), .int (st 5), .int (st 6), .int (st 7)])), (h1, .inr (3, [.int (sx 0), .int (sx 1), .int (sx 2), .int (sx 3), .int (sx 4), .int (sx 5), .int (sx 6), .int (sx 7)]))] sz) := by
  refine xMet (QF := fun A => va_Qv (fun (u : Unit) => True) (fun (u : Unit) t => xA (dC, dI) (xT cI cZ cJ) [(h0, .inr (3, [.int (sx 0), .int (sx 1), .int (sx 2), .int (sx 3), .int (sx 4), .int (sx 5), .int (sx 6), .int (sx 7)])), (h1, .inr (3, [.int (sx 0), .int (sx 1), .int (sx 2), .int (sx 3), .int (sx 4), .int (sx 5), .int (sx 6), .int (sx 7)]))] A t) A) (maxL := 2) (ret := none) (cc := cX3_copy) (by decide) rfl (Nat.le_of_ble_eq_true rfl) ?_
  intro p e s m below meth c ls A hf hr hlk hnm hK hP hD hA hS hl
  obtain ⟨hx, hb, hml, hown, hts⟩ := id hf
  have iX3 : ∀ w ∈ wsX30, w ∈ wsX3_copy := by decide +kernel
  have hl : lv_has ls 2 [(0, .ref h0), (1, .ref h1)] := hl
  have hP : va_P (dC, dI) vwCl [(h0, .inr (3, [.int (st 0), .int (st 1), .int (st 2), .int (st 3), .int (st 4), .int (st 5), .int (st 6), .int (st 7)])), (h1, .inr (3, [.int (sx 0), .int (sx 1), .int (sx 2), .int (sx 3), .int (sx 4), .int (sx 5), .int (sx 6), .int (sx 7)]))] s.heap := hP
  refine lv_aload_n hx hb dX3_copy_0 rfl (lv_at hl 0 rfl) ?_
  refine lv_aload_n hx hb dX3_copy_1 rfl (lv_at hl 1 rfl) ?_
  refine va_get (D := (dC, dI)) (ci := 3) (v := .int (sx 0)) (C := RX3) (T := TX3) (N := 8) hx hb hts iX3 hown hK hP 1 rfl rfl 0 (by decide) (hts (.fieldLink RX3 9 "Barrierbook$Standing" "told" "I") (by decide +kernel)) (fun _ h9 => h9) rfl dX3_copy_2 ?_
  refine va_put (D := (dC, dI)) (ci := 3) (v := .int (sx 0)) (ty := .int) (C := RX3) (T := TX3) (N := 8) hx hb hts iX3 tyX3 tyX3_ok nmX3 hown hK hP hD hS 0 rfl rfl 0 (by decide) (hts (.fieldLink RX3 9 "Barrierbook$Standing" "told" "I") (by decide +kernel)) (fun _ h9 => h9) rfl (by decide +kernel) rfl rfl (Nat.le_of_ble_eq_true rfl) dX3_copy_5 (fun H locs hP hD hS => ?_)
  have hP : va_P (dC, dI) vwCl [(h0, .inr (3, [.int (sx 0), .int (st 1), .int (st 2), .int (st 3), .int (st 4), .int (st 5), .int (st 6), .int (st 7)])), (h1, .inr (3, [.int (sx 0), .int (sx 1), .int (sx 2), .int (sx 3), .int (sx 4), .int (sx 5), .int (sx 6), .int (sx 7)]))] H := hP
  have hD : va_D A [(h0, .inr (3, [.int (sx 0), .int (st 1), .int (st 2), .int (st 3), .int (st 4), .int (st 5), .int (st 6), .int (st 7)])), (h1, .inr (3, [.int (sx 0), .int (sx 1), .int (sx 2), .int (sx 3), .int (sx 4), .int (sx 5), .int (sx 6), .int (sx 7)]))] := hD
  refine lv_aload_n hx hb dX3_copy_8 rfl (lv_at hl 0 rfl) ?_
  refine lv_aload_n hx hb dX3_copy_9 rfl (lv_at hl 1 rfl) ?_
  refine va_get (D := (dC, dI)) (ci := 3) (v := .int (sx 1)) (C := RX3) (T := TX3) (N := 8) hx hb hts iX3 hown hK hP 1 rfl rfl 1 (by decide) (hts (.fieldLink RX3 15 "Barrierbook$Standing" "price0" "I") (by decide +kernel)) (fun _ h9 => h9) rfl dX3_copy_10 ?_
  refine va_put (D := (dC, dI)) (ci := 3) (v := .int (sx 1)) (ty := .int) (C := RX3) (T := TX3) (N := 8) hx hb hts iX3 tyX3 tyX3_ok nmX3 hown hK hP hD hS 0 rfl rfl 1 (by decide) (hts (.fieldLink RX3 15 "Barrierbook$Standing" "price0" "I") (by decide +kernel)) (fun _ h9 => h9) rfl (by decide +kernel) rfl rfl (Nat.le_of_ble_eq_true rfl) dX3_copy_13 (fun H locs hP hD hS => ?_)
  have hP : va_P (dC, dI) vwCl [(h0, .inr (3, [.int (sx 0), .int (sx 1), .int (st 2), .int (st 3), .int (st 4), .int (st 5), .int (st 6), .int (st 7)])), (h1, .inr (3, [.int (sx 0), .int (sx 1), .int (sx 2), .int (sx 3), .int (sx 4), .int (sx 5), .int (sx 6), .int (sx 7)]))] H := hP
  have hD : va_D A [(h0, .inr (3, [.int (sx 0), .int (sx 1), .int (st 2), .int (st 3), .int (st 4), .int (st 5), .int (st 6), .int (st 7)])), (h1, .inr (3, [.int (sx 0), .int (sx 1), .int (sx 2), .int (sx 3), .int (sx 4), .int (sx 5), .int (sx 6), .int (sx 7)]))] := hD
  refine lv_aload_n hx hb dX3_copy_16 rfl (lv_at hl 0 rfl) ?_
  refine lv_aload_n hx hb dX3_copy_17 rfl (lv_at hl 1 rfl) ?_
  refine va_get (D := (dC, dI)) (ci := 3) (v := .int (sx 2)) (C := RX3) (T := TX3) (N := 8) hx hb hts iX3 hown hK hP 1 rfl rfl 2 (by decide) (hts (.fieldLink RX3 18 "Barrierbook$Standing" "price1" "I") (by decide +kernel)) (fun _ h9 => h9) rfl dX3_copy_18 ?_
  refine va_put (D := (dC, dI)) (ci := 3) (v := .int (sx 2)) (ty := .int) (C := RX3) (T := TX3) (N := 8) hx hb hts iX3 tyX3 tyX3_ok nmX3 hown hK hP hD hS 0 rfl rfl 2 (by decide) (hts (.fieldLink RX3 18 "Barrierbook$Standing" "price1" "I") (by decide +kernel)) (fun _ h9 => h9) rfl (by decide +kernel) rfl rfl (Nat.le_of_ble_eq_true rfl) dX3_copy_21 (fun H locs hP hD hS => ?_)
  have hP : va_P (dC, dI) vwCl [(h0, .inr (3, [.int (sx 0), .int (sx 1), .int (sx 2), .int (st 3), .int (st 4), .int (st 5), .int (st 6), .int (st 7)])), (h1, .inr (3, [.int (sx 0), .int (sx 1), .int (sx 2), .int (sx 3), .int (sx 4), .int (sx 5), .int (sx 6), .int (sx 7)]))] H := hP
  have hD : va_D A [(h0, .inr (3, [.int (sx 0), .int (sx 1), .int (sx 2), .int (st 3), .int (st 4), .int (st 5), .int (st 6), .int (st 7)])), (h1, .inr (3, [.int (sx 0), .int (sx 1), .int (sx 2), .int (sx 3), .int (sx 4), .int (sx 5), .int (sx 6), .int (sx 7)]))] := hD
  refine lv_aload_n hx hb dX3_copy_24 rfl (lv_at hl 0 rfl) ?_
  refine lv_aload_n hx hb dX3_copy_25 rfl (lv_at hl 1 rfl) ?_
  refine va_get (D := (dC, dI)) (ci := 3) (v := .int (sx 3)) (C := RX3) (T := TX3) (N := 8) hx hb hts iX3 hown hK hP 1 rfl rfl 3 (by decide) (hts (.fieldLink RX3 21 "Barrierbook$Standing" "missed" "I") (by decide +kernel)) (fun _ h9 => h9) rfl dX3_copy_26 ?_
  refine va_put (D := (dC, dI)) (ci := 3) (v := .int (sx 3)) (ty := .int) (C := RX3) (T := TX3) (N := 8) hx hb hts iX3 tyX3 tyX3_ok nmX3 hown hK hP hD hS 0 rfl rfl 3 (by decide) (hts (.fieldLink RX3 21 "Barrierbook$Standing" "missed" "I") (by decide +kernel)) (fun _ h9 => h9) rfl (by decide +kernel) rfl rfl (Nat.le_of_ble_eq_true rfl) dX3_copy_29 (fun H locs hP hD hS => ?_)
  have hP : va_P (dC, dI) vwCl [(h0, .inr (3, [.int (sx 0), .int (sx 1), .int (sx 2), .int (sx 3), .int (st 4), .int (st 5), .int (st 6), .int (st 7)])), (h1, .inr (3, [.int (sx 0), .int (sx 1), .int (sx 2), .int (sx 3), .int (sx 4), .int (sx 5), .int (sx 6), .int (sx 7)]))] H := hP
  have hD : va_D A [(h0, .inr (3, [.int (sx 0), .int (sx 1), .int (sx 2), .int (sx 3), .int (st 4), .int (st 5), .int (st 6), .int (st 7)])), (h1, .inr (3, [.int (sx 0), .int (sx 1), .int (sx 2), .int (sx 3), .int (sx 4), .int (sx 5), .int (sx 6), .int (sx 7)]))] := hD
  refine lv_aload_n hx hb dX3_copy_32 rfl (lv_at hl 0 rfl) ?_
  refine lv_aload_n hx hb dX3_copy_33 rfl (lv_at hl 1 rfl) ?_
  refine va_get (D := (dC, dI)) (ci := 3) (v := .int (sx 4)) (C := RX3) (T := TX3) (N := 8) hx hb hts iX3 hown hK hP 1 rfl rfl 4 (by decide) (hts (.fieldLink RX3 24 "Barrierbook$Standing" "isKnocked" "Z") (by decide +kernel)) (fun _ h9 => h9) rfl dX3_copy_34 ?_
  refine va_put (D := (dC, dI)) (ci := 3) (v := .int (sx 4)) (ty := .boolean) (C := RX3) (T := TX3) (N := 8) hx hb hts iX3 tyX3 tyX3_ok nmX3 hown hK hP hD hS 0 rfl rfl 4 (by decide) (hts (.fieldLink RX3 24 "Barrierbook$Standing" "isKnocked" "Z") (by decide +kernel)) (fun _ h9 => h9) rfl (by decide +kernel) (xnz (by assumption)) (xfz (by assumption)) (Nat.le_of_ble_eq_true rfl) dX3_copy_37 (fun H locs hP hD hS => ?_)
  have hP : va_P (dC, dI) vwCl [(h0, .inr (3, [.int (sx 0), .int (sx 1), .int (sx 2), .int (sx 3), .int (sx 4), .int (st 5), .int (st 6), .int (st 7)])), (h1, .inr (3, [.int (sx 0), .int (sx 1), .int (sx 2), .int (sx 3), .int (sx 4), .int (sx 5), .int (sx 6), .int (sx 7)]))] H := hP
  have hD : va_D A [(h0, .inr (3, [.int (sx 0), .int (sx 1), .int (sx 2), .int (sx 3), .int (sx 4), .int (st 5), .int (st 6), .int (st 7)])), (h1, .inr (3, [.int (sx 0), .int (sx 1), .int (sx 2), .int (sx 3), .int (sx 4), .int (sx 5), .int (sx 6), .int (sx 7)]))] := hD
  refine lv_aload_n hx hb dX3_copy_40 rfl (lv_at hl 0 rfl) ?_
  refine lv_aload_n hx hb dX3_copy_41 rfl (lv_at hl 1 rfl) ?_
  refine va_get (D := (dC, dI)) (ci := 3) (v := .int (sx 5)) (C := RX3) (T := TX3) (N := 8) hx hb hts iX3 hown hK hP 1 rfl rfl 5 (by decide) (hts (.fieldLink RX3 28 "Barrierbook$Standing" "isOver" "Z") (by decide +kernel)) (fun _ h9 => h9) rfl dX3_copy_42 ?_
  refine va_put (D := (dC, dI)) (ci := 3) (v := .int (sx 5)) (ty := .boolean) (C := RX3) (T := TX3) (N := 8) hx hb hts iX3 tyX3 tyX3_ok nmX3 hown hK hP hD hS 0 rfl rfl 5 (by decide) (hts (.fieldLink RX3 28 "Barrierbook$Standing" "isOver" "Z") (by decide +kernel)) (fun _ h9 => h9) rfl (by decide +kernel) (xnz (by assumption)) (xfz (by assumption)) (Nat.le_of_ble_eq_true rfl) dX3_copy_45 (fun H locs hP hD hS => ?_)
  have hP : va_P (dC, dI) vwCl [(h0, .inr (3, [.int (sx 0), .int (sx 1), .int (sx 2), .int (sx 3), .int (sx 4), .int (sx 5), .int (st 6), .int (st 7)])), (h1, .inr (3, [.int (sx 0), .int (sx 1), .int (sx 2), .int (sx 3), .int (sx 4), .int (sx 5), .int (sx 6), .int (sx 7)]))] H := hP
  have hD : va_D A [(h0, .inr (3, [.int (sx 0), .int (sx 1), .int (sx 2), .int (sx 3), .int (sx 4), .int (sx 5), .int (st 6), .int (st 7)])), (h1, .inr (3, [.int (sx 0), .int (sx 1), .int (sx 2), .int (sx 3), .int (sx 4), .int (sx 5), .int (sx 6), .int (sx 7)]))] := hD
  refine lv_aload_n hx hb dX3_copy_48 rfl (lv_at hl 0 rfl) ?_
  refine lv_aload_n hx hb dX3_copy_49 rfl (lv_at hl 1 rfl) ?_
  refine va_get (D := (dC, dI)) (ci := 3) (v := .int (sx 6)) (C := RX3) (T := TX3) (N := 8) hx hb hts iX3 hown hK hP 1 rfl rfl 6 (by decide) (hts (.fieldLink RX3 31 "Barrierbook$Standing" "paidLast" "I") (by decide +kernel)) (fun _ h9 => h9) rfl dX3_copy_50 ?_
  refine va_put (D := (dC, dI)) (ci := 3) (v := .int (sx 6)) (ty := .int) (C := RX3) (T := TX3) (N := 8) hx hb hts iX3 tyX3 tyX3_ok nmX3 hown hK hP hD hS 0 rfl rfl 6 (by decide) (hts (.fieldLink RX3 31 "Barrierbook$Standing" "paidLast" "I") (by decide +kernel)) (fun _ h9 => h9) rfl (by decide +kernel) rfl rfl (Nat.le_of_ble_eq_true rfl) dX3_copy_53 (fun H locs hP hD hS => ?_)
  have hP : va_P (dC, dI) vwCl [(h0, .inr (3, [.int (sx 0), .int (sx 1), .int (sx 2), .int (sx 3), .int (sx 4), .int (sx 5), .int (sx 6), .int (st 7)])), (h1, .inr (3, [.int (sx 0), .int (sx 1), .int (sx 2), .int (sx 3), .int (sx 4), .int (sx 5), .int (sx 6), .int (sx 7)]))] H := hP
  have hD : va_D A [(h0, .inr (3, [.int (sx 0), .int (sx 1), .int (sx 2), .int (sx 3), .int (sx 4), .int (sx 5), .int (sx 6), .int (st 7)])), (h1, .inr (3, [.int (sx 0), .int (sx 1), .int (sx 2), .int (sx 3), .int (sx 4), .int (sx 5), .int (sx 6), .int (sx 7)]))] := hD
  refine lv_aload_n hx hb dX3_copy_56 rfl (lv_at hl 0 rfl) ?_
  refine lv_aload_n hx hb dX3_copy_57 rfl (lv_at hl 1 rfl) ?_
  refine va_get (D := (dC, dI)) (ci := 3) (v := .int (sx 7)) (C := RX3) (T := TX3) (N := 8) hx hb hts iX3 hown hK hP 1 rfl rfl 7 (by decide) (hts (.fieldLink RX3 34 "Barrierbook$Standing" "paidInAll" "I") (by decide +kernel)) (fun _ h9 => h9) rfl dX3_copy_58 ?_
  refine va_put (D := (dC, dI)) (ci := 3) (v := .int (sx 7)) (ty := .int) (C := RX3) (T := TX3) (N := 8) hx hb hts iX3 tyX3 tyX3_ok nmX3 hown hK hP hD hS 0 rfl rfl 7 (by decide) (hts (.fieldLink RX3 34 "Barrierbook$Standing" "paidInAll" "I") (by decide +kernel)) (fun _ h9 => h9) rfl (by decide +kernel) rfl rfl (Nat.le_of_ble_eq_true rfl) dX3_copy_61 (fun H locs hP hD hS => ?_)
  have hP : va_P (dC, dI) vwCl [(h0, .inr (3, [.int (sx 0), .int (sx 1), .int (sx 2), .int (sx 3), .int (sx 4), .int (sx 5), .int (sx 6), .int (sx 7)])), (h1, .inr (3, [.int (sx 0), .int (sx 1), .int (sx 2), .int (sx 3), .int (sx 4), .int (sx 5), .int (sx 6), .int (sx 7)]))] H := hP
  have hD : va_D A [(h0, .inr (3, [.int (sx 0), .int (sx 1), .int (sx 2), .int (sx 3), .int (sx 4), .int (sx 5), .int (sx 6), .int (sx 7)])), (h1, .inr (3, [.int (sx 0), .int (sx 1), .int (sx 2), .int (sx 3), .int (sx 4), .int (sx 5), .int (sx 6), .int (sx 7)]))] := hD
  exact xrv hf hr hlk (()) (trivial) (hP.sub [0, 1] rfl) (hD.sub [0, 1] rfl rfl) hK hS dX3_copy_64
set_option maxHeartbeats 4000000 in
set_option maxRecDepth 100000 in
/-- a move: the standing behind it -/
theorem c_X3_move (l : Launch) (dC : Nat → ClassId) (dI : Nat → Nat → Nat) (cI cZ cJ : ClassId) (sz : Nat) (h0 n0 a0 b0 : Nat) (st nt fa fb : Nat → Int32) (up : Int32) (hk : st 4 = 0 ∨ st 4 = 1) (ho : st 5 = 0 ∨ st 5 = 1) : Met l yX3_move wsX3_move ({ frames := 2, cells := 0, slots := 0, locals := 43 }) (va_Pc [.ref h0, .ref n0, .int up] (xB (dC, dI) (xT cI cZ cJ) [(h0, .inr (3, [.int (st 0), .int (st 1), .int (st 2), .int (st 3), .int (st 4), .int (st 5), .int (st 6), .int (st 7)])), (n0, .inr (2, [.ref a0, .ref b0, .int (nt 2), .int (nt 3), .int (nt 4), .int (nt 5), .int (nt 6), .int (nt 7), .int (nt 8), .int (nt 9), .int (nt 10)])), (a0, .inr (0, [.int (fa 0), .int (fa 1), .int (fa 2)])), (b0, .inr (0, [.int (fb 0), .int (fb 1), .int (fb 2)]))] sz)) (va_Qv (fun (u : Nat → Int32) => u = kMv nt fa fb st up) (fun (u : Nat → Int32) t => xA (dC, dI) (xT cI cZ cJ) [(h0, .inr (3, [.int (u 0), .int (u 1), .int (u 2), .int (u 3), .int (u 4), .int (u 5), .int (u 6), .int (u 7)])), (n0, .inr (2, [.ref a0, .ref b0, .int (nt 2), .int (nt 3), .int (nt 4), .int (nt 5), .int (nt 6), .int (nt 7), .int (nt 8), .int (nt 9), .int (nt 10)])), (a0, .inr (0, [.int (fa 0), .int (fa 1), .int (fa 2)])), (b0, .inr (0, [.int (fb 0), .int (fb 1), .int (fb 2)]))] (va_A [(h0, .inr (3, [.int (st 0), .int (st 1), .int (st 2), .int (st 3), .int (st 4), .int (st 5), .int (st 6), .int (st 7)])), (n0, .inr (2, [.ref a0, .ref b0, .int (nt 2), .int (nt 3), .int (nt 4), .int (nt 5), .int (nt 6), .int (nt 7), .int (nt 8), .int (nt 9), .int (nt 10)])), (a0, .inr (0, [.int (fa 0), .int (fa 1), .int (fa 2)])), (b0, .inr (0, [.int (fb 0), .int (fb 1), .int (fb 2)]))] sz) t) (va_A [(h0, .inr (3, [.int (st 0), .int (st 1), .int (st 2), .int (st 3), .int (st 4), .int (st 5), .int (st 6), .int (st 7)])), (n0, .inr (2, [.ref a0, .ref b0, .int (nt 2), .int (nt 3), .int (nt 4), .int (nt 5), .int (nt 6), .int (nt 7), .int (nt 8), .int (nt 9), .int (nt 10)])), (a0, .inr (0, [.int (fa 0), .int (fa 1), .int (fa 2)])), (b0, .inr (0, [.int (fb 0), .int (fb 1), .int (fb 2)]))] sz)) 0 0 (va_A [(h0, .inr (3, [.int (st 0), .int (st 1), .int (st 2), .int (st 3), .int (st 4), .int (st 5), .int (st 6), .int (st 7)])), (n0, .inr (2, [.ref a0, .ref b0, .int (nt 2), .int (nt 3), .int (nt 4), .int (nt 5), .int (nt 6), .int (nt 7), .int (nt 8), .int (nt 9), .int (nt 10)])), (a0, .inr (0, [.int (fa 0), .int (fa 1), .int (fa 2)])), (b0, .inr (0, [.int (fb 0), .int (fb 1), .int (fb 2)]))] sz) := by
  refine xMet (QF := fun A => va_Qv (fun (u : Nat → Int32) => u = kMv nt fa fb st up) (fun (u : Nat → Int32) t => xA (dC, dI) (xT cI cZ cJ) [(h0, .inr (3, [.int (u 0), .int (u 1), .int (u 2), .int (u 3), .int (u 4), .int (u 5), .int (u 6), .int (u 7)])), (n0, .inr (2, [.ref a0, .ref b0, .int (nt 2), .int (nt 3), .int (nt 4), .int (nt 5), .int (nt 6), .int (nt 7), .int (nt 8), .int (nt 9), .int (nt 10)])), (a0, .inr (0, [.int (fa 0), .int (fa 1), .int (fa 2)])), (b0, .inr (0, [.int (fb 0), .int (fb 1), .int (fb 2)]))] A t) A) (maxL := 5) (ret := none) (cc := cX3_move) (by decide) rfl (Nat.le_of_ble_eq_true rfl) ?_
  intro p e s m below meth c ls A hf hr hlk hnm hK hP hD hA hS hl
  obtain ⟨hx, hb, hml, hown, hts⟩ := id hf
  have iX2 : ∀ w ∈ wsX20, w ∈ wsX3_move := by decide +kernel
  have iX3 : ∀ w ∈ wsX30, w ∈ wsX3_move := by decide +kernel
  have hl : lv_has ls 5 [(0, .ref h0), (1, .ref n0), (2, .int up)] := hl
  have hP : va_P (dC, dI) vwCl [(h0, .inr (3, [.int (st 0), .int (st 1), .int (st 2), .int (st 3), .int (st 4), .int (st 5), .int (st 6), .int (st 7)])), (n0, .inr (2, [.ref a0, .ref b0, .int (nt 2), .int (nt 3), .int (nt 4), .int (nt 5), .int (nt 6), .int (nt 7), .int (nt 8), .int (nt 9), .int (nt 10)])), (a0, .inr (0, [.int (fa 0), .int (fa 1), .int (fa 2)])), (b0, .inr (0, [.int (fb 0), .int (fb 1), .int (fb 2)]))] s.heap := hP
  refine lv_aload_n hx hb dX3_move_0 rfl (lv_at hl 0 rfl) ?_
  refine lv_dup hx hb dX3_move_1 rfl ?_
  refine va_get (D := (dC, dI)) (ci := 3) (v := .int (st 0)) (C := RX3) (T := TX3) (N := 8) hx hb hts iX3 hown hK hP 0 rfl rfl 0 (by decide) (hts (.fieldLink RX3 9 "Barrierbook$Standing" "told" "I") (by decide +kernel)) (fun _ h9 => h9) rfl dX3_move_2 ?_
  refine lv_iconst (v := 1) hx hb dX3_move_5 (by decide) ?_
  refine lv_iadd hx hb dX3_move_6 ?_
  refine lv_topi (fun x_6 e_6 => ?_)
  refine va_put (D := (dC, dI)) (ci := 3) (v := .int x_6) (ty := .int) (C := RX3) (T := TX3) (N := 8) hx hb hts iX3 tyX3 tyX3_ok nmX3 hown hK hP hD hS 0 rfl rfl 0 (by decide) (hts (.fieldLink RX3 9 "Barrierbook$Standing" "told" "I") (by decide +kernel)) (fun _ h9 => h9) rfl (by decide +kernel) rfl rfl (Nat.le_of_ble_eq_true rfl) dX3_move_7 (fun H locs hP hD hS => ?_)
  have hP : va_P (dC, dI) vwCl [(h0, .inr (3, [.int x_6, .int (st 1), .int (st 2), .int (st 3), .int (st 4), .int (st 5), .int (st 6), .int (st 7)])), (n0, .inr (2, [.ref a0, .ref b0, .int (nt 2), .int (nt 3), .int (nt 4), .int (nt 5), .int (nt 6), .int (nt 7), .int (nt 8), .int (nt 9), .int (nt 10)])), (a0, .inr (0, [.int (fa 0), .int (fa 1), .int (fa 2)])), (b0, .inr (0, [.int (fb 0), .int (fb 1), .int (fb 2)]))] H := hP
  have hD : va_D A [(h0, .inr (3, [.int x_6, .int (st 1), .int (st 2), .int (st 3), .int (st 4), .int (st 5), .int (st 6), .int (st 7)])), (n0, .inr (2, [.ref a0, .ref b0, .int (nt 2), .int (nt 3), .int (nt 4), .int (nt 5), .int (nt 6), .int (nt 7), .int (nt 8), .int (nt 9), .int (nt 10)])), (a0, .inr (0, [.int (fa 0), .int (fa 1), .int (fa 2)])), (b0, .inr (0, [.int (fb 0), .int (fb 1), .int (fb 2)]))] := hD
  refine lv_aload_n hx hb dX3_move_10 rfl (lv_at hl 0 rfl) ?_
  refine lv_aload_n hx hb dX3_move_11 rfl (lv_at hl 1 rfl) ?_
  refine va_get (D := (dC, dI)) (ci := 2) (v := .ref a0) (C := RX2) (T := TX2) (N := 11) hx hb hts iX2 hown hK hP 1 rfl rfl 0 (by decide) (hts (.fieldLink RX3 37 "Barrierbook$Note" "asset0" "LBarrierbook$Asset;") (by decide +kernel)) (fun _ h9 => h9) rfl dX3_move_12 ?_
  refine lv_aload_n hx hb dX3_move_15 rfl (lv_at hl 0 rfl) ?_
  refine va_get (D := (dC, dI)) (ci := 3) (v := .int (st 1)) (C := RX3) (T := TX3) (N := 8) hx hb hts iX3 hown hK hP 0 rfl rfl 1 (by decide) (hts (.fieldLink RX3 15 "Barrierbook$Standing" "price0" "I") (by decide +kernel)) (fun _ h9 => h9) rfl dX3_move_16 ?_
  refine lv_iload_n hx hb dX3_move_19 rfl (lv_at hl 2 rfl) ?_
  refine xci (wr := [(h0, .inr (3, [.int x_6, .int (st 1), .int (st 2), .int (st 3), .int (st 4), .int (st 5), .int (st 6), .int (st 7)])), (n0, .inr (2, [.ref a0, .ref b0, .int (nt 2), .int (nt 3), .int (nt 4), .int (nt 5), .int (nt 6), .int (nt 7), .int (nt 8), .int (nt 9), .int (nt 10)])), (b0, .inr (0, [.int (fb 0), .int (fb 1), .int (fb 2)]))]) (va_runV (As := [.int (st 1), .int up]) (rest := [.ref h0]) hf (c_X0_priceBehind l dC dI cI cZ cJ H.size a0 fa (st 1) up) (cwV 2 hts gX3_move_X0_priceBehind rfl rfl rfl (by decide +kernel) ⟨Nat.le_of_ble_eq_true rfl, Nat.le_of_ble_eq_true rfl⟩) (xPV (qc := (RX0, TX0, 3)) hK hP hD [2] rfl rfl 0 rfl rfl) rfl rfl hl.1 rfl (lv_room (Nat.le_of_ble_eq_true rfl)) dX3_move_20 ⟨Nat.le_of_ble_eq_true rfl, Nat.le_of_ble_eq_true rfl⟩) hP hD hS hA [2] [0, 1, 3] rfl rfl rfl (by decide) (fun r_20 u_20 H locs w_20 hP hD hS => ?_)
  have hP : va_P (dC, dI) vwCl [(h0, .inr (3, [.int x_6, .int (st 1), .int (st 2), .int (st 3), .int (st 4), .int (st 5), .int (st 6), .int (st 7)])), (n0, .inr (2, [.ref a0, .ref b0, .int (nt 2), .int (nt 3), .int (nt 4), .int (nt 5), .int (nt 6), .int (nt 7), .int (nt 8), .int (nt 9), .int (nt 10)])), (b0, .inr (0, [.int (fb 0), .int (fb 1), .int (fb 2)])), (a0, .inr (0, [.int (fa 0), .int (fa 1), .int (fa 2)]))] H := hP
  have hD : va_D A [(h0, .inr (3, [.int x_6, .int (st 1), .int (st 2), .int (st 3), .int (st 4), .int (st 5), .int (st 6), .int (st 7)])), (n0, .inr (2, [.ref a0, .ref b0, .int (nt 2), .int (nt 3), .int (nt 4), .int (nt 5), .int (nt 6), .int (nt 7), .int (nt 8), .int (nt 9), .int (nt 10)])), (b0, .inr (0, [.int (fb 0), .int (fb 1), .int (fb 2)])), (a0, .inr (0, [.int (fa 0), .int (fa 1), .int (fa 2)]))] := hD
  refine va_put (D := (dC, dI)) (ci := 3) (v := .int r_20) (ty := .int) (C := RX3) (T := TX3) (N := 8) hx hb hts iX3 tyX3 tyX3_ok nmX3 hown hK hP hD hS 0 rfl rfl 1 (by decide) (hts (.fieldLink RX3 15 "Barrierbook$Standing" "price0" "I") (by decide +kernel)) (fun _ h9 => h9) rfl (by decide +kernel) rfl rfl (Nat.le_of_ble_eq_true rfl) dX3_move_23 (fun H locs hP hD hS => ?_)
  have hP : va_P (dC, dI) vwCl [(h0, .inr (3, [.int x_6, .int r_20, .int (st 2), .int (st 3), .int (st 4), .int (st 5), .int (st 6), .int (st 7)])), (n0, .inr (2, [.ref a0, .ref b0, .int (nt 2), .int (nt 3), .int (nt 4), .int (nt 5), .int (nt 6), .int (nt 7), .int (nt 8), .int (nt 9), .int (nt 10)])), (b0, .inr (0, [.int (fb 0), .int (fb 1), .int (fb 2)])), (a0, .inr (0, [.int (fa 0), .int (fa 1), .int (fa 2)]))] H := hP
  have hD : va_D A [(h0, .inr (3, [.int x_6, .int r_20, .int (st 2), .int (st 3), .int (st 4), .int (st 5), .int (st 6), .int (st 7)])), (n0, .inr (2, [.ref a0, .ref b0, .int (nt 2), .int (nt 3), .int (nt 4), .int (nt 5), .int (nt 6), .int (nt 7), .int (nt 8), .int (nt 9), .int (nt 10)])), (b0, .inr (0, [.int (fb 0), .int (fb 1), .int (fb 2)])), (a0, .inr (0, [.int (fa 0), .int (fa 1), .int (fa 2)]))] := hD
  refine lv_aload_n hx hb dX3_move_26 rfl (lv_at hl 0 rfl) ?_
  refine lv_aload_n hx hb dX3_move_27 rfl (lv_at hl 1 rfl) ?_
  refine va_get (D := (dC, dI)) (ci := 2) (v := .ref b0) (C := RX2) (T := TX2) (N := 11) hx hb hts iX2 hown hK hP 1 rfl rfl 1 (by decide) (hts (.fieldLink RX3 48 "Barrierbook$Note" "asset1" "LBarrierbook$Asset;") (by decide +kernel)) (fun _ h9 => h9) rfl dX3_move_28 ?_
  refine lv_aload_n hx hb dX3_move_31 rfl (lv_at hl 0 rfl) ?_
  refine va_get (D := (dC, dI)) (ci := 3) (v := .int (st 2)) (C := RX3) (T := TX3) (N := 8) hx hb hts iX3 hown hK hP 0 rfl rfl 2 (by decide) (hts (.fieldLink RX3 18 "Barrierbook$Standing" "price1" "I") (by decide +kernel)) (fun _ h9 => h9) rfl dX3_move_32 ?_
  refine lv_iload_n hx hb dX3_move_35 rfl (lv_at hl 2 rfl) ?_
  refine lv_aload_n hx hb dX3_move_36 rfl (lv_at hl 1 rfl) ?_
  refine va_get (D := (dC, dI)) (ci := 2) (v := .int (nt 2)) (C := RX2) (T := TX2) (N := 11) hx hb hts iX2 hown hK hP 1 rfl rfl 2 (by decide) (hts (.fieldLink RX3 65 "Barrierbook$Note" "isAgainst" "Z") (by decide +kernel)) (fun _ h9 => h9) rfl dX3_move_37 ?_
  refine xjoin (X := Int32) (D := (dC, dI)) (A := A) (H0 := s.heap) (nL := 5) (P := fun zz => zz = kXor up (nt 2)) (w1 := fun zz => [(h0, .inr (3, [.int x_6, .int r_20, .int (st 2), .int (st 3), .int (st 4), .int (st 5), .int (st 6), .int (st 7)])), (n0, .inr (2, [.ref a0, .ref b0, .int (nt 2), .int (nt 3), .int (nt 4), .int (nt 5), .int (nt 6), .int (nt 7), .int (nt 8), .int (nt 9), .int (nt 10)])), (b0, .inr (0, [.int (fb 0), .int (fb 1), .int (fb 2)])), (a0, .inr (0, [.int (fa 0), .int (fa 1), .int (fa 2)]))]) (lv1 := fun zz => [(0, .ref h0), (1, .ref n0), (2, .int up)]) (st1 := fun zz => [.int zz, .int (st 2), .ref b0, .ref h0]) (J := 48) (fun x H locs ls hcut hP hD hS hl => ?_) (fun j_48 => ?_)
  · have hcut : x = kXor up (nt 2) := hcut
    have hx_48 := hcut
    have hl : lv_has ls 5 [(0, .ref h0), (1, .ref n0), (2, .int up)] := hl
    have hP : va_P (dC, dI) vwCl [(h0, .inr (3, [.int x_6, .int r_20, .int (st 2), .int (st 3), .int (st 4), .int (st 5), .int (st 6), .int (st 7)])), (n0, .inr (2, [.ref a0, .ref b0, .int (nt 2), .int (nt 3), .int (nt 4), .int (nt 5), .int (nt 6), .int (nt 7), .int (nt 8), .int (nt 9), .int (nt 10)])), (b0, .inr (0, [.int (fb 0), .int (fb 1), .int (fb 2)])), (a0, .inr (0, [.int (fa 0), .int (fa 1), .int (fa 2)]))] H := hP
    have hD : va_D A [(h0, .inr (3, [.int x_6, .int r_20, .int (st 2), .int (st 3), .int (st 4), .int (st 5), .int (st 6), .int (st 7)])), (n0, .inr (2, [.ref a0, .ref b0, .int (nt 2), .int (nt 3), .int (nt 4), .int (nt 5), .int (nt 6), .int (nt 7), .int (nt 8), .int (nt 9), .int (nt 10)])), (b0, .inr (0, [.int (fb 0), .int (fb 1), .int (fb 2)])), (a0, .inr (0, [.int (fa 0), .int (fa 1), .int (fa 2)]))] := hD
    refine xci (wr := [(h0, .inr (3, [.int x_6, .int r_20, .int (st 2), .int (st 3), .int (st 4), .int (st 5), .int (st 6), .int (st 7)])), (n0, .inr (2, [.ref a0, .ref b0, .int (nt 2), .int (nt 3), .int (nt 4), .int (nt 5), .int (nt 6), .int (nt 7), .int (nt 8), .int (nt 9), .int (nt 10)])), (a0, .inr (0, [.int (fa 0), .int (fa 1), .int (fa 2)]))]) (va_runV (As := [.int (st 2), .int x]) (rest := [.ref h0]) hf (c_X0_priceBehind l dC dI cI cZ cJ H.size b0 fb (st 2) x) (cwV 2 hts gX3_move_X0_priceBehind rfl rfl rfl (by decide +kernel) ⟨Nat.le_of_ble_eq_true rfl, Nat.le_of_ble_eq_true rfl⟩) (xPV (qc := (RX0, TX0, 3)) hK hP hD [2] rfl rfl 0 rfl rfl) rfl rfl hl.1 rfl (lv_room (Nat.le_of_ble_eq_true rfl)) dX3_move_48 ⟨Nat.le_of_ble_eq_true rfl, Nat.le_of_ble_eq_true rfl⟩) hP hD hS hA [2] [0, 1, 3] rfl rfl rfl (by decide) (fun r_48 u_48 H locs w_48 hP hD hS => ?_)
    have hP : va_P (dC, dI) vwCl [(h0, .inr (3, [.int x_6, .int r_20, .int (st 2), .int (st 3), .int (st 4), .int (st 5), .int (st 6), .int (st 7)])), (n0, .inr (2, [.ref a0, .ref b0, .int (nt 2), .int (nt 3), .int (nt 4), .int (nt 5), .int (nt 6), .int (nt 7), .int (nt 8), .int (nt 9), .int (nt 10)])), (a0, .inr (0, [.int (fa 0), .int (fa 1), .int (fa 2)])), (b0, .inr (0, [.int (fb 0), .int (fb 1), .int (fb 2)]))] H := hP
    have hD : va_D A [(h0, .inr (3, [.int x_6, .int r_20, .int (st 2), .int (st 3), .int (st 4), .int (st 5), .int (st 6), .int (st 7)])), (n0, .inr (2, [.ref a0, .ref b0, .int (nt 2), .int (nt 3), .int (nt 4), .int (nt 5), .int (nt 6), .int (nt 7), .int (nt 8), .int (nt 9), .int (nt 10)])), (a0, .inr (0, [.int (fa 0), .int (fa 1), .int (fa 2)])), (b0, .inr (0, [.int (fb 0), .int (fb 1), .int (fb 2)]))] := hD
    refine va_put (D := (dC, dI)) (ci := 3) (v := .int r_48) (ty := .int) (C := RX3) (T := TX3) (N := 8) hx hb hts iX3 tyX3 tyX3_ok nmX3 hown hK hP hD hS 0 rfl rfl 2 (by decide) (hts (.fieldLink RX3 18 "Barrierbook$Standing" "price1" "I") (by decide +kernel)) (fun _ h9 => h9) rfl (by decide +kernel) rfl rfl (Nat.le_of_ble_eq_true rfl) dX3_move_51 (fun H locs hP hD hS => ?_)
    have hP : va_P (dC, dI) vwCl [(h0, .inr (3, [.int x_6, .int r_20, .int r_48, .int (st 3), .int (st 4), .int (st 5), .int (st 6), .int (st 7)])), (n0, .inr (2, [.ref a0, .ref b0, .int (nt 2), .int (nt 3), .int (nt 4), .int (nt 5), .int (nt 6), .int (nt 7), .int (nt 8), .int (nt 9), .int (nt 10)])), (a0, .inr (0, [.int (fa 0), .int (fa 1), .int (fa 2)])), (b0, .inr (0, [.int (fb 0), .int (fb 1), .int (fb 2)]))] H := hP
    have hD : va_D A [(h0, .inr (3, [.int x_6, .int r_20, .int r_48, .int (st 3), .int (st 4), .int (st 5), .int (st 6), .int (st 7)])), (n0, .inr (2, [.ref a0, .ref b0, .int (nt 2), .int (nt 3), .int (nt 4), .int (nt 5), .int (nt 6), .int (nt 7), .int (nt 8), .int (nt 9), .int (nt 10)])), (a0, .inr (0, [.int (fa 0), .int (fa 1), .int (fa 2)])), (b0, .inr (0, [.int (fb 0), .int (fb 1), .int (fb 2)]))] := hD
    refine lv_aload_n hx hb dX3_move_54 rfl (lv_at hl 0 rfl) ?_
    refine va_get (D := (dC, dI)) (ci := 3) (v := .int x_6) (C := RX3) (T := TX3) (N := 8) hx hb hts iX3 hown hK hP 0 rfl rfl 0 (by decide) (hts (.fieldLink RX3 9 "Barrierbook$Standing" "told" "I") (by decide +kernel)) (fun _ h9 => h9) rfl dX3_move_55 ?_
    refine lv_aload_n hx hb dX3_move_58 rfl (lv_at hl 1 rfl) ?_
    refine va_get (D := (dC, dI)) (ci := 2) (v := .int (nt 4)) (C := RX2) (T := TX2) (N := 11) hx hb hts iX2 hown hK hP 1 rfl rfl 4 (by decide) (hts (.fieldLink RX3 68 "Barrierbook$Note" "periods" "I") (by decide +kernel)) (fun _ h9 => h9) rfl dX3_move_59 ?_
    refine xjoin (X := Int32) (D := (dC, dI)) (A := A) (H0 := s.heap) (nL := 5) (P := fun zz => zz = kLast nt (st 0 + 1)) (w1 := fun zz => [(h0, .inr (3, [.int x_6, .int r_20, .int r_48, .int (st 3), .int (st 4), .int (st 5), .int (st 6), .int (st 7)])), (n0, .inr (2, [.ref a0, .ref b0, .int (nt 2), .int (nt 3), .int (nt 4), .int (nt 5), .int (nt 6), .int (nt 7), .int (nt 8), .int (nt 9), .int (nt 10)])), (a0, .inr (0, [.int (fa 0), .int (fa 1), .int (fa 2)])), (b0, .inr (0, [.int (fb 0), .int (fb 1), .int (fb 2)]))]) (lv1 := fun zz => [(0, .ref h0), (1, .ref n0), (2, .int up)]) (st1 := fun zz => [.int zz]) (J := 70) (fun x H locs ls hcut hP hD hS hl => ?_) (fun j_70 => ?_)
    · have hcut : x = kLast nt (st 0 + 1) := hcut
      have hx_70 := hcut
      have hl : lv_has ls 5 [(0, .ref h0), (1, .ref n0), (2, .int up)] := hl
      have hP : va_P (dC, dI) vwCl [(h0, .inr (3, [.int x_6, .int r_20, .int r_48, .int (st 3), .int (st 4), .int (st 5), .int (st 6), .int (st 7)])), (n0, .inr (2, [.ref a0, .ref b0, .int (nt 2), .int (nt 3), .int (nt 4), .int (nt 5), .int (nt 6), .int (nt 7), .int (nt 8), .int (nt 9), .int (nt 10)])), (a0, .inr (0, [.int (fa 0), .int (fa 1), .int (fa 2)])), (b0, .inr (0, [.int (fb 0), .int (fb 1), .int (fb 2)]))] H := hP
      have hD : va_D A [(h0, .inr (3, [.int x_6, .int r_20, .int r_48, .int (st 3), .int (st 4), .int (st 5), .int (st 6), .int (st 7)])), (n0, .inr (2, [.ref a0, .ref b0, .int (nt 2), .int (nt 3), .int (nt 4), .int (nt 5), .int (nt 6), .int (nt 7), .int (nt 8), .int (nt 9), .int (nt 10)])), (a0, .inr (0, [.int (fa 0), .int (fa 1), .int (fa 2)])), (b0, .inr (0, [.int (fb 0), .int (fb 1), .int (fb 2)]))] := hD
      refine lv_istore_n (lv' := [(3, .int x), (0, .ref h0), (1, .ref n0), (2, .int up)]) hx hb dX3_move_70 rfl hl (by decide) rfl (fun ls hl => ?_)
      refine lv_aload_n hx hb dX3_move_71 rfl (lv_at hl 1 rfl) ?_
      refine lv_aload_n hx hb dX3_move_72 rfl (lv_at hl 2 rfl) ?_
      refine xci (wr := []) (va_runV (As := [.ref n0]) (rest := []) hf (c_X3_worstLevel l dC dI cI cZ cJ H.size h0 n0 a0 b0 (x8f x_6 r_20 r_48 (st 3) (st 4) (st 5) (st 6) (st 7)) nt fa fb) (cwV 1 hts gX3_move_X3_worstLevel rfl rfl rfl (by decide +kernel) ⟨Nat.le_of_ble_eq_true rfl, Nat.le_of_ble_eq_true rfl⟩) (xPV (qc := (RX3, TX3, 8)) hK hP hD [0, 1, 2, 3] rfl rfl 0 rfl rfl) rfl rfl hl.1 rfl (lv_room (Nat.le_of_ble_eq_true rfl)) dX3_move_73 ⟨Nat.le_of_ble_eq_true rfl, Nat.le_of_ble_eq_true rfl⟩) hP hD hS hA [0, 1, 2, 3] [] rfl rfl rfl (by decide) (fun r_73 u_73 H locs w_73 hP hD hS => ?_)
      have hP : va_P (dC, dI) vwCl [(h0, .inr (3, [.int x_6, .int r_20, .int r_48, .int (st 3), .int (st 4), .int (st 5), .int (st 6), .int (st 7)])), (n0, .inr (2, [.ref a0, .ref b0, .int (nt 2), .int (nt 3), .int (nt 4), .int (nt 5), .int (nt 6), .int (nt 7), .int (nt 8), .int (nt 9), .int (nt 10)])), (a0, .inr (0, [.int (fa 0), .int (fa 1), .int (fa 2)])), (b0, .inr (0, [.int (fb 0), .int (fb 1), .int (fb 2)]))] H := hP
      have hD : va_D A [(h0, .inr (3, [.int x_6, .int r_20, .int r_48, .int (st 3), .int (st 4), .int (st 5), .int (st 6), .int (st 7)])), (n0, .inr (2, [.ref a0, .ref b0, .int (nt 2), .int (nt 3), .int (nt 4), .int (nt 5), .int (nt 6), .int (nt 7), .int (nt 8), .int (nt 9), .int (nt 10)])), (a0, .inr (0, [.int (fa 0), .int (fa 1), .int (fa 2)])), (b0, .inr (0, [.int (fb 0), .int (fb 1), .int (fb 2)]))] := hD
      refine lv_istore (lv' := [(4, .int r_73), (3, .int x), (0, .ref h0), (1, .ref n0), (2, .int up)]) hx hb dX3_move_76 hl (by decide) rfl (fun ls hl => ?_)
      refine lv_iload hx hb dX3_move_78 (lv_at hl 0 rfl) ?_
      refine lv_aload_n hx hb dX3_move_80 rfl (lv_at hl 3 rfl) ?_
      refine va_get (D := (dC, dI)) (ci := 2) (v := .int (nt 5)) (C := RX2) (T := TX2) (N := 11) hx hb hts iX2 hown hK hP 1 rfl rfl 5 (by decide) (hts (.fieldLink RX3 75 "Barrierbook$Note" "barrier" "I") (by decide +kernel)) (fun _ h9 => h9) rfl dX3_move_81 ?_
      refine xjoin (X := Int32) (D := (dC, dI)) (A := A) (H0 := s.heap) (nL := 5) (P := fun zz => zz = kKn nt r_73 x (st 4)) (w1 := fun zz => [(h0, .inr (3, [.int x_6, .int r_20, .int r_48, .int (st 3), .int zz, .int (st 5), .int (st 6), .int (st 7)])), (n0, .inr (2, [.ref a0, .ref b0, .int (nt 2), .int (nt 3), .int (nt 4), .int (nt 5), .int (nt 6), .int (nt 7), .int (nt 8), .int (nt 9), .int (nt 10)])), (a0, .inr (0, [.int (fa 0), .int (fa 1), .int (fa 2)])), (b0, .inr (0, [.int (fb 0), .int (fb 1), .int (fb 2)]))]) (lv1 := fun zz => [(4, .int r_73), (3, .int x), (0, .ref h0), (1, .ref n0), (2, .int up)]) (st1 := fun zz => []) (J := 103) (fun kn H locs ls hcut hP hD hS hl => ?_) (fun j_103 => ?_)
      · have hcut : kn = kKn nt r_73 x (st 4) := hcut
        have hx_103 := hcut
        have hl : lv_has ls 5 [(4, .int r_73), (3, .int x), (0, .ref h0), (1, .ref n0), (2, .int up)] := hl
        have hP : va_P (dC, dI) vwCl [(h0, .inr (3, [.int x_6, .int r_20, .int r_48, .int (st 3), .int kn, .int (st 5), .int (st 6), .int (st 7)])), (n0, .inr (2, [.ref a0, .ref b0, .int (nt 2), .int (nt 3), .int (nt 4), .int (nt 5), .int (nt 6), .int (nt 7), .int (nt 8), .int (nt 9), .int (nt 10)])), (a0, .inr (0, [.int (fa 0), .int (fa 1), .int (fa 2)])), (b0, .inr (0, [.int (fb 0), .int (fb 1), .int (fb 2)]))] H := hP
        have hD : va_D A [(h0, .inr (3, [.int x_6, .int r_20, .int r_48, .int (st 3), .int kn, .int (st 5), .int (st 6), .int (st 7)])), (n0, .inr (2, [.ref a0, .ref b0, .int (nt 2), .int (nt 3), .int (nt 4), .int (nt 5), .int (nt 6), .int (nt 7), .int (nt 8), .int (nt 9), .int (nt 10)])), (a0, .inr (0, [.int (fa 0), .int (fa 1), .int (fa 2)])), (b0, .inr (0, [.int (fb 0), .int (fb 1), .int (fb 2)]))] := hD
        refine lv_aload_n hx hb dX3_move_103 rfl (lv_at hl 2 rfl) ?_
        refine lv_aload_n hx hb dX3_move_104 rfl (lv_at hl 2 rfl) ?_
        refine lv_aload_n hx hb dX3_move_105 rfl (lv_at hl 3 rfl) ?_
        refine lv_iload hx hb dX3_move_106 (lv_at hl 0 rfl) ?_
        refine xci (wr := [(a0, .inr (0, [.int (fa 0), .int (fa 1), .int (fa 2)])), (b0, .inr (0, [.int (fb 0), .int (fb 1), .int (fb 2)]))]) (va_runV (As := [.ref n0, .int r_73]) (rest := [.ref h0]) hf (c_X3_takeCoupons l dC dI cI cZ cJ H.size h0 n0 a0 b0 (x8f x_6 r_20 r_48 (st 3) kn (st 5) (st 6) (st 7)) nt r_73) (cwV 2 hts gX3_move_X3_takeCoupons rfl rfl rfl (by decide +kernel) ⟨Nat.le_of_ble_eq_true rfl, Nat.le_of_ble_eq_true rfl⟩) (xPV (qc := (RX3, TX3, 8)) hK hP hD [0, 1] rfl rfl 0 rfl rfl) rfl rfl hl.1 rfl (lv_room (Nat.le_of_ble_eq_true rfl)) dX3_move_108 ⟨Nat.le_of_ble_eq_true rfl, Nat.le_of_ble_eq_true rfl⟩) hP hD hS hA [0, 1] [2, 3] rfl rfl rfl (by decide) (fun r_108 u_108 H locs w_108 hP hD hS => ?_)
        have hP : va_P (dC, dI) vwCl [(a0, .inr (0, [.int (fa 0), .int (fa 1), .int (fa 2)])), (b0, .inr (0, [.int (fb 0), .int (fb 1), .int (fb 2)])), (h0, .inr (3, [.int (u_108 0), .int (u_108 1), .int (u_108 2), .int (u_108 3), .int (u_108 4), .int (u_108 5), .int (u_108 6), .int (u_108 7)])), (n0, .inr (2, [.ref a0, .ref b0, .int (nt 2), .int (nt 3), .int (nt 4), .int (nt 5), .int (nt 6), .int (nt 7), .int (nt 8), .int (nt 9), .int (nt 10)]))] H := hP
        have hD : va_D A [(a0, .inr (0, [.int (fa 0), .int (fa 1), .int (fa 2)])), (b0, .inr (0, [.int (fb 0), .int (fb 1), .int (fb 2)])), (h0, .inr (3, [.int (u_108 0), .int (u_108 1), .int (u_108 2), .int (u_108 3), .int (u_108 4), .int (u_108 5), .int (u_108 6), .int (u_108 7)])), (n0, .inr (2, [.ref a0, .ref b0, .int (nt 2), .int (nt 3), .int (nt 4), .int (nt 5), .int (nt 6), .int (nt 7), .int (nt 8), .int (nt 9), .int (nt 10)]))] := hD
        refine va_put (D := (dC, dI)) (ci := 3) (v := .int r_108) (ty := .int) (C := RX3) (T := TX3) (N := 8) hx hb hts iX3 tyX3 tyX3_ok nmX3 hown hK hP hD hS 2 rfl rfl 6 (by decide) (hts (.fieldLink RX3 31 "Barrierbook$Standing" "paidLast" "I") (by decide +kernel)) (fun _ h9 => h9) rfl (by decide +kernel) rfl rfl (Nat.le_of_ble_eq_true rfl) dX3_move_111 (fun H locs hP hD hS => ?_)
        have hP : va_P (dC, dI) vwCl [(a0, .inr (0, [.int (fa 0), .int (fa 1), .int (fa 2)])), (b0, .inr (0, [.int (fb 0), .int (fb 1), .int (fb 2)])), (h0, .inr (3, [.int (u_108 0), .int (u_108 1), .int (u_108 2), .int (u_108 3), .int (u_108 4), .int (u_108 5), .int r_108, .int (u_108 7)])), (n0, .inr (2, [.ref a0, .ref b0, .int (nt 2), .int (nt 3), .int (nt 4), .int (nt 5), .int (nt 6), .int (nt 7), .int (nt 8), .int (nt 9), .int (nt 10)]))] H := hP
        have hD : va_D A [(a0, .inr (0, [.int (fa 0), .int (fa 1), .int (fa 2)])), (b0, .inr (0, [.int (fb 0), .int (fb 1), .int (fb 2)])), (h0, .inr (3, [.int (u_108 0), .int (u_108 1), .int (u_108 2), .int (u_108 3), .int (u_108 4), .int (u_108 5), .int r_108, .int (u_108 7)])), (n0, .inr (2, [.ref a0, .ref b0, .int (nt 2), .int (nt 3), .int (nt 4), .int (nt 5), .int (nt 6), .int (nt 7), .int (nt 8), .int (nt 9), .int (nt 10)]))] := hD
        refine lv_iload_n hx hb dX3_move_114 rfl (lv_at hl 1 rfl) ?_
        refine xjoin (X := Int32 × Int32) (D := (dC, dI)) (A := A) (H0 := s.heap) (nL := 5) (P := fun zz => zz.1 = kOv nt r_73 x (st 5) ∧ zz.2 = kPl nt r_73 x kn r_108) (w1 := fun zz => [(a0, .inr (0, [.int (fa 0), .int (fa 1), .int (fa 2)])), (b0, .inr (0, [.int (fb 0), .int (fb 1), .int (fb 2)])), (h0, .inr (3, [.int (u_108 0), .int (u_108 1), .int (u_108 2), .int (u_108 3), .int (u_108 4), .int zz.1, .int zz.2, .int (u_108 7)])), (n0, .inr (2, [.ref a0, .ref b0, .int (nt 2), .int (nt 3), .int (nt 4), .int (nt 5), .int (nt 6), .int (nt 7), .int (nt 8), .int (nt 9), .int (nt 10)]))]) (lv1 := fun zz => [(4, .int r_73), (3, .int x), (0, .ref h0), (1, .ref n0), (2, .int up)]) (st1 := fun zz => []) (J := 148) (fun zz H locs ls hcut hP hD hS hl => ?_) (fun j_148 => ?_)
        · obtain ⟨ov, pl⟩ := zz
          have hcut : ov = kOv nt r_73 x (st 5) ∧ pl = kPl nt r_73 x kn r_108 := hcut
          obtain ⟨hx_148, hy_148⟩ := hcut
          have hl : lv_has ls 5 [(4, .int r_73), (3, .int x), (0, .ref h0), (1, .ref n0), (2, .int up)] := hl
          have hP : va_P (dC, dI) vwCl [(a0, .inr (0, [.int (fa 0), .int (fa 1), .int (fa 2)])), (b0, .inr (0, [.int (fb 0), .int (fb 1), .int (fb 2)])), (h0, .inr (3, [.int (u_108 0), .int (u_108 1), .int (u_108 2), .int (u_108 3), .int (u_108 4), .int ov, .int pl, .int (u_108 7)])), (n0, .inr (2, [.ref a0, .ref b0, .int (nt 2), .int (nt 3), .int (nt 4), .int (nt 5), .int (nt 6), .int (nt 7), .int (nt 8), .int (nt 9), .int (nt 10)]))] H := hP
          have hD : va_D A [(a0, .inr (0, [.int (fa 0), .int (fa 1), .int (fa 2)])), (b0, .inr (0, [.int (fb 0), .int (fb 1), .int (fb 2)])), (h0, .inr (3, [.int (u_108 0), .int (u_108 1), .int (u_108 2), .int (u_108 3), .int (u_108 4), .int ov, .int pl, .int (u_108 7)])), (n0, .inr (2, [.ref a0, .ref b0, .int (nt 2), .int (nt 3), .int (nt 4), .int (nt 5), .int (nt 6), .int (nt 7), .int (nt 8), .int (nt 9), .int (nt 10)]))] := hD
          refine lv_aload_n hx hb dX3_move_148 rfl (lv_at hl 2 rfl) ?_
          refine lv_dup hx hb dX3_move_149 rfl ?_
          refine va_get (D := (dC, dI)) (ci := 3) (v := .int (u_108 7)) (C := RX3) (T := TX3) (N := 8) hx hb hts iX3 hown hK hP 2 rfl rfl 7 (by decide) (hts (.fieldLink RX3 34 "Barrierbook$Standing" "paidInAll" "I") (by decide +kernel)) (fun _ h9 => h9) rfl dX3_move_150 ?_
          refine lv_aload_n hx hb dX3_move_153 rfl (lv_at hl 2 rfl) ?_
          refine va_get (D := (dC, dI)) (ci := 3) (v := .int pl) (C := RX3) (T := TX3) (N := 8) hx hb hts iX3 hown hK hP 2 rfl rfl 6 (by decide) (hts (.fieldLink RX3 31 "Barrierbook$Standing" "paidLast" "I") (by decide +kernel)) (fun _ h9 => h9) rfl dX3_move_154 ?_
          refine lv_iadd hx hb dX3_move_157 ?_
          refine lv_topi (fun x_157 e_157 => ?_)
          refine va_put (D := (dC, dI)) (ci := 3) (v := .int x_157) (ty := .int) (C := RX3) (T := TX3) (N := 8) hx hb hts iX3 tyX3 tyX3_ok nmX3 hown hK hP hD hS 2 rfl rfl 7 (by decide) (hts (.fieldLink RX3 34 "Barrierbook$Standing" "paidInAll" "I") (by decide +kernel)) (fun _ h9 => h9) rfl (by decide +kernel) rfl rfl (Nat.le_of_ble_eq_true rfl) dX3_move_158 (fun H locs hP hD hS => ?_)
          have hP : va_P (dC, dI) vwCl [(a0, .inr (0, [.int (fa 0), .int (fa 1), .int (fa 2)])), (b0, .inr (0, [.int (fb 0), .int (fb 1), .int (fb 2)])), (h0, .inr (3, [.int (u_108 0), .int (u_108 1), .int (u_108 2), .int (u_108 3), .int (u_108 4), .int ov, .int pl, .int x_157])), (n0, .inr (2, [.ref a0, .ref b0, .int (nt 2), .int (nt 3), .int (nt 4), .int (nt 5), .int (nt 6), .int (nt 7), .int (nt 8), .int (nt 9), .int (nt 10)]))] H := hP
          have hD : va_D A [(a0, .inr (0, [.int (fa 0), .int (fa 1), .int (fa 2)])), (b0, .inr (0, [.int (fb 0), .int (fb 1), .int (fb 2)])), (h0, .inr (3, [.int (u_108 0), .int (u_108 1), .int (u_108 2), .int (u_108 3), .int (u_108 4), .int ov, .int pl, .int x_157])), (n0, .inr (2, [.ref a0, .ref b0, .int (nt 2), .int (nt 3), .int (nt 4), .int (nt 5), .int (nt 6), .int (nt 7), .int (nt 8), .int (nt 9), .int (nt 10)]))] := hD
          exact xrv hf hr hlk (x8f (u_108 0) (u_108 1) (u_108 2) (u_108 3) (u_108 4) ov pl x_157) (by subst e_6 e_157; simp [kMv, x8f, w_20, hx_48, w_48, hx_70, w_73, hx_103, w_108, hx_148, hy_148]) (hP.sub [2, 3, 0, 1] rfl) (hD.sub [2, 3, 0, 1] rfl rfl) hK hS dX3_move_161
        refine lv_if_ne (tgt := 127) hx hb dX3_move_115 (by decide) (fun c_115 => ?_) (fun c_115 => ?_)
        · refine lv_aload_n hx hb dX3_move_127 rfl (lv_at hl 2 rfl) ?_
          refine lv_iconst (v := 1) hx hb dX3_move_128 (by decide) ?_
          refine va_put (D := (dC, dI)) (ci := 3) (v := .int 1) (ty := .boolean) (C := RX3) (T := TX3) (N := 8) hx hb hts iX3 tyX3 tyX3_ok nmX3 hown hK hP hD hS 2 rfl rfl 5 (by decide) (hts (.fieldLink RX3 28 "Barrierbook$Standing" "isOver" "Z") (by decide +kernel)) (fun _ h9 => h9) rfl (by decide +kernel) rfl rfl (Nat.le_of_ble_eq_true rfl) dX3_move_129 (fun H locs hP hD hS => ?_)
          have hP : va_P (dC, dI) vwCl [(a0, .inr (0, [.int (fa 0), .int (fa 1), .int (fa 2)])), (b0, .inr (0, [.int (fb 0), .int (fb 1), .int (fb 2)])), (h0, .inr (3, [.int (u_108 0), .int (u_108 1), .int (u_108 2), .int (u_108 3), .int (u_108 4), .int 1, .int r_108, .int (u_108 7)])), (n0, .inr (2, [.ref a0, .ref b0, .int (nt 2), .int (nt 3), .int (nt 4), .int (nt 5), .int (nt 6), .int (nt 7), .int (nt 8), .int (nt 9), .int (nt 10)]))] H := hP
          have hD : va_D A [(a0, .inr (0, [.int (fa 0), .int (fa 1), .int (fa 2)])), (b0, .inr (0, [.int (fb 0), .int (fb 1), .int (fb 2)])), (h0, .inr (3, [.int (u_108 0), .int (u_108 1), .int (u_108 2), .int (u_108 3), .int (u_108 4), .int 1, .int r_108, .int (u_108 7)])), (n0, .inr (2, [.ref a0, .ref b0, .int (nt 2), .int (nt 3), .int (nt 4), .int (nt 5), .int (nt 6), .int (nt 7), .int (nt 8), .int (nt 9), .int (nt 10)]))] := hD
          refine lv_aload_n hx hb dX3_move_132 rfl (lv_at hl 2 rfl) ?_
          refine lv_dup hx hb dX3_move_133 rfl ?_
          refine va_get (D := (dC, dI)) (ci := 3) (v := .int r_108) (C := RX3) (T := TX3) (N := 8) hx hb hts iX3 hown hK hP 2 rfl rfl 6 (by decide) (hts (.fieldLink RX3 31 "Barrierbook$Standing" "paidLast" "I") (by decide +kernel)) (fun _ h9 => h9) rfl dX3_move_134 ?_
          refine lv_aload_n hx hb dX3_move_137 rfl (lv_at hl 2 rfl) ?_
          refine lv_iload hx hb dX3_move_138 (lv_at hl 0 rfl) ?_
          refine lv_iload_n hx hb dX3_move_140 rfl (lv_at hl 1 rfl) ?_
          refine xci (wr := [(a0, .inr (0, [.int (fa 0), .int (fa 1), .int (fa 2)])), (b0, .inr (0, [.int (fb 0), .int (fb 1), .int (fb 2)])), (n0, .inr (2, [.ref a0, .ref b0, .int (nt 2), .int (nt 3), .int (nt 4), .int (nt 5), .int (nt 6), .int (nt 7), .int (nt 8), .int (nt 9), .int (nt 10)]))]) (va_runV (As := [.int r_73, .int x]) (rest := [.int r_108, .ref h0]) hf (c_X3_endPay l dC dI cI cZ cJ H.size h0 (x8f (u_108 0) (u_108 1) (u_108 2) (u_108 3) (u_108 4) 1 r_108 (u_108 7)) r_73 x) (cwV 2 hts gX3_move_X3_endPay rfl rfl rfl (by decide +kernel) ⟨Nat.le_of_ble_eq_true rfl, Nat.le_of_ble_eq_true rfl⟩) (xPV (qc := (RX3, TX3, 8)) hK hP hD [2] rfl rfl 0 rfl rfl) rfl rfl hl.1 rfl (lv_room (Nat.le_of_ble_eq_true rfl)) dX3_move_141 ⟨Nat.le_of_ble_eq_true rfl, Nat.le_of_ble_eq_true rfl⟩) hP hD hS hA [2] [0, 1, 3] rfl rfl rfl (by decide) (fun r_141 u_141 H locs w_141 hP hD hS => ?_)
          have hP : va_P (dC, dI) vwCl [(a0, .inr (0, [.int (fa 0), .int (fa 1), .int (fa 2)])), (b0, .inr (0, [.int (fb 0), .int (fb 1), .int (fb 2)])), (n0, .inr (2, [.ref a0, .ref b0, .int (nt 2), .int (nt 3), .int (nt 4), .int (nt 5), .int (nt 6), .int (nt 7), .int (nt 8), .int (nt 9), .int (nt 10)])), (h0, .inr (3, [.int (u_108 0), .int (u_108 1), .int (u_108 2), .int (u_108 3), .int (u_108 4), .int 1, .int r_108, .int (u_108 7)]))] H := hP
          have hD : va_D A [(a0, .inr (0, [.int (fa 0), .int (fa 1), .int (fa 2)])), (b0, .inr (0, [.int (fb 0), .int (fb 1), .int (fb 2)])), (n0, .inr (2, [.ref a0, .ref b0, .int (nt 2), .int (nt 3), .int (nt 4), .int (nt 5), .int (nt 6), .int (nt 7), .int (nt 8), .int (nt 9), .int (nt 10)])), (h0, .inr (3, [.int (u_108 0), .int (u_108 1), .int (u_108 2), .int (u_108 3), .int (u_108 4), .int 1, .int r_108, .int (u_108 7)]))] := hD
          refine lv_iadd hx hb dX3_move_144 ?_
          refine lv_topi (fun x_144 e_144 => ?_)
          refine va_put (D := (dC, dI)) (ci := 3) (v := .int x_144) (ty := .int) (C := RX3) (T := TX3) (N := 8) hx hb hts iX3 tyX3 tyX3_ok nmX3 hown hK hP hD hS 3 rfl rfl 6 (by decide) (hts (.fieldLink RX3 31 "Barrierbook$Standing" "paidLast" "I") (by decide +kernel)) (fun _ h9 => h9) rfl (by decide +kernel) rfl rfl (Nat.le_of_ble_eq_true rfl) dX3_move_145 (fun H locs hP hD hS => ?_)
          have hP : va_P (dC, dI) vwCl [(a0, .inr (0, [.int (fa 0), .int (fa 1), .int (fa 2)])), (b0, .inr (0, [.int (fb 0), .int (fb 1), .int (fb 2)])), (n0, .inr (2, [.ref a0, .ref b0, .int (nt 2), .int (nt 3), .int (nt 4), .int (nt 5), .int (nt 6), .int (nt 7), .int (nt 8), .int (nt 9), .int (nt 10)])), (h0, .inr (3, [.int (u_108 0), .int (u_108 1), .int (u_108 2), .int (u_108 3), .int (u_108 4), .int 1, .int x_144, .int (u_108 7)]))] H := hP
          have hD : va_D A [(a0, .inr (0, [.int (fa 0), .int (fa 1), .int (fa 2)])), (b0, .inr (0, [.int (fb 0), .int (fb 1), .int (fb 2)])), (n0, .inr (2, [.ref a0, .ref b0, .int (nt 2), .int (nt 3), .int (nt 4), .int (nt 5), .int (nt 6), .int (nt 7), .int (nt 8), .int (nt 9), .int (nt 10)])), (h0, .inr (3, [.int (u_108 0), .int (u_108 1), .int (u_108 2), .int (u_108 3), .int (u_108 4), .int 1, .int x_144, .int (u_108 7)]))] := hD
          exact j_148 (1, x_144) H locs ls (by subst e_6 e_144; simp [kOv, kPl, w_108, x8f, c_115, w_141]) (hP.sub [0, 1, 3, 2] rfl) (hD.sub [0, 1, 3, 2] rfl rfl) hS (lv_sub hl [0, 1, 2, 3, 4] rfl)
        refine lv_iload hx hb dX3_move_118 (lv_at hl 0 rfl) ?_
        refine lv_aload_n hx hb dX3_move_120 rfl (lv_at hl 3 rfl) ?_
        refine va_get (D := (dC, dI)) (ci := 2) (v := .int (nt 7)) (C := RX2) (T := TX2) (N := 11) hx hb hts iX2 hown hK hP 3 rfl rfl 7 (by decide) (hts (.fieldLink RX3 85 "Barrierbook$Note" "callLevel" "I") (by decide +kernel)) (fun _ h9 => h9) rfl dX3_move_121 ?_
        refine lv_icmp_lt (tgt := 148) hx hb dX3_move_124 (by decide) (fun c_124 => ?_) (fun c_124 => ?_)
        · exact j_148 (u_108 5, r_108) H locs ls (by subst e_6; simp [kOv, kPl, w_108, x8f, c_115, c_124]) (hP.sub [0, 1, 2, 3] rfl) (hD.sub [0, 1, 2, 3] rfl rfl) hS (lv_sub hl [0, 1, 2, 3, 4] rfl)
        refine lv_aload_n hx hb dX3_move_127 rfl (lv_at hl 2 rfl) ?_
        refine lv_iconst (v := 1) hx hb dX3_move_128 (by decide) ?_
        refine va_put (D := (dC, dI)) (ci := 3) (v := .int 1) (ty := .boolean) (C := RX3) (T := TX3) (N := 8) hx hb hts iX3 tyX3 tyX3_ok nmX3 hown hK hP hD hS 2 rfl rfl 5 (by decide) (hts (.fieldLink RX3 28 "Barrierbook$Standing" "isOver" "Z") (by decide +kernel)) (fun _ h9 => h9) rfl (by decide +kernel) rfl rfl (Nat.le_of_ble_eq_true rfl) dX3_move_129 (fun H locs hP hD hS => ?_)
        have hP : va_P (dC, dI) vwCl [(a0, .inr (0, [.int (fa 0), .int (fa 1), .int (fa 2)])), (b0, .inr (0, [.int (fb 0), .int (fb 1), .int (fb 2)])), (h0, .inr (3, [.int (u_108 0), .int (u_108 1), .int (u_108 2), .int (u_108 3), .int (u_108 4), .int 1, .int r_108, .int (u_108 7)])), (n0, .inr (2, [.ref a0, .ref b0, .int (nt 2), .int (nt 3), .int (nt 4), .int (nt 5), .int (nt 6), .int (nt 7), .int (nt 8), .int (nt 9), .int (nt 10)]))] H := hP
        have hD : va_D A [(a0, .inr (0, [.int (fa 0), .int (fa 1), .int (fa 2)])), (b0, .inr (0, [.int (fb 0), .int (fb 1), .int (fb 2)])), (h0, .inr (3, [.int (u_108 0), .int (u_108 1), .int (u_108 2), .int (u_108 3), .int (u_108 4), .int 1, .int r_108, .int (u_108 7)])), (n0, .inr (2, [.ref a0, .ref b0, .int (nt 2), .int (nt 3), .int (nt 4), .int (nt 5), .int (nt 6), .int (nt 7), .int (nt 8), .int (nt 9), .int (nt 10)]))] := hD
        refine lv_aload_n hx hb dX3_move_132 rfl (lv_at hl 2 rfl) ?_
        refine lv_dup hx hb dX3_move_133 rfl ?_
        refine va_get (D := (dC, dI)) (ci := 3) (v := .int r_108) (C := RX3) (T := TX3) (N := 8) hx hb hts iX3 hown hK hP 2 rfl rfl 6 (by decide) (hts (.fieldLink RX3 31 "Barrierbook$Standing" "paidLast" "I") (by decide +kernel)) (fun _ h9 => h9) rfl dX3_move_134 ?_
        refine lv_aload_n hx hb dX3_move_137 rfl (lv_at hl 2 rfl) ?_
        refine lv_iload hx hb dX3_move_138 (lv_at hl 0 rfl) ?_
        refine lv_iload_n hx hb dX3_move_140 rfl (lv_at hl 1 rfl) ?_
        refine xci (wr := [(a0, .inr (0, [.int (fa 0), .int (fa 1), .int (fa 2)])), (b0, .inr (0, [.int (fb 0), .int (fb 1), .int (fb 2)])), (n0, .inr (2, [.ref a0, .ref b0, .int (nt 2), .int (nt 3), .int (nt 4), .int (nt 5), .int (nt 6), .int (nt 7), .int (nt 8), .int (nt 9), .int (nt 10)]))]) (va_runV (As := [.int r_73, .int x]) (rest := [.int r_108, .ref h0]) hf (c_X3_endPay l dC dI cI cZ cJ H.size h0 (x8f (u_108 0) (u_108 1) (u_108 2) (u_108 3) (u_108 4) 1 r_108 (u_108 7)) r_73 x) (cwV 2 hts gX3_move_X3_endPay rfl rfl rfl (by decide +kernel) ⟨Nat.le_of_ble_eq_true rfl, Nat.le_of_ble_eq_true rfl⟩) (xPV (qc := (RX3, TX3, 8)) hK hP hD [2] rfl rfl 0 rfl rfl) rfl rfl hl.1 rfl (lv_room (Nat.le_of_ble_eq_true rfl)) dX3_move_141 ⟨Nat.le_of_ble_eq_true rfl, Nat.le_of_ble_eq_true rfl⟩) hP hD hS hA [2] [0, 1, 3] rfl rfl rfl (by decide) (fun r_141 u_141 H locs w_141 hP hD hS => ?_)
        have hP : va_P (dC, dI) vwCl [(a0, .inr (0, [.int (fa 0), .int (fa 1), .int (fa 2)])), (b0, .inr (0, [.int (fb 0), .int (fb 1), .int (fb 2)])), (n0, .inr (2, [.ref a0, .ref b0, .int (nt 2), .int (nt 3), .int (nt 4), .int (nt 5), .int (nt 6), .int (nt 7), .int (nt 8), .int (nt 9), .int (nt 10)])), (h0, .inr (3, [.int (u_108 0), .int (u_108 1), .int (u_108 2), .int (u_108 3), .int (u_108 4), .int 1, .int r_108, .int (u_108 7)]))] H := hP
        have hD : va_D A [(a0, .inr (0, [.int (fa 0), .int (fa 1), .int (fa 2)])), (b0, .inr (0, [.int (fb 0), .int (fb 1), .int (fb 2)])), (n0, .inr (2, [.ref a0, .ref b0, .int (nt 2), .int (nt 3), .int (nt 4), .int (nt 5), .int (nt 6), .int (nt 7), .int (nt 8), .int (nt 9), .int (nt 10)])), (h0, .inr (3, [.int (u_108 0), .int (u_108 1), .int (u_108 2), .int (u_108 3), .int (u_108 4), .int 1, .int r_108, .int (u_108 7)]))] := hD
        refine lv_iadd hx hb dX3_move_144 ?_
        refine lv_topi (fun x_144 e_144 => ?_)
        refine va_put (D := (dC, dI)) (ci := 3) (v := .int x_144) (ty := .int) (C := RX3) (T := TX3) (N := 8) hx hb hts iX3 tyX3 tyX3_ok nmX3 hown hK hP hD hS 3 rfl rfl 6 (by decide) (hts (.fieldLink RX3 31 "Barrierbook$Standing" "paidLast" "I") (by decide +kernel)) (fun _ h9 => h9) rfl (by decide +kernel) rfl rfl (Nat.le_of_ble_eq_true rfl) dX3_move_145 (fun H locs hP hD hS => ?_)
        have hP : va_P (dC, dI) vwCl [(a0, .inr (0, [.int (fa 0), .int (fa 1), .int (fa 2)])), (b0, .inr (0, [.int (fb 0), .int (fb 1), .int (fb 2)])), (n0, .inr (2, [.ref a0, .ref b0, .int (nt 2), .int (nt 3), .int (nt 4), .int (nt 5), .int (nt 6), .int (nt 7), .int (nt 8), .int (nt 9), .int (nt 10)])), (h0, .inr (3, [.int (u_108 0), .int (u_108 1), .int (u_108 2), .int (u_108 3), .int (u_108 4), .int 1, .int x_144, .int (u_108 7)]))] H := hP
        have hD : va_D A [(a0, .inr (0, [.int (fa 0), .int (fa 1), .int (fa 2)])), (b0, .inr (0, [.int (fb 0), .int (fb 1), .int (fb 2)])), (n0, .inr (2, [.ref a0, .ref b0, .int (nt 2), .int (nt 3), .int (nt 4), .int (nt 5), .int (nt 6), .int (nt 7), .int (nt 8), .int (nt 9), .int (nt 10)])), (h0, .inr (3, [.int (u_108 0), .int (u_108 1), .int (u_108 2), .int (u_108 3), .int (u_108 4), .int 1, .int x_144, .int (u_108 7)]))] := hD
        exact j_148 (1, x_144) H locs ls (by subst e_6 e_144; simp [kOv, kPl, w_108, x8f, c_115, c_124, w_141]) (hP.sub [0, 1, 3, 2] rfl) (hD.sub [0, 1, 3, 2] rfl rfl) hS (lv_sub hl [0, 1, 2, 3, 4] rfl)
      refine lv_icmp_ge (tgt := 103) hx hb dX3_move_84 (by decide) (fun c_84 => ?_) (fun c_84 => ?_)
      · exact j_103 (st 4) H locs ls (by subst e_6; simp [kKn, x8f, c_84]) (hP.sub [0, 1, 2, 3] rfl) (hD.sub [0, 1, 2, 3] rfl rfl) hS (lv_sub hl [0, 1, 2, 3, 4] rfl)
      refine lv_iload_n hx hb dX3_move_87 rfl (lv_at hl 1 rfl) ?_
      refine lv_if_ne (tgt := 98) hx hb dX3_move_88 (by decide) (fun c_88 => ?_) (fun c_88 => ?_)
      · refine lv_aload_n hx hb dX3_move_98 rfl (lv_at hl 2 rfl) ?_
        refine lv_iconst (v := 1) hx hb dX3_move_99 (by decide) ?_
        refine va_put (D := (dC, dI)) (ci := 3) (v := .int 1) (ty := .boolean) (C := RX3) (T := TX3) (N := 8) hx hb hts iX3 tyX3 tyX3_ok nmX3 hown hK hP hD hS 0 rfl rfl 4 (by decide) (hts (.fieldLink RX3 24 "Barrierbook$Standing" "isKnocked" "Z") (by decide +kernel)) (fun _ h9 => h9) rfl (by decide +kernel) rfl rfl (Nat.le_of_ble_eq_true rfl) dX3_move_100 (fun H locs hP hD hS => ?_)
        have hP : va_P (dC, dI) vwCl [(h0, .inr (3, [.int x_6, .int r_20, .int r_48, .int (st 3), .int 1, .int (st 5), .int (st 6), .int (st 7)])), (n0, .inr (2, [.ref a0, .ref b0, .int (nt 2), .int (nt 3), .int (nt 4), .int (nt 5), .int (nt 6), .int (nt 7), .int (nt 8), .int (nt 9), .int (nt 10)])), (a0, .inr (0, [.int (fa 0), .int (fa 1), .int (fa 2)])), (b0, .inr (0, [.int (fb 0), .int (fb 1), .int (fb 2)]))] H := hP
        have hD : va_D A [(h0, .inr (3, [.int x_6, .int r_20, .int r_48, .int (st 3), .int 1, .int (st 5), .int (st 6), .int (st 7)])), (n0, .inr (2, [.ref a0, .ref b0, .int (nt 2), .int (nt 3), .int (nt 4), .int (nt 5), .int (nt 6), .int (nt 7), .int (nt 8), .int (nt 9), .int (nt 10)])), (a0, .inr (0, [.int (fa 0), .int (fa 1), .int (fa 2)])), (b0, .inr (0, [.int (fb 0), .int (fb 1), .int (fb 2)]))] := hD
        exact j_103 1 H locs ls (by subst e_6; simp [kKn, x8f, c_84, c_88]) (hP.sub [0, 1, 2, 3] rfl) (hD.sub [0, 1, 2, 3] rfl rfl) hS (lv_sub hl [0, 1, 2, 3, 4] rfl)
      refine lv_aload_n hx hb dX3_move_91 rfl (lv_at hl 3 rfl) ?_
      refine va_get (D := (dC, dI)) (ci := 2) (v := .int (nt 9)) (C := RX2) (T := TX2) (N := 11) hx hb hts iX2 hown hK hP 1 rfl rfl 9 (by decide) (hts (.fieldLink RX3 78 "Barrierbook$Note" "isAtEnd" "Z") (by decide +kernel)) (fun _ h9 => h9) rfl dX3_move_92 ?_
      refine lv_if_ne (tgt := 103) hx hb dX3_move_95 (by decide) (fun c_95 => ?_) (fun c_95 => ?_)
      · exact j_103 (st 4) H locs ls (by subst e_6; simp [kKn, x8f, c_84, c_88, c_95]) (hP.sub [0, 1, 2, 3] rfl) (hD.sub [0, 1, 2, 3] rfl rfl) hS (lv_sub hl [0, 1, 2, 3, 4] rfl)
      refine lv_aload_n hx hb dX3_move_98 rfl (lv_at hl 2 rfl) ?_
      refine lv_iconst (v := 1) hx hb dX3_move_99 (by decide) ?_
      refine va_put (D := (dC, dI)) (ci := 3) (v := .int 1) (ty := .boolean) (C := RX3) (T := TX3) (N := 8) hx hb hts iX3 tyX3 tyX3_ok nmX3 hown hK hP hD hS 0 rfl rfl 4 (by decide) (hts (.fieldLink RX3 24 "Barrierbook$Standing" "isKnocked" "Z") (by decide +kernel)) (fun _ h9 => h9) rfl (by decide +kernel) rfl rfl (Nat.le_of_ble_eq_true rfl) dX3_move_100 (fun H locs hP hD hS => ?_)
      have hP : va_P (dC, dI) vwCl [(h0, .inr (3, [.int x_6, .int r_20, .int r_48, .int (st 3), .int 1, .int (st 5), .int (st 6), .int (st 7)])), (n0, .inr (2, [.ref a0, .ref b0, .int (nt 2), .int (nt 3), .int (nt 4), .int (nt 5), .int (nt 6), .int (nt 7), .int (nt 8), .int (nt 9), .int (nt 10)])), (a0, .inr (0, [.int (fa 0), .int (fa 1), .int (fa 2)])), (b0, .inr (0, [.int (fb 0), .int (fb 1), .int (fb 2)]))] H := hP
      have hD : va_D A [(h0, .inr (3, [.int x_6, .int r_20, .int r_48, .int (st 3), .int 1, .int (st 5), .int (st 6), .int (st 7)])), (n0, .inr (2, [.ref a0, .ref b0, .int (nt 2), .int (nt 3), .int (nt 4), .int (nt 5), .int (nt 6), .int (nt 7), .int (nt 8), .int (nt 9), .int (nt 10)])), (a0, .inr (0, [.int (fa 0), .int (fa 1), .int (fa 2)])), (b0, .inr (0, [.int (fb 0), .int (fb 1), .int (fb 2)]))] := hD
      exact j_103 1 H locs ls (by subst e_6; simp [kKn, x8f, c_84, c_88, c_95]) (hP.sub [0, 1, 2, 3] rfl) (hD.sub [0, 1, 2, 3] rfl rfl) hS (lv_sub hl [0, 1, 2, 3, 4] rfl)
    refine lv_icmp_lt (tgt := 69) hx hb dX3_move_62 (by decide) (fun c_62 => ?_) (fun c_62 => ?_)
    · refine lv_iconst (v := 0) hx hb dX3_move_69 (by decide) ?_
      exact j_70 0 H locs ls (by subst e_6; simp [kLast, x8f, c_62]) (hP.sub [0, 1, 2, 3] rfl) (hD.sub [0, 1, 2, 3] rfl rfl) hS (lv_sub hl [0, 1, 2] rfl)
    refine lv_iconst (v := 1) hx hb dX3_move_65 (by decide) ?_
    refine lv_goto (tgt := 70) hx hb dX3_move_66 (by decide) ?_
    exact j_70 1 H locs ls (by subst e_6; simp [kLast, x8f, c_62]) (hP.sub [0, 1, 2, 3] rfl) (hD.sub [0, 1, 2, 3] rfl rfl) hS (lv_sub hl [0, 1, 2] rfl)
  refine lv_icmp_eq (tgt := 47) hx hb dX3_move_40 (by decide) (fun c_40 => ?_) (fun c_40 => ?_)
  · refine lv_iconst (v := 0) hx hb dX3_move_47 (by decide) ?_
    exact j_48 0 H locs ls (by subst e_6; simp [kXor, x8f, c_40]) (hP.sub [0, 1, 2, 3] rfl) (hD.sub [0, 1, 2, 3] rfl rfl) hS (lv_sub hl [0, 1, 2] rfl)
  refine lv_iconst (v := 1) hx hb dX3_move_43 (by decide) ?_
  refine lv_goto (tgt := 48) hx hb dX3_move_44 (by decide) ?_
  exact j_48 1 H locs ls (by subst e_6; simp [kXor, x8f, c_40]) (hP.sub [0, 1, 2, 3] rfl) (hD.sub [0, 1, 2, 3] rfl rfl) hS (lv_sub hl [0, 1, 2] rfl)
set_option maxHeartbeats 4000000 in
set_option maxRecDepth 100000 in
theorem c_X5_isUpAt (l : Launch) (dC : Nat → ClassId) (dI : Nat → Nat → Nat) (cI cZ cJ : ClassId) (sz : Nat) (x i : Int32) : Met l yX5_isUpAt wsX5_isUpAt ({ frames := 0, cells := 0, slots := 0, locals := 0 }) (va_Pc [.int x, .int i] (xB (dC, dI) (xT cI cZ cJ) [] sz)) (va_Qi (fun (r : Int32) (u : Unit) => r = kBit x i) (fun (u : Unit) t => xA (dC, dI) (xT cI cZ cJ) [] (va_A [] sz) t) (va_A [] sz)) 0 0 (va_A [] sz) := by
  refine xMet (QF := fun A => va_Qi (fun (r : Int32) (u : Unit) => r = kBit x i) (fun (u : Unit) t => xA (dC, dI) (xT cI cZ cJ) [] A t) A) (maxL := 2) (ret := (some .boolean)) (cc := cX5_isUpAt) (by decide) rfl (Nat.le_of_ble_eq_true rfl) ?_
  intro p e s m below meth c ls A hf hr hlk hnm hK hP hD hA hS hl
  obtain ⟨hx, hb, hml, hown, hts⟩ := id hf
  have hl : lv_has ls 2 [(0, .int x), (1, .int i)] := hl
  have hP : va_P (dC, dI) vwCl [] s.heap := hP
  refine lv_iload_n hx hb dX5_isUpAt_0 rfl (lv_at hl 0 rfl) ?_
  refine lv_iload_n hx hb dX5_isUpAt_1 rfl (lv_at hl 1 rfl) ?_
  refine lv_ishr hx hb dX5_isUpAt_2 ?_
  refine lv_topi (fun x_2 e_2 => ?_)
  refine lv_iconst (v := 1) hx hb dX5_isUpAt_3 (by decide) ?_
  refine lv_iand hx hb dX5_isUpAt_4 ?_
  refine lv_topi (fun x_4 e_4 => ?_)
  refine lv_iconst (v := 1) hx hb dX5_isUpAt_5 (by decide) ?_
  refine lv_icmp_ne (tgt := 13) hx hb dX5_isUpAt_6 (by decide) (fun c_6 => ?_) (fun c_6 => ?_)
  · refine lv_iconst (v := 0) hx hb dX5_isUpAt_13 (by decide) ?_
    exact xrz hf hr hlk (()) (rfl) (by subst e_2 e_4; simp [kBit, x8f, c_6]) (hP.sub [] rfl) (hD.sub [] rfl rfl) hK hS dX5_isUpAt_14
  refine lv_iconst (v := 1) hx hb dX5_isUpAt_9 (by decide) ?_
  refine lv_goto (tgt := 14) hx hb dX5_isUpAt_10 (by decide) ?_
  exact xrz hf hr hlk (()) (rfl) (by subst e_2 e_4; simp [kBit, x8f, c_6]) (hP.sub [] rfl) (hD.sub [] rfl rfl) hK hS dX5_isUpAt_14
set_option maxHeartbeats 4000000 in
set_option maxRecDepth 100000 in
theorem c_X5_isAsset (l : Launch) (dC : Nat → ClassId) (dI : Nat → Nat → Nat) (cI cZ cJ : ClassId) (sz : Nat) (x : Int32) : Met l yX5_isAsset wsX5_isAsset ({ frames := 0, cells := 0, slots := 0, locals := 0 }) (va_Pc [.int x] (xB (dC, dI) (xT cI cZ cJ) [] sz)) (va_Qi (fun (r : Int32) (u : Unit) => r = kAs x) (fun (u : Unit) t => xA (dC, dI) (xT cI cZ cJ) [] (va_A [] sz) t) (va_A [] sz)) 0 0 (va_A [] sz) := by
  refine xMet (QF := fun A => va_Qi (fun (r : Int32) (u : Unit) => r = kAs x) (fun (u : Unit) t => xA (dC, dI) (xT cI cZ cJ) [] A t) A) (maxL := 1) (ret := (some .boolean)) (cc := cX5_isAsset) (by decide) rfl (Nat.le_of_ble_eq_true rfl) ?_
  intro p e s m below meth c ls A hf hr hlk hnm hK hP hD hA hS hl
  obtain ⟨hx, hb, hml, hown, hts⟩ := id hf
  have hl : lv_has ls 1 [(0, .int x)] := hl
  have hP : va_P (dC, dI) vwCl [] s.heap := hP
  refine lv_iload_n hx hb dX5_isAsset_0 rfl (lv_at hl 0 rfl) ?_
  refine lv_if_eq (tgt := 9) hx hb dX5_isAsset_1 (by decide) (fun c_1 => ?_) (fun c_1 => ?_)
  · refine lv_iconst (v := 1) hx hb dX5_isAsset_9 (by decide) ?_
    refine lv_goto (tgt := 14) hx hb dX5_isAsset_10 (by decide) ?_
    exact xrz hf hr hlk (()) (rfl) (by simp [kAs, x8f, c_1]) (hP.sub [] rfl) (hD.sub [] rfl rfl) hK hS dX5_isAsset_14
  refine lv_iload_n hx hb dX5_isAsset_4 rfl (lv_at hl 0 rfl) ?_
  refine lv_iconst (v := 1) hx hb dX5_isAsset_5 (by decide) ?_
  refine lv_icmp_ne (tgt := 13) hx hb dX5_isAsset_6 (by decide) (fun c_6 => ?_) (fun c_6 => ?_)
  · refine lv_iconst (v := 0) hx hb dX5_isAsset_13 (by decide) ?_
    exact xrz hf hr hlk (()) (rfl) (by simp [kAs, x8f, c_1, c_6]) (hP.sub [] rfl) (hD.sub [] rfl rfl) hK hS dX5_isAsset_14
  refine lv_iconst (v := 1) hx hb dX5_isAsset_9 (by decide) ?_
  refine lv_goto (tgt := 14) hx hb dX5_isAsset_10 (by decide) ?_
  exact xrz hf hr hlk (()) (rfl) (by simp [kAs, x8f, c_1, c_6]) (hP.sub [] rfl) (hD.sub [] rfl rfl) hK hS dX5_isAsset_14
set_option maxHeartbeats 4000000 in
set_option maxRecDepth 100000 in
theorem c_X5_isWithin (l : Launch) (dC : Nat → ClassId) (dI : Nat → Nat → Nat) (cI cZ cJ : ClassId) (sz : Nat) (x lo hi : Int32) : Met l yX5_isWithin wsX5_isWithin ({ frames := 0, cells := 0, slots := 0, locals := 0 }) (va_Pc [.int x, .int lo, .int hi] (xB (dC, dI) (xT cI cZ cJ) [] sz)) (va_Qi (fun (r : Int32) (u : Unit) => r = kIn x lo hi) (fun (u : Unit) t => xA (dC, dI) (xT cI cZ cJ) [] (va_A [] sz) t) (va_A [] sz)) 0 0 (va_A [] sz) := by
  refine xMet (QF := fun A => va_Qi (fun (r : Int32) (u : Unit) => r = kIn x lo hi) (fun (u : Unit) t => xA (dC, dI) (xT cI cZ cJ) [] A t) A) (maxL := 3) (ret := (some .boolean)) (cc := cX5_isWithin) (by decide) rfl (Nat.le_of_ble_eq_true rfl) ?_
  intro p e s m below meth c ls A hf hr hlk hnm hK hP hD hA hS hl
  obtain ⟨hx, hb, hml, hown, hts⟩ := id hf
  have hl : lv_has ls 3 [(0, .int x), (1, .int lo), (2, .int hi)] := hl
  have hP : va_P (dC, dI) vwCl [] s.heap := hP
  refine lv_iload_n hx hb dX5_isWithin_0 rfl (lv_at hl 0 rfl) ?_
  refine lv_iload_n hx hb dX5_isWithin_1 rfl (lv_at hl 1 rfl) ?_
  refine lv_icmp_lt (tgt := 14) hx hb dX5_isWithin_2 (by decide) (fun c_2 => ?_) (fun c_2 => ?_)
  · refine lv_iconst (v := 0) hx hb dX5_isWithin_14 (by decide) ?_
    exact xrz hf hr hlk (()) (rfl) (by simp [kIn, x8f, c_2]) (hP.sub [] rfl) (hD.sub [] rfl rfl) hK hS dX5_isWithin_15
  refine lv_iload_n hx hb dX5_isWithin_5 rfl (lv_at hl 0 rfl) ?_
  refine lv_iload_n hx hb dX5_isWithin_6 rfl (lv_at hl 2 rfl) ?_
  refine lv_icmp_gt (tgt := 14) hx hb dX5_isWithin_7 (by decide) (fun c_7 => ?_) (fun c_7 => ?_)
  · refine lv_iconst (v := 0) hx hb dX5_isWithin_14 (by decide) ?_
    exact xrz hf hr hlk (()) (rfl) (by simp [kIn, x8f, c_2, c_7]) (hP.sub [] rfl) (hD.sub [] rfl rfl) hK hS dX5_isWithin_15
  refine lv_iconst (v := 1) hx hb dX5_isWithin_10 (by decide) ?_
  refine lv_goto (tgt := 15) hx hb dX5_isWithin_11 (by decide) ?_
  exact xrz hf hr hlk (()) (rfl) (by simp [kIn, x8f, c_2, c_7]) (hP.sub [] rfl) (hD.sub [] rfl rfl) hK hS dX5_isWithin_15
set_option maxHeartbeats 4000000 in
set_option maxRecDepth 100000 in
theorem c_X5_wholeWeightOf (l : Launch) (dC : Nat → ClassId) (dI : Nat → Nat → Nat) (cI cZ cJ : ClassId) (sz : Nat) (n : Nat) (hn : n ≤ 8) : Met l yX5_wholeWeightOf wsX5_wholeWeightOf ({ frames := 0, cells := 0, slots := 0, locals := 0 }) (va_Pc [.int (nI n)] (xB (dC, dI) (xT cI cZ cJ) [] sz)) (va_Ql (fun (r : Int64) (u : Unit) => r = lN (10 ^ n)) (fun (u : Unit) t => xA (dC, dI) (xT cI cZ cJ) [] (va_A [] sz) t) (va_A [] sz)) 0 0 (va_A [] sz) := by
  refine xMet (QF := fun A => va_Ql (fun (r : Int64) (u : Unit) => r = lN (10 ^ n)) (fun (u : Unit) t => xA (dC, dI) (xT cI cZ cJ) [] A t) A) (maxL := 4) (ret := (some .long)) (cc := cX5_wholeWeightOf) (by decide) rfl (Nat.le_of_ble_eq_true rfl) ?_
  intro p e s m below meth c ls A hf hr hlk hnm hK hP hD hA hS hl
  obtain ⟨hx, hb, hml, hown, hts⟩ := id hf
  have hl : lv_has ls 4 [(0, .int (nI n))] := hl
  have hP : va_P (dC, dI) vwCl [] s.heap := hP
  refine lv_lconst (v := 1) hx hb dX5_wholeWeightOf_0 (by decide) ?_
  refine xtl (y := (lN (10 ^ 0))) (by decide) ?_
  refine lv_lstore_n (lv' := [(1, .long (lN (10 ^ 0))), (0, .int (nI n))]) hx hb dX5_wholeWeightOf_1 rfl hl (by decide) rfl (fun ls hl => ?_)
  refine lv_iconst (v := 0) hx hb dX5_wholeWeightOf_2 (by decide) ?_
  refine xti (y := (nI 0)) (rfl) ?_
  refine lv_istore_n (lv' := [(3, .int (nI 0)), (1, .long (lN (10 ^ 0))), (0, .int (nI n))]) hx hb dX5_wholeWeightOf_3 rfl hl (by decide) rfl (fun ls hl => ?_)
  refine xloop (X := Nat) (D := (dC, dI)) (A := A) (H0 := s.heap) (nL := 4) (P := fun zz => zz ≤ n) (w1 := fun zz => []) (lv1 := fun zz => [(0, .int (nI n)), (1, .long (lN (10 ^ zz))), (3, .int (nI zz))]) (st1 := fun zz => []) (J := 4) (μ := fun zz => n - zz) ?_ 0 s.heap [] ls (Nat.zero_le n) (hP.sub [] rfl) (hD.sub [] rfl rfl) hS (lv_sub hl [2, 1, 0] rfl)
  intro i H locs ls hcut hP hD hS hl ih_4
  have hcut : i ≤ n := hcut
  have hi := hcut
  have hl : lv_has ls 4 [(0, .int (nI n)), (1, .long (lN (10 ^ i))), (3, .int (nI i))] := hl
  have hP : va_P (dC, dI) vwCl [] H := hP
  have hD : va_D A [] := hD
  refine lv_iload_n hx hb dX5_wholeWeightOf_4 rfl (lv_at hl 2 rfl) ?_
  refine lv_iload_n hx hb dX5_wholeWeightOf_5 rfl (lv_at hl 0 rfl) ?_
  refine lv_icmp_ge (tgt := 27) hx hb dX5_wholeWeightOf_6 (by decide) (fun c_6 => ?_) (fun c_6 => ?_)
  · refine lv_lload_n hx hb dX5_wholeWeightOf_27 rfl (lv_at hl 1 rfl) ?_
    exact xrl hf hr hlk (()) (by rw [show i = n from Nat.le_antisymm hi (by rcases Nat.lt_or_ge i n with h | h; exact absurd c_6 (nI_ge h (by omega)); exact h)]) (hP.sub [] rfl) (hD.sub [] rfl rfl) hK hS dX5_wholeWeightOf_28
  have hlt : i < n := by rcases Nat.lt_or_ge i n with h | h; exact h; exact absurd (nI_le h (by omega)) c_6
  refine lv_iload_n hx hb dX5_wholeWeightOf_9 rfl (lv_at hl 2 rfl) ?_
  refine lv_bipush (v := 8) hx hb dX5_wholeWeightOf_10 (by decide) ?_
  refine lv_icmp_ge (tgt := 27) hx hb dX5_wholeWeightOf_12 (by decide) (fun c_12 => ?_) (fun c_12 => ?_)
  · exact absurd ((nI_leI (a := 8) (b := i) (by omega) (by omega)).mp c_12) (by omega)
  refine lv_lload_n hx hb dX5_wholeWeightOf_15 rfl (lv_at hl 1 rfl) ?_
  refine lv_ldc2 (v := 10) hx hb hown (hts (.constantLong RX5 191 (10)) (by decide +kernel)) dX5_wholeWeightOf_16 ?_
  refine lv_lmul hx hb dX5_wholeWeightOf_19 ?_
  refine xtl (y := (lN (10 ^ (i + 1)))) (by rw [show (10 : Int64) = lN 10 from rfl, lN_mul, Nat.pow_succ]) ?_
  refine lv_lstore_n (lv' := [(1, .long (lN (10 ^ (i + 1)))), (0, .int (nI n)), (3, .int (nI i))]) hx hb dX5_wholeWeightOf_20 rfl hl (by decide) rfl (fun ls hl => ?_)
  refine lv_iinc (v := (nI (i + 1))) (lv' := [(3, .int (nI (i + 1))), (1, .long (lN (10 ^ (i + 1)))), (0, .int (nI n))]) hx hb dX5_wholeWeightOf_21 hl (k := 2) rfl (nI_1 i) (by decide) rfl (fun ls hl => ?_)
  refine lv_goto (tgt := 4) hx hb dX5_wholeWeightOf_24 (by decide) ?_
  exact ih_4 (i + 1) H locs ls (hlt) (by omega) (hP.sub [] rfl) (hD.sub [] rfl rfl) hS (lv_sub hl [2, 1, 0] rfl)
