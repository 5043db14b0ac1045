/-! ===== Int32 by its bits: bt x i ===== -/
def bt (x : Int32) (i : Nat) : Bool := x.toBitVec.getLsbD i
theorem b_ext {x y : Int32} (h : ∀ i, i < 32 → bt x i = bt y i) : x = y := Int32.toBitVec_inj.mp (BitVec.eq_of_getLsbD_eq (fun i hi => h i hi))
theorem b_or (x y : Int32) (i : Nat) : bt (x ||| y) i = (bt x i || bt y i) := by unfold bt; rw [Int32.toBitVec_or, BitVec.getLsbD_or]
theorem b_and (x y : Int32) (i : Nat) : bt (x &&& y) i = (bt x i && bt y i) := by unfold bt; rw [Int32.toBitVec_and, BitVec.getLsbD_and]
theorem b_xor (x y : Int32) (i : Nat) : bt (x ^^^ y) i = (bt x i ^^ bt y i) := by unfold bt; rw [Int32.toBitVec_xor, BitVec.getLsbD_xor]
theorem b_big {x : Int32} {i : Nat} (h : 32 ≤ i) : bt x i = false := BitVec.getLsbD_of_ge _ _ h
theorem b_255 (i : Nat) : bt 255 i = decide (i < 8) := by
  rcases Nat.lt_or_ge i 32 with h | h
  · exact (by decide +kernel : ∀ i, i < 32 → bt 255 i = decide (i < 8)) i h
  · rw [b_big h, decide_eq_false (by omega)]
theorem b_65535 (i : Nat) : bt 65535 i = decide (i < 16) := by
  rcases Nat.lt_or_ge i 32 with h | h
  · exact (by decide +kernel : ∀ i, i < 32 → bt 65535 i = decide (i < 16)) i h
  · rw [b_big h, decide_eq_false (by omega)]
theorem b_m1 : ∀ i, i < 32 → bt (-1) i = true := by decide +kernel
theorem b_0 (i : Nat) : bt 0 i = false := BitVec.getLsbD_zero
theorem s_l : ∀ n, n < 32 → ((nI n &&& 31).toBitVec.smod 32).toNat = n := by decide +kernel
theorem s_u : ∀ n, n < 32 → (((nI n).toUInt32 &&& Int32.toUInt32 31).toBitVec % 32).toNat = n := by decide +kernel
theorem b_shl (n : Nat) (hn : n < 32) (x : Int32) {i : Nat} (hi : i < 32) : bt (x <<< (nI n &&& 31)) i = (decide (n ≤ i) && bt x (i - n)) := by
  unfold bt
  rw [Int32.toBitVec_shiftLeft]
  show (x.toBitVec <<< ((nI n &&& 31).toBitVec.smod 32).toNat).getLsbD i = _
  rw [s_l n hn, BitVec.getLsbD_shiftLeft]
  rcases Nat.lt_or_ge i n with h | h
  · simp [h, Nat.not_le.mpr h]
  · simp [hi, h, Nat.not_lt.mpr h]
theorem b_ushr (n : Nat) (hn : n < 32) (x : Int32) (i : Nat) : bt ((x.toUInt32 >>> ((nI n).toUInt32 &&& Int32.toUInt32 31)).toInt32) i = bt x (n + i) := by
  show (x.toUInt32 >>> ((nI n).toUInt32 &&& Int32.toUInt32 31)).toBitVec.getLsbD i = x.toUInt32.toBitVec.getLsbD (n + i)
  rw [UInt32.toBitVec_shiftRight]
  show (x.toUInt32.toBitVec >>> (((nI n).toUInt32 &&& Int32.toUInt32 31).toBitVec % 32).toNat).getLsbD i = _
  rw [s_u n hn, BitVec.getLsbD_ushiftRight]
theorem b_sshr (n : Nat) (hn : n < 32) (x : Int32) {i : Nat} (hi : i < 32) : bt (x >>> (nI n &&& 31)) i = if n + i < 32 then bt x (n + i) else bt x 31 := by
  unfold bt
  rw [Int32.toBitVec_shiftRight]
  show (x.toBitVec.sshiftRight ((nI n &&& 31).toBitVec.smod 32).toNat).getLsbD i = _
  rw [s_l n hn, BitVec.getLsbD_sshiftRight, BitVec.msb_eq_getLsbD_last]
  simp [hi]
theorem b_shl8 (x : Int32) {i : Nat} (hi : i < 32) : bt (x <<< ((8 : Int32) &&& 31)) i = (decide (8 ≤ i) && bt x (i - 8)) := b_shl 8 (by omega) x hi
theorem b_shl16 (x : Int32) {i : Nat} (hi : i < 32) : bt (x <<< ((16 : Int32) &&& 31)) i = (decide (16 ≤ i) && bt x (i - 16)) := b_shl 16 (by omega) x hi
theorem b_shl24 (x : Int32) {i : Nat} (hi : i < 32) : bt (x <<< ((24 : Int32) &&& 31)) i = (decide (24 ≤ i) && bt x (i - 24)) := b_shl 24 (by omega) x hi
theorem b_sshr8 (x : Int32) {i : Nat} (hi : i < 32) : bt (x >>> ((8 : Int32) &&& 31)) i = if 8 + i < 32 then bt x (8 + i) else bt x 31 := b_sshr 8 (by omega) x hi
/-! ===== lN n to 2^64: shifts, and, or, masks, one bit ===== -/
theorem wb_tb (n : Nat) : (lN n).toBitVec = BitVec.ofNat 64 n := rfl
theorem wb_inj {a b : Int64} (h : a.toBitVec = b.toBitVec) : a = b := Int64.toBitVec_inj.mp h
theorem wb_tn {n : Nat} (h : n < 2 ^ 64) : (lN n).toBitVec.toNat = n := by rw [wb_tb, BitVec.toNat_ofNat, Nat.mod_eq_of_lt h]
theorem wb_of (x : Int64) : ∃ n, n < 2 ^ 64 ∧ x = lN n := ⟨x.toBitVec.toNat, x.toBitVec.isLt, wb_inj (by rw [wb_tb]; simp)⟩
theorem wb_of32 (x : Int32) : ∃ n, n < 2 ^ 32 ∧ x = nI n := ⟨x.toBitVec.toNat, x.toBitVec.isLt, Int32.toBitVec_inj.mp (by show _ = BitVec.ofNat 32 _; simp)⟩
theorem wb_c : ∀ k, k < 64 → ((nI k).toInt64 &&& 63) = lN k := by decide +kernel
theorem wb_cu : ∀ k, k < 64 → ((nI k).toInt64.toUInt64 &&& Int64.toUInt64 63) = UInt64.ofNat k := by decide +kernel
theorem wb_sm : ∀ k, k < 64 → (BitVec.ofNat 64 k).smod 64 = BitVec.ofNat 64 k := by decide +kernel
theorem wb_pw {a b : Nat} (h : a ≤ b) : 2 ^ b = 2 ^ a * 2 ^ (b - a) := by rw [← Nat.pow_add]; congr 1; omega
theorem wb_lt2 {a b : Nat} (h : a < b) : 2 ^ a < 2 ^ b := Nat.pow_lt_pow_right (by decide) h
theorem wb_mod (n : Nat) : lN n = lN (n % 2 ^ 64) := wb_inj (by rw [wb_tb, wb_tb]; apply BitVec.eq_of_toNat_eq; rw [BitVec.toNat_ofNat, BitVec.toNat_ofNat, Nat.mod_mod])
theorem wb_shr {n k : Nat} (hn : n < 2 ^ 64) (hk : k < 64) : ((lN n).toUInt64 >>> ((nI k).toInt64.toUInt64 &&& Int64.toUInt64 63)).toInt64 = lN (n / 2 ^ k) := by
  rw [wb_cu k hk]
  apply wb_inj
  apply BitVec.eq_of_toNat_eq
  show ((lN n).toUInt64 >>> UInt64.ofNat k).toNat = (BitVec.ofNat 64 _).toNat
  have h1 : (UInt64.ofNat k).toNat = k := by
    show (BitVec.ofNat 64 k).toNat = k
    rw [BitVec.toNat_ofNat, Nat.mod_eq_of_lt (by omega)]
  have h2 : (lN n).toUInt64.toNat = n := wb_tn hn
  rw [UInt64.toNat_shiftRight, h1, h2, Nat.mod_eq_of_lt hk, Nat.shiftRight_eq_div_pow, BitVec.toNat_ofNat, Nat.mod_eq_of_lt (Nat.lt_of_le_of_lt (Nat.div_le_self _ _) hn)]
theorem wb_shl (n : Nat) {k : Nat} (hk : k < 64) : lN n <<< ((nI k).toInt64 &&& 63) = lN (n * 2 ^ k) := by
  rw [wb_c k hk]
  apply wb_inj
  rw [Int64.toBitVec_shiftLeft, wb_tb, wb_tb, wb_tb, wb_sm k hk]
  apply BitVec.eq_of_toNat_eq
  rw [BitVec.shiftLeft_eq', BitVec.toNat_shiftLeft, BitVec.toNat_ofNat, BitVec.toNat_ofNat, BitVec.toNat_ofNat, Nat.mod_eq_of_lt (show k < 2 ^ 64 by omega), Nat.shiftLeft_eq, Nat.mul_mod, Nat.mod_mod, ← Nat.mul_mod]
theorem wb_and {a b : Nat} (ha : a < 2 ^ 64) (hb : b < 2 ^ 64) : lN a &&& lN b = lN (a &&& b) := by
  apply wb_inj
  rw [Int64.toBitVec_and, wb_tb, wb_tb, wb_tb]
  apply BitVec.eq_of_toNat_eq
  rw [BitVec.toNat_and, BitVec.toNat_ofNat, BitVec.toNat_ofNat, BitVec.toNat_ofNat, Nat.mod_eq_of_lt ha, Nat.mod_eq_of_lt hb, Nat.mod_eq_of_lt (Nat.and_lt_two_pow _ hb)]
theorem wb_or {a b : Nat} (ha : a < 2 ^ 64) (hb : b < 2 ^ 64) : lN a ||| lN b = lN (a ||| b) := by
  apply wb_inj
  rw [Int64.toBitVec_or, wb_tb, wb_tb, wb_tb]
  apply BitVec.eq_of_toNat_eq
  rw [BitVec.toNat_or, BitVec.toNat_ofNat, BitVec.toNat_ofNat, BitVec.toNat_ofNat, Nat.mod_eq_of_lt ha, Nat.mod_eq_of_lt hb, Nat.mod_eq_of_lt (Nat.or_lt_two_pow ha hb)]
theorem wb_mask {n k : Nat} (hn : n < 2 ^ 64) (hk : k < 64) : lN n &&& lN (2 ^ k - 1) = lN (n % 2 ^ k) := by
  rw [wb_and hn (by have := wb_lt2 hk; omega), Nat.and_two_pow_sub_one_eq_mod]
theorem wb_a1 {n : Nat} (hn : n < 2 ^ 64) : lN n &&& 1 = lN (n % 2) := wb_mask (k := 1) hn (by decide)
theorem wb_bit {n k : Nat} (hn : n < 2 ^ 64) (hk : k < 64) : ((lN n).toUInt64 >>> ((nI k).toInt64.toUInt64 &&& Int64.toUInt64 63)).toInt64 &&& 1 = lN (n / 2 ^ k % 2) := by
  rw [wb_shr hn hk, wb_a1 (Nat.lt_of_le_of_lt (Nat.div_le_self _ _) hn)]
theorem wb_xor {q k : Nat} (hk : k < 63) (h : 2 ^ k ≤ q) (h2 : q < 2 ^ (k + 1)) : lN q ^^^ lN (2 ^ k) = lN (q - 2 ^ k) := by
  obtain ⟨r, rfl⟩ : ∃ r, q = 2 ^ k + r := ⟨q - 2 ^ k, by omega⟩
  have hr : r < 2 ^ k := by rw [Nat.pow_succ] at h2; omega
  have hx : (2 ^ k + r) ^^^ 2 ^ k = r := by
    apply Nat.eq_of_testBit_eq
    intro i
    rw [Nat.testBit_xor, Nat.testBit_two_pow]
    rcases Nat.lt_trichotomy i k with h | h | h
    · rw [Nat.testBit_two_pow_add_gt h]
      simp [show ¬ k = i by omega]
    · subst h
      rw [Nat.testBit_two_pow_add_eq]
      simp
    · have a1 : 2 ^ (k + 1) ≤ 2 ^ i := Nat.pow_le_pow_right (by decide) h
      rw [Nat.testBit_lt_two_pow (show 2 ^ k + r < 2 ^ i by omega), Nat.testBit_lt_two_pow (show r < 2 ^ i by omega)]
      simp [show ¬ k = i by omega]
  have b1 := wb_lt2 (show k + 1 < 64 by omega)
  have b2 := wb_lt2 (show k < 64 by omega)
  apply wb_inj
  rw [Int64.toBitVec_xor, wb_tb, wb_tb, wb_tb]
  apply BitVec.eq_of_toNat_eq
  rw [BitVec.toNat_xor, BitVec.toNat_ofNat, BitVec.toNat_ofNat, BitVec.toNat_ofNat, Nat.mod_eq_of_lt (by omega : 2 ^ k + r < 2 ^ 64), Nat.mod_eq_of_lt b2, hx, Nat.add_sub_cancel_left, Nat.mod_eq_of_lt (by omega)]
/-! Bits of the moves told, and rows of moves. -/
theorem bt_one : ∀ i, i < 32 → bt 1 i = decide (i = 0) := by decide
theorem and1_bt (y : Int32) : y &&& 1 = 1 ↔ bt y 0 = true := by
  constructor
  · intro h
    have := congrArg (fun z => bt z 0) h
    simp only [b_and, bt_one 0 (by decide)] at this
    simpa using this
  · intro h
    refine b_ext (fun i hi => ?_)
    rw [b_and, bt_one i hi]
    by_cases q : i = 0
    · subst q; rw [h]; rfl
    · rw [decide_eq_false q, Bool.and_false]
theorem kBit_bt (x : Int32) {j : Nat} (hj : j < 32) : kBit x (nI j) = if bt x j = true then 1 else 0 := by
  unfold kBit
  have e : bt (x >>> (nI j &&& 31)) 0 = bt x j := by rw [b_sshr j hj x (by decide), Nat.add_zero, if_pos hj]
  simp only [and1_bt, e]
/-- the bit T told up, the others as they were -/
theorem kBit_up (x : Int32) {T j : Nat} (hT : T < 32) (hj : j < 32) : kBit (x ||| ((1 : Int32) <<< (nI T &&& 31))) (nI j) = if j = T then 1 else kBit x (nI j) := by
  rw [kBit_bt _ hj, kBit_bt _ hj, b_or, b_shl T hT 1 hj]
  by_cases q : j = T
  · subst q
    rw [if_pos rfl, Nat.sub_self, bt_one 0 (by decide)]
    simp
  · rw [if_neg q]
    have : (decide (T ≤ j) && bt 1 (j - T)) = false := by
      by_cases r : T ≤ j
      · rw [bt_one (j - T) (by omega), decide_eq_false (show ¬ j - T = 0 by omega), Bool.and_false]
      · rw [decide_eq_false r, Bool.false_and]
    rw [this, Bool.or_false]
theorem kBit_dn (x : Int32) {T j : Nat} (hT : T < 32) (hj : j < 32) : kBit (x &&& (((1 : Int32) <<< (nI T &&& 31)) ^^^ (-1))) (nI j) = if j = T then 0 else kBit x (nI j) := by
  rw [kBit_bt _ hj, kBit_bt _ hj, b_and, b_xor, b_m1 j hj, b_shl T hT 1 hj]
  by_cases q : j = T
  · subst q
    rw [if_pos rfl, Nat.sub_self, bt_one 0 (by decide)]
    simp
  · rw [if_neg q]
    have : (decide (T ≤ j) && bt 1 (j - T)) = false := by
      by_cases r : T ≤ j
      · rw [bt_one (j - T) (by omega), decide_eq_false (show ¬ j - T = 0 by omega), Bool.and_false]
      · rw [decide_eq_false r, Bool.false_and]
    rw [this]
    simp
theorem row_shr {r i : Nat} (hr : r < 2 ^ 31) (hi : i < 32) : nI r >>> (nI i &&& 31) = nI (r / 2 ^ i) := pk_shrN hr _ i (s_l i hi)
theorem row_bit {r i : Nat} (hr : r < 2 ^ 31) (hi : i < 32) : (nI r >>> (nI i &&& 31)) &&& 1 = nI (r / 2 ^ i % 2) := by
  rw [row_shr hr hi, pk_andN (Nat.lt_of_le_of_lt (Nat.div_le_self _ _) (by omega)) 1 (by decide)]
theorem kBit_row {r i : Nat} (hr : r < 2 ^ 31) (hi : i < 32) : kBit (nI r) (nI i) = nI (r / 2 ^ i % 2) := by
  unfold kBit
  rw [row_bit hr hi]
  rcases mod2 (r / 2 ^ i) with q | q
  · rw [q]; rfl
  · rw [q]; rfl
theorem shl_1 {n : Nat} (hn : n < 31) : (1 : Int32) <<< (nI n &&& 31) = nI (2 ^ n) := by
  have h : 2 ^ n < 2 ^ 31 := Nat.pow_lt_pow_right (by decide) hn
  rw [n1, pk_shlN (nI n &&& 31) n (s_l n (by omega)) (by omega), Nat.one_mul]
/-! Rows by their bits from the front. -/
theorem div_pow (r i : Nat) : r / 2 ^ (i + 1) = r / 2 / 2 ^ i := by rw [Nat.pow_succ, Nat.mul_comm, Nat.div_div_eq_div_mul]
/-- a run of the moves μ that go on with the row r from T on -/
theorem sRun_row {N μ : Nat → Nat} {T r : Nat} : ∀ n, (∀ i, i < n → μ (T + i) = r / 2 ^ i % 2) → sRun N μ (T + n) = sRow N n (sRun N μ T) r := by
  have key : ∀ (n : Nat) (T r : Nat), (∀ i, i < n → μ (T + i) = r / 2 ^ i % 2) → sRun N μ (T + n) = sRow N n (sRun N μ T) r := by
    intro n
    induction n with
    | zero => intro T r _; rfl
    | succ n ih =>
      intro T r h
      have h0 : μ T = r % 2 := by have := h 0 (by omega); simpa using this
      have g := ih (T + 1) (r / 2) (fun i hi => by rw [show T + 1 + i = T + (i + 1) by omega, h (i + 1) (by omega), div_pow])
      rw [show T + (n + 1) = T + 1 + n by omega, g]
      show _ = (if (sRun N μ T) 5 = 0 then sRow N n (sMv N (sRun N μ T) (r % 2)) (r / 2) else sRun N μ T)
      by_cases q : (sRun N μ T) 5 = 0
      · rw [if_pos q, sRun_s q, h0]
      · rw [if_neg q, sRun_o q, sRow_over q]
  intro n h
  exact key n T r h
/-- the product of the first i weights of a row -/
def sRWp (N : Nat → Nat) (r : Nat) : Nat → Nat
  | 0 => 1
  | i + 1 => sRWp N r i * sW N (r / 2 ^ i % 2)
theorem sRWp_s {N : Nat → Nat} (r : Nat) : ∀ i, sRWp N r (i + 1) = sW N (r % 2) * sRWp N (r / 2) i := by
  intro i
  induction i with
  | zero =>
    show 1 * sW N (r / 2 ^ 0 % 2) = sW N (r % 2) * 1
    rw [Nat.pow_zero, Nat.div_one, Nat.one_mul, Nat.mul_one]
  | succ i ih =>
    show sRWp N r (i + 1) * sW N (r / 2 ^ (i + 1) % 2) = sW N (r % 2) * (sRWp N (r / 2) i * sW N (r / 2 / 2 ^ i % 2))
    rw [ih, div_pow, Nat.mul_assoc]
theorem sRWp_n {N : Nat → Nat} : ∀ n r, sRWp N r n = sRW N n r := by
  intro n
  induction n with
  | zero => intro r; rfl
  | succ n ih => intro r; rw [sRWp_s, ih]; rfl
/-- what the class adds for a row: rows alike behind the end are taken once -/
def sVp (N : Nat → Nat) : Nat → (Nat → Nat) → Nat → Nat → Nat → Nat
  | 0, σ, _, w, p0 => w * (σ 7 - p0)
  | n + 1, σ, r, w, p0 => if σ 5 = 0 then sVp N n (sMv N σ (r % 2)) (r / 2) (w * sW N (r % 2)) p0 else if r % 2 = 1 then 0 else sVp N n σ (r / 2) (w * 10) p0
theorem sVp_w {N : Nat → Nat} : ∀ n (σ : Nat → Nat) (r w p0 : Nat), sVp N n σ r w p0 = w * sVp N n σ r 1 p0 := by
  intro n
  induction n with
  | zero => intro σ r w p0; show w * (σ 7 - p0) = w * (1 * (σ 7 - p0)); rw [Nat.one_mul]
  | succ n ih =>
    intro σ r w p0
    show (if σ 5 = 0 then sVp N n (sMv N σ (r % 2)) (r / 2) (w * sW N (r % 2)) p0 else if r % 2 = 1 then 0 else sVp N n σ (r / 2) (w * 10) p0) = w * (if σ 5 = 0 then sVp N n (sMv N σ (r % 2)) (r / 2) (1 * sW N (r % 2)) p0 else if r % 2 = 1 then 0 else sVp N n σ (r / 2) (1 * 10) p0)
    split
    · rw [ih _ _ (w * _), ih _ _ (1 * _), Nat.one_mul, Nat.mul_assoc]
    · split
      · rfl
      · rw [ih _ _ (w * _), ih _ _ (1 * _), Nat.one_mul, Nat.mul_assoc]
theorem sSum_zero {f : Nat → Nat} : ∀ n, (∀ r, r < n → f r = 0) → sSum f n = 0 := by
  intro n
  induction n with
  | zero => intro _; rfl
  | succ n ih => intro h; show sSum f n + f n = 0; rw [ih (fun r hr => h r (by omega)), h n (by omega)]
/-- over all rows, the class's sum is 10 ^ n times what is paid, or the sum move by move -/
theorem sVp_sum {N : Nat → Nat} (hN : Nok N) : ∀ n (σ : Nat → Nat) (p0 : Nat), p0 ≤ σ 7 → sSum (fun r => sVp N n σ r 1 p0) (2 ^ n) = 10 ^ n * (σ 7 - p0) + (if σ 5 = 0 then sPhi N cPay n σ else 0) := by
  intro n
  induction n with
  | zero =>
    intro σ p0 _
    show 0 + 1 * (σ 7 - p0) = 1 * (σ 7 - p0) + (if σ 5 = 0 then 0 else 0)
    rw [Nat.zero_add, ite_self, Nat.add_zero]
  | succ n ih =>
    intro σ p0 hp
    rw [Nat.pow_succ, Nat.mul_comm (2 ^ n), sSum_two]
    by_cases q : σ 5 = 0
    · have key : ∀ up, sSum (fun r => sW N up * sVp N n (sMv N σ up) r 1 p0) (2 ^ n) = sW N up * (10 ^ n * (σ 7 - p0)) + sW N up * (10 ^ n * cPay (sMv N σ up) + (if (sMv N σ up) 5 = 0 then sPhi N cPay n (sMv N σ up) else 0)) := by
        intro up
        have e7 : (sMv N σ up) 7 = σ 7 + cPay (sMv N σ up) := rfl
        rw [sSum_mul, ih _ p0 (by rw [e7]; omega), ← Nat.mul_add, ← Nat.add_assoc, ← Nat.mul_add, e7, show σ 7 + cPay (sMv N σ up) - p0 = σ 7 - p0 + cPay (sMv N σ up) by omega]
      have e0 : sSum (fun r => sVp N (n + 1) σ (2 * r) 1 p0) (2 ^ n) = sSum (fun r => sW N 0 * sVp N n (sMv N σ 0) r 1 p0) (2 ^ n) := by
        refine sSum_congr _ (fun r _ => ?_)
        show (if σ 5 = 0 then sVp N n (sMv N σ (2 * r % 2)) (2 * r / 2) (1 * sW N (2 * r % 2)) p0 else _) = _
        rw [if_pos q, two_mod0, two_div0, sVp_w, Nat.one_mul]
      have e1 : sSum (fun r => sVp N (n + 1) σ (2 * r + 1) 1 p0) (2 ^ n) = sSum (fun r => sW N 1 * sVp N n (sMv N σ 1) r 1 p0) (2 ^ n) := by
        refine sSum_congr _ (fun r _ => ?_)
        show (if σ 5 = 0 then sVp N n (sMv N σ ((2 * r + 1) % 2)) ((2 * r + 1) / 2) (1 * sW N ((2 * r + 1) % 2)) p0 else _) = _
        rw [if_pos q, two_mod1, two_div1, sVp_w, Nat.one_mul]
      have e10 : 10 ^ (n + 1) * (σ 7 - p0) = sW N 0 * (10 ^ n * (σ 7 - p0)) + sW N 1 * (10 ^ n * (σ 7 - p0)) := by
        rw [← Nat.add_mul, sW_10 hN, Nat.pow_succ, Nat.mul_comm (10 ^ n) 10, Nat.mul_assoc]
      rw [e0, e1, key 0, key 1, e10, if_pos q]
      show _ = _ + (sW N 1 * (10 ^ n * cPay (sMv N σ 1) + (if (sMv N σ 1) 5 = 0 then sPhi N cPay n (sMv N σ 1) else 0)) + sW N 0 * (10 ^ n * cPay (sMv N σ 0) + (if (sMv N σ 0) 5 = 0 then sPhi N cPay n (sMv N σ 0) else 0)))
      omega
    · have e0 : sSum (fun r => sVp N (n + 1) σ (2 * r) 1 p0) (2 ^ n) = sSum (fun r => 10 * sVp N n σ r 1 p0) (2 ^ n) := by
        refine sSum_congr _ (fun r _ => ?_)
        show (if σ 5 = 0 then _ else if 2 * r % 2 = 1 then 0 else sVp N n σ (2 * r / 2) (1 * 10) p0) = _
        rw [if_neg q, two_mod0, two_div0, if_neg (by decide), sVp_w, Nat.one_mul]
      have e1 : sSum (fun r => sVp N (n + 1) σ (2 * r + 1) 1 p0) (2 ^ n) = 0 := by
        refine sSum_zero _ (fun r _ => ?_)
        show (if σ 5 = 0 then _ else if (2 * r + 1) % 2 = 1 then 0 else _) = 0
        rw [if_neg q, two_mod1, if_pos rfl]
      rw [e0, e1, sSum_mul, ih σ p0 hp, if_neg q, if_neg q, Nat.add_zero, Nat.add_zero, Nat.add_zero, Nat.pow_succ, Nat.mul_comm (10 ^ n) 10, Nat.mul_assoc]
