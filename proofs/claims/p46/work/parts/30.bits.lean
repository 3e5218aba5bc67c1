/-! BITS OF LONGS: bw w t; windows; what the two classes read off a wave -/
def bw (w : Int64) (t : Nat) : Bool := w.toBitVec.getLsbD t
def bi (b : Bool) : Int32 := if b = true then 1 else 0
theorem bw_ext {x y : Int64} (h : ∀ t, t < 64 → bw x t = bw y t) : x = y := Int64.toBitVec_inj.mp (BitVec.eq_of_getLsbD_eq (fun i hi => h i hi))
theorem bw_or (x y : Int64) (i : Nat) : bw (x ||| y) i = (bw x i || bw y i) := by unfold bw; rw [Int64.toBitVec_or, BitVec.getLsbD_or]
theorem bw_and (x y : Int64) (i : Nat) : bw (x &&& y) i = (bw x i && bw y i) := by unfold bw; rw [Int64.toBitVec_and, BitVec.getLsbD_and]
theorem bw_xor (x y : Int64) (i : Nat) : bw (x ^^^ y) i = (bw x i ^^ bw y i) := by unfold bw; rw [Int64.toBitVec_xor, BitVec.getLsbD_xor]
theorem bw_big {x : Int64} {i : Nat} (h : 64 ≤ i) : bw x i = false := BitVec.getLsbD_of_ge _ _ h
theorem bw_m1 : ∀ i, i < 64 → bw (-1) i = true := by decide +kernel
theorem bw_not (x : Int64) {i : Nat} (h : i < 64) : bw (x ^^^ (-1)) i = !bw x i := by rw [bw_xor, bw_m1 i h, Bool.xor_true]
theorem bw_0 (i : Nat) : bw 0 i = false := BitVec.getLsbD_zero
theorem bw_lN (n : Nat) {i : Nat} (h : i < 64) : bw (lN n) i = n.testBit i := by
  show (BitVec.ofNat 64 n).getLsbD i = _
  rw [BitVec.getLsbD_ofNat]
  simp [h]
theorem bw_wb_of (x : Int64) : ∃ n, n < 2 ^ 64 ∧ x = lN n := ⟨x.toBitVec.toNat, x.toBitVec.isLt, Int64.toBitVec_inj.mp (by show _ = BitVec.ofNat 64 _; simp)⟩
theorem bw_c : ∀ k, k < 64 → ((nI k).toInt64 &&& 63) = lN k := by decide +kernel
theorem bw_cu : ∀ k, k < 64 → ((nI k).toInt64.toUInt64 &&& Int64.toUInt64 63) = UInt64.ofNat k := by decide +kernel
theorem bw_sm : ∀ k, k < 64 → (BitVec.ofNat 64 k).smod 64 = BitVec.ofNat 64 k := by decide +kernel
theorem bw_shl (x : Int64) {k i : Nat} (hk : k < 64) (hi : i < 64) : bw (shlL x (nI k)) i = (decide (k ≤ i) && bw x (i - k)) := by
  unfold shlL
  rw [bw_c k hk]
  unfold bw
  rw [Int64.toBitVec_shiftLeft]
  show (x.toBitVec <<< (BitVec.ofNat 64 k).smod 64).getLsbD i = _
  rw [bw_sm k hk, BitVec.shiftLeft_eq', BitVec.getLsbD_shiftLeft, BitVec.toNat_ofNat, Nat.mod_eq_of_lt (by omega)]
  by_cases h : k ≤ i
  · simp [hi, h]
  · simp [h, Nat.lt_of_not_le h]
theorem bw_ush (x : Int64) {k : Nat} (i : Nat) (hk : k < 64) : bw (ushL x (nI k)) i = bw x (k + i) := by
  unfold ushL
  rw [bw_cu k hk]
  unfold bw
  show (x.toUInt64 >>> UInt64.ofNat k).toBitVec.getLsbD i = _
  rw [UInt64.toBitVec_shiftRight]
  show (x.toBitVec >>> ((BitVec.ofNat 64 k) % 64)).getLsbD i = _
  rw [BitVec.ushiftRight_eq', BitVec.getLsbD_ushiftRight]
  congr 2
  rw [BitVec.toNat_umod, BitVec.toNat_ofNat]
  show k % 2 ^ 64 % 64 = k
  omega
theorem bw_shr (x : Int64) {k i : Nat} (hk : k < 64) (hi : i < 64) : bw (shrL x (nI k)) i = if k + i < 64 then bw x (k + i) else bw x 63 := by
  unfold shrL
  rw [bw_c k hk]
  unfold bw
  rw [Int64.toBitVec_shiftRight]
  show (x.toBitVec.sshiftRight' ((BitVec.ofNat 64 k).smod 64)).getLsbD i = _
  rw [bw_sm k hk, BitVec.sshiftRight', BitVec.getLsbD_sshiftRight, BitVec.toNat_ofNat, Nat.mod_eq_of_lt (show k < 2 ^ 64 by omega)]
  have h1 : ¬ 64 ≤ i := by omega
  simp only [h1, decide_false, Bool.not_false, Bool.true_and]
  split
  · rfl
  · rw [BitVec.msb_eq_getLsbD_last]
theorem bw_a1 (x : Int64) : x &&& 1 = if bw x 0 = true then 1 else 0 := by
  apply bw_ext
  intro t ht
  rw [bw_and]
  have h1 : bw 1 t = decide (t = 0) := by
    rw [show (1 : Int64) = lN 1 from rfl, bw_lN 1 ht]
    cases t with
    | zero => rfl
    | succ n => simp [Nat.testBit_succ]
  rw [h1]
  by_cases h0 : t = 0
  · subst h0
    cases bw x 0 <;> decide
  · cases bw x 0 <;> simp [h0, bw_0, h1]
theorem bi_u (w : Int64) {t : Nat} (ht : t < 64) : (ushL w (nI t) &&& 1).toInt32 = bi (bw w t) := by
  rw [bw_a1, bw_ush w 0 ht, Nat.add_zero]
  cases bw w t <;> rfl
theorem bi_s (w : Int64) {t : Nat} (ht : t < 64) : (shrL w (nI t) &&& 1).toInt32 = bi (bw w t) := by
  rw [bw_a1, bw_shr w ht (by decide), Nat.add_zero, if_pos ht]
  cases bw w t <;> rfl
theorem bi_inj {a b : Bool} : bi a = bi b ↔ a = b := by cases a <;> cases b <;> decide
theorem bi_1 {a : Bool} : bi a = 1 ↔ a = true := by cases a <;> decide
theorem bi_0 {a : Bool} : bi a = 0 ↔ a = false := by cases a <;> decide
theorem bi_01 (a : Bool) : bi a = 0 ∨ bi a = 1 := by cases a <;> decide
theorem bi_nI (a : Bool) : bi a = nI (if a = true then 1 else 0) := by cases a <;> rfl
theorem bi_l (a : Bool) : (bi a).toInt64 = if a = true then 1 else 0 := by cases a <;> rfl
/-- the times from a to b -/
def win (a b : Nat) : Int64 := lN (2 ^ (b + 1) - 2 ^ a)
theorem win_tb {a b t : Nat} (h : a ≤ b + 1) : (2 ^ (b + 1) - 2 ^ a).testBit t = decide (a ≤ t ∧ t ≤ b) := by
  have e : 2 ^ (b + 1) - 2 ^ a = 2 ^ a * (2 ^ (b + 1 - a) - 1) := by
    rw [Nat.mul_sub, Nat.mul_one, ← Nat.pow_add]
    congr 2
    omega
  rw [e, Nat.testBit_two_pow_mul, Nat.testBit_two_pow_sub_one]
  by_cases h1 : a ≤ t
  · simp only [h1, true_and, decide_true, Bool.true_and]
    congr 1
    apply propext
    omega
  · simp [h1]
theorem bw_win {a b t : Nat} (h : a ≤ b + 1) (ht : t < 64) : bw (win a b) t = decide (a ≤ t ∧ t ≤ b) := by
  unfold win
  rw [bw_lN _ ht, win_tb h]
theorem win_0 (a : Nat) : win (a + 1) a = 0 := by
  unfold win
  rw [Nat.sub_self]
  rfl
theorem win_s {a k : Nat} (h : a ≤ k) (hk : k < 63) : win a k = (if a = k then 0 else win a (k - 1)) ||| shlL 1 (nI k) := by
  apply bw_ext
  intro t ht
  have h1 : bw (shlL 1 (nI k)) t = decide (t = k) := by
    rw [bw_shl 1 (by omega) ht, show (1 : Int64) = lN 1 from rfl]
    by_cases h2 : k ≤ t
    · rw [bw_lN 1 (by omega)]
      by_cases h3 : t = k
      · subst h3; simp
      · have : t - k = (t - k - 1) + 1 := by omega
        rw [this, Nat.testBit_succ]
        simp [h3]
    · have : t ≠ k := by omega
      simp [h2, this]
  rw [bw_or, h1, bw_win (by omega) ht]
  split
  · rename_i e
    subst e
    rw [bw_0]
    simp only [Bool.false_or]
    congr 1
    apply propext
    omega
  · rw [bw_win (by omega) ht, ← Bool.decide_or]
    congr 1
    apply propext
    omega
theorem shl_lN (n : Nat) {k : Nat} (hk : k < 64) : shlL (lN n) (nI k) = lN (n * 2 ^ k) := by
  apply bw_ext
  intro t ht
  rw [bw_shl _ hk ht, bw_lN _ ht, Nat.mul_comm, Nat.testBit_two_pow_mul]
  by_cases h : k ≤ t
  · rw [bw_lN _ (by omega)]
  · simp [h]
theorem win_cls {a b : Nat} (h : a ≤ b + 1) (hb : b < 63) : shlL 2 (nI b) - shlL 1 (nI a) = win a b := by
  rw [show (2 : Int64) = lN 2 from rfl, show (1 : Int64) = lN 1 from rfl, shl_lN 2 (by omega), shl_lN 1 (by omega), Nat.one_mul, lN_sub]
  · unfold win
    congr 2
    rw [Nat.pow_succ, Nat.mul_comm]
  · rw [← Nat.pow_succ']
    exact Nat.pow_le_pow_right (by decide) h
theorem s_window {I : TI} {L : TL} {Q : Int64 → Prop} {a b : Nat} {x y : Int32} (hx : x = nI a) (hy : y = nI b) (h : a ≤ b + 1) (hb : b < 63) (k : Q (win a b)) : W_X8_window x y I L Q := by
  subst hx; subst hy
  unfold W_X8_window
  rw [win_cls h hb]
  exact k
theorem s_bitOf {I : TI} {L : TL} {Q : Int32 → Prop} {w : Int64} {t : Nat} {x : Int32} (hx : x = nI t) (ht : t < 64) (k : Q (bi (bw w t))) : W_X8_bitOf w x I L Q := by
  subst hx
  unfold W_X8_bitOf
  rw [bi_u w ht]
  exact k