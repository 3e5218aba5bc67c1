/-! bitCount of a long and of an int, numberOfTrailingZeros -/
theorem ush_lN {n k : Nat} (hn : n < 2 ^ 64) (hk : k < 64) : ushL (lN n) (nI k) = lN (n / 2 ^ k) := by
  apply bw_ext
  intro t ht
  rw [bw_ush _ _ hk, bw_lN _ ht, Nat.testBit_div_two_pow]
  by_cases h : k + t < 64
  · rw [bw_lN _ h, Nat.add_comm]
  · rw [bw_big (by omega), Nat.testBit_lt_two_pow]
    exact Nat.lt_of_lt_of_le hn (Nat.pow_le_pow_right (by decide) (by omega))
theorem ush_nI {n k : Nat} (hn : n < 2 ^ 32) (hk : k < 32) : ushI (nI n) (nI k) = nI (n / 2 ^ k) := by
  have h : ∀ k, k < 32 → (((nI k).toUInt32 &&& Int32.toUInt32 31).toBitVec % 32).toNat = k := by decide +kernel
  exact pk_ushrN hn (nI k) k (h k hk)
theorem nI_and (a b : Nat) : nI a &&& nI b = nI (a &&& b) := by
  apply Int32.toBitVec_inj.mp
  rw [Int32.toBitVec_and]
  show BitVec.ofNat 32 a &&& BitVec.ofNat 32 b = BitVec.ofNat 32 (a &&& b)
  apply BitVec.eq_of_getLsbD_eq
  intro i hi
  simp [BitVec.getLsbD_and, BitVec.getLsbD_ofNat, Nat.testBit_and, hi]
theorem nI_or (a b : Nat) : nI a ||| nI b = nI (a ||| b) := by
  apply Int32.toBitVec_inj.mp
  rw [Int32.toBitVec_or]
  show BitVec.ofNat 32 a ||| BitVec.ofNat 32 b = BitVec.ofNat 32 (a ||| b)
  apply BitVec.eq_of_getLsbD_eq
  intro i hi
  simp [BitVec.getLsbD_or, BitVec.getLsbD_ofNat, Nat.testBit_or, hi]
theorem sw_k1 : (6148914691236517205 : Int64) = lN (mkd 1 32) := by decide +kernel
theorem sw_k2 : (3689348814741910323 : Int64) = lN (mkd 2 16) := by decide +kernel
theorem sw_k3 : (1085102592571150095 : Int64) = lN (mkd 4 8) := by decide +kernel
theorem sw_i1 : (1431655765 : Int32) = nI (mkd 1 16) := by decide +kernel
theorem sw_i2 : (858993459 : Int32) = nI (mkd 2 8) := by decide +kernel
theorem sw_i3 : (252645135 : Int32) = nI (mkd 4 4) := by decide +kernel
theorem sw_sub (n m : Nat) : (n / 2) &&& m ≤ n := Nat.le_trans Nat.and_le_left (Nat.div_le_self _ _)
theorem and_le_l (a b : Nat) : a &&& b ≤ a := Nat.and_le_left
theorem fold8 {c : Nat → Nat} (h : ∀ k, c k ≤ 8) {a b d e : Nat} (ha : a = dgs 8 c 8) (hb : b = a + a / 256) (hd : d = b + b / 65536) (he : e = d + d / 4294967296) : e % 128 = fb_sm c 8 ∧ a < 2 ^ 62 ∧ b < 2 ^ 63 ∧ d < 2 ^ 64 := by
  simp only [dgs, fb_sm, Nat.reduceMul, Nat.reducePow, Nat.zero_add, Nat.mul_zero, Nat.pow_zero, Nat.one_mul, Nat.mul_one] at ha ⊢
  have h0 := h 0
  have h1 := h 1
  have h2 := h 2
  have h3 := h 3
  have h4 := h 4
  have h5 := h 5
  have h6 := h 6
  have h7 := h 7
  generalize c 0 = c0 at *
  generalize c 1 = c1 at *
  generalize c 2 = c2 at *
  generalize c 3 = c3 at *
  generalize c 4 = c4 at *
  generalize c 5 = c5 at *
  generalize c 6 = c6 at *
  generalize c 7 = c7 at *
  clear h
  have hb2 : b = (c0 + c1) + 256 * (c1 + c2) + 65536 * (c2 + c3) + 16777216 * (c3 + c4) + 4294967296 * (c4 + c5) + 1099511627776 * (c5 + c6) + 281474976710656 * (c6 + c7) + 72057594037927936 * c7 := by omega
  have hd2 : d = (c0 + c1 + c2 + c3) + 256 * (c1 + c2 + c3 + c4) + 65536 * (c2 + c3 + c4 + c5) + 16777216 * (c3 + c4 + c5 + c6) + 4294967296 * (c4 + c5 + c6 + c7) + 1099511627776 * (c5 + c6 + c7) + 281474976710656 * (c6 + c7) + 72057594037927936 * c7 := by omega
  refine ⟨?_, by omega, by omega, by omega⟩
  clear hb hb2 ha hd
  have hq : d / 4294967296 = (c4 + c5 + c6 + c7) + 256 * (c5 + c6 + c7) + 65536 * (c6 + c7) + 16777216 * c7 := by omega
  omega
theorem fold4 {c : Nat → Nat} (h : ∀ k, c k ≤ 8) {a b d : Nat} (ha : a = dgs 8 c 4) (hb : b = a + a / 256) (hd : d = b + b / 65536) : d % 64 = fb_sm c 4 ∧ a < 2 ^ 30 ∧ b < 2 ^ 31 := by
  simp only [dgs, fb_sm, Nat.reduceMul, Nat.reducePow, Nat.zero_add, Nat.mul_zero, Nat.pow_zero, Nat.one_mul, Nat.mul_one] at ha ⊢
  have h0 := h 0
  have h1 := h 1
  have h2 := h 2
  have h3 := h 3
  generalize c 0 = c0 at *
  generalize c 1 = c1 at *
  generalize c 2 = c2 at *
  generalize c 3 = c3 at *
  clear h
  have hb2 : b = (c0 + c1) + 256 * (c1 + c2) + 65536 * (c2 + c3) + 16777216 * c3 := by omega
  refine ⟨?_, by omega, by omega⟩
  have hq : b / 65536 = (c2 + c3) + 256 * c3 := by omega
  rw [hq, hb2] at hd
  omega
theorem s_bcL {I : TI} {L : TL} {Q : Int32 → Prop} {w : Int64} (k : Q (nI (pc w))) : W_J13_bitCount_95d88 w I L Q := by
  obtain ⟨n, hn, rfl⟩ := bw_wb_of w
  obtain ⟨c, hc, hs, ht⟩ := sw_ok (J := 8) (n := n) hn
  unfold W_J13_bitCount_95d88
  intro x1 h1 x2 h2 x3 h3 x4 h4 x5 h5 x6 h6
  rw [show (1 : Int32) = nI 1 from rfl, ush_lN hn (by decide), sw_k1, fb_andL, lN_sub (sw_sub _ _)] at h1
  subst h1
  have l1 : n - (n / 2 ^ 1 &&& mkd 1 32) < 2 ^ 64 := Nat.lt_of_le_of_lt (Nat.sub_le _ _) hn
  rw [show (2 : Int32) = nI 2 from rfl, ush_lN l1 (by decide), sw_k2, fb_andL, fb_andL, lN_add] at h2
  subst h2
  have lm : mkd 2 16 < 2 ^ 62 := by decide +kernel
  have l2 : ((n - (n / 2 ^ 1 &&& mkd 1 32)) &&& mkd 2 16) + ((n - (n / 2 ^ 1 &&& mkd 1 32)) / 2 ^ 2 &&& mkd 2 16) < 2 ^ 64 := by
    have a1 : ((n - (n / 2 ^ 1 &&& mkd 1 32)) &&& mkd 2 16) ≤ mkd 2 16 := Nat.and_le_right
    have a2 : ((n - (n / 2 ^ 1 &&& mkd 1 32)) / 2 ^ 2 &&& mkd 2 16) ≤ mkd 2 16 := Nat.and_le_right
    omega
  rw [show (4 : Int32) = nI 4 from rfl, ush_lN l2 (by decide), sw_k3, lN_add, fb_andL] at h3
  have e3 : x3 = lN (dgs 8 c 8) := by
    rw [h3, ← hs]
    rfl
  subst e3
  obtain ⟨f1, f2, f3, f4⟩ := fold8 hc rfl rfl rfl rfl
  rw [show (8 : Int32) = nI 8 from rfl, ush_lN (by omega) (by decide), lN_add] at h4
  subst h4
  rw [show (16 : Int32) = nI 16 from rfl, ush_lN (by exact Nat.lt_trans f3 (by decide)) (by decide), lN_add] at h5
  subst h5
  rw [show (32 : Int32) = nI 32 from rfl, ush_lN (by exact f4) (by decide), lN_add] at h6
  subst h6
  rw [lN_i, show (127 : Int32) = nI (2 ^ 7 - 1) from rfl, nI_and, Nat.and_two_pow_sub_one_eq_mod]
  have e : (dgs 8 c 8 + dgs 8 c 8 / 2 ^ 8 + (dgs 8 c 8 + dgs 8 c 8 / 2 ^ 8) / 2 ^ 16 + (dgs 8 c 8 + dgs 8 c 8 / 2 ^ 8 + (dgs 8 c 8 + dgs 8 c 8 / 2 ^ 8) / 2 ^ 16) / 2 ^ 32) % 2 ^ 7 = pc (lN n) := by
    rw [pc_lN]
    unfold pcn
    rw [← ht]
    exact f1
  rw [e]
  exact k
theorem s_bcI {I : TI} {L : TL} {Q : Int32 → Prop} {n : Nat} {x : Int32} (hx : x = nI n) (hn : n < 2 ^ 32) (k : Q (nI (fb_ct n.testBit 32))) : W_J6_bitCount_0f7a4 x I L Q := by
  subst hx
  obtain ⟨c, hc, hs, ht⟩ := sw_ok (J := 4) (n := n) hn
  unfold W_J6_bitCount_0f7a4
  intro x1 h1 x2 h2 x3 h3 x4 h4 x5 h5
  rw [show (1 : Int32) = nI 1 from rfl, ush_nI hn (by decide), sw_i1, nI_and, pk_sub (sw_sub _ _)] at h1
  subst h1
  have l1 : n - (n / 2 ^ 1 &&& mkd 1 16) < 2 ^ 32 := Nat.lt_of_le_of_lt (Nat.sub_le _ _) hn
  rw [show (2 : Int32) = nI 2 from rfl, ush_nI l1 (by decide), sw_i2, nI_and, nI_and, nI_add] at h2
  subst h2
  have lm : mkd 2 8 < 2 ^ 30 := by decide +kernel
  have l2 : ((n - (n / 2 ^ 1 &&& mkd 1 16)) &&& mkd 2 8) + ((n - (n / 2 ^ 1 &&& mkd 1 16)) / 2 ^ 2 &&& mkd 2 8) < 2 ^ 32 := by
    have a1 : ((n - (n / 2 ^ 1 &&& mkd 1 16)) &&& mkd 2 8) ≤ mkd 2 8 := Nat.and_le_right
    have a2 : ((n - (n / 2 ^ 1 &&& mkd 1 16)) / 2 ^ 2 &&& mkd 2 8) ≤ mkd 2 8 := Nat.and_le_right
    omega
  rw [show (4 : Int32) = nI 4 from rfl, ush_nI l2 (by decide), sw_i3, nI_add, nI_and] at h3
  have e3 : x3 = nI (dgs 8 c 4) := by
    rw [h3, ← hs]
    rfl
  subst e3
  obtain ⟨f1, f2, f3⟩ := fold4 hc rfl rfl rfl
  rw [show (8 : Int32) = nI 8 from rfl, ush_nI (by omega) (by decide), nI_add] at h4
  subst h4
  rw [show (16 : Int32) = nI 16 from rfl, ush_nI (by exact Nat.lt_trans f3 (by decide)) (by decide), nI_add] at h5
  subst h5
  rw [show (63 : Int32) = nI (2 ^ 6 - 1) from rfl, nI_and, Nat.and_two_pow_sub_one_eq_mod]
  have e : (dgs 8 c 4 + dgs 8 c 4 / 2 ^ 8 + (dgs 8 c 4 + dgs 8 c 4 / 2 ^ 8) / 2 ^ 16) % 2 ^ 6 = fb_ct n.testBit 32 := by
    rw [← ht]
    exact f1
  rw [e]
  exact k
def nt4 (v0 v1 : Int32) : Int32 := v1 + ushI v0 1
def nt3 (v0 v1 : Int32) : Int32 := if v0 ≤ 4 then nt4 v0 v1 else nt4 (ushI v0 2) (v1 + 2)
def nt2 (v0 v1 : Int32) : Int32 := if v0 ≤ 16 then nt3 v0 v1 else nt3 (ushI v0 4) (v1 + 4)
def nt1 (v0 v1 : Int32) : Int32 := if v0 ≤ 256 then nt2 v0 v1 else nt2 (ushI v0 8) (v1 + 8)
def nt0 (x : Int32) : Int32 := if 0 < x then (if x ≤ 65536 then nt1 x 1 else nt1 (ushI x 16) (1 + 16)) else x &&& 32
theorem nt_all : ∀ j, j < 32 → nt0 (nI (2 ^ j - 1)) = nI j := by decide +kernel
theorem low_mask {n j : Nat} (hn : n < 2 ^ 32) (h1 : n.testBit j = true) (h2 : ∀ i, i < j → n.testBit i = false) : (nI n ^^^ (-1)) &&& (nI n - 1) = nI (2 ^ j - 1) := by
  have h0 : n ≠ 0 := by rintro rfl; simp at h1
  rw [show (-1 : Int32) = nI (2 ^ 32 - 1) by decide +kernel, show (1 : Int32) = nI 1 from rfl, pk_sub (by omega)]
  apply Int32.toBitVec_inj.mp
  rw [Int32.toBitVec_and, Int32.toBitVec_xor]
  show (BitVec.ofNat 32 n ^^^ BitVec.ofNat 32 (2 ^ 32 - 1)) &&& BitVec.ofNat 32 (n - 1) = BitVec.ofNat 32 (2 ^ j - 1)
  apply BitVec.eq_of_getLsbD_eq
  intro i hi
  rw [BitVec.getLsbD_and, BitVec.getLsbD_xor, BitVec.getLsbD_ofNat, BitVec.getLsbD_ofNat, BitVec.getLsbD_ofNat, BitVec.getLsbD_ofNat, low_pred h1 h2, Nat.testBit_two_pow_sub_one, Nat.testBit_two_pow_sub_one]
  by_cases a : i < j
  · simp [hi, a, h2 i a]
  · by_cases b : i = j
    · subst b
      simp
    · simp [hi, a, b]
theorem lN_i0 {n : Nat} : (lN n).toInt32 = nI (n % 2 ^ 32) := by
  rw [lN_i]
  apply Int32.toBitVec_inj.mp
  show BitVec.ofNat 32 n = BitVec.ofNat 32 (n % 2 ^ 32)
  apply BitVec.eq_of_toNat_eq
  simp
theorem nI_z {n : Nat} (h : n < 2 ^ 32) : nI n = 0 ↔ n = 0 := by
  constructor
  · intro e
    have h2 : (nI n).toBitVec.toNat = (0 : Int32).toBitVec.toNat := by rw [e]
    rw [pk_tn h] at h2
    exact h2
  · rintro rfl
    rfl