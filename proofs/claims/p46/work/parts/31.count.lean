/-! HOW MANY BITS: the loop of the reference, bitCount, numberOfTrailingZeros -/
def pcn (n : Nat) : Nat := fb_ct n.testBit 64
def pc (w : Int64) : Nat := fb_ct (bw w) 64
theorem pc_lN (n : Nat) : pc (lN n) = pcn n := fb_ct_cong (fun k hk => bw_lN n hk)
theorem pc_le (w : Int64) : pc w ≤ 64 := fb_ct_le _ _
theorem pc_cong {x y : Int64} (h : ∀ t, t < 64 → bw x t = bw y t) : pc x = pc y := fb_ct_cong h
theorem pc_0 : pc 0 = 0 := fb_ct_zero.mpr (fun k _ => bw_0 k)
theorem pc_z {w : Int64} : pc w = 0 ↔ w = 0 := by
  constructor
  · intro h
    apply bw_ext
    intro t ht
    rw [bw_0]
    exact fb_ct_zero.mp h t ht
  · rintro rfl
    exact pc_0
/-- the lowest bit -/
theorem low_bit {n : Nat} (h : n ≠ 0) : ∃ j, n.testBit j = true ∧ ∀ i, i < j → n.testBit i = false := by
  obtain ⟨j, hj⟩ := Nat.exists_testBit_of_ne_zero h
  obtain ⟨i, h1, h2, h3⟩ := fb_first (p := fun i => n.testBit i = true) ⟨j, Nat.lt_succ_self j, hj⟩
  exact ⟨i, h2, fun k hk => by simpa using h3 k hk⟩
theorem low_form {n j : Nat} (h1 : n.testBit j = true) (h2 : ∀ i, i < j → n.testBit i = false) : ∃ m, n = 2 ^ j * (2 * m + 1) := by
  have hz : n % 2 ^ j = 0 := by
    apply Nat.eq_of_testBit_eq
    intro i
    rw [Nat.testBit_mod_two_pow, Nat.zero_testBit]
    by_cases hi : i < j
    · simp [h2 i hi]
    · simp [hi]
  have hd : n = 2 ^ j * (n / 2 ^ j) := by
    have := Nat.div_add_mod n (2 ^ j)
    omega
  have ho : (n / 2 ^ j) % 2 = 1 := by
    have := Nat.testBit_eq_decide_div_mod_eq (x := n) (i := j)
    rw [h1] at this
    simpa using this.symm
  refine ⟨n / 2 ^ j / 2, ?_⟩
  rw [show 2 * (n / 2 ^ j / 2) + 1 = n / 2 ^ j by omega]
  exact hd
theorem low_pred {n j i : Nat} (h1 : n.testBit j = true) (h2 : ∀ i, i < j → n.testBit i = false) : (n - 1).testBit i = if i < j then true else if i = j then false else n.testBit i := by
  obtain ⟨m, rfl⟩ := low_form h1 h2
  have hp : 0 < 2 ^ j := Nat.two_pow_pos j
  have e : 2 ^ j * (2 * m + 1) - 1 = 2 ^ j * (2 * m) + (2 ^ j - 1) := by
    rw [Nat.mul_add, Nat.mul_one]
    omega
  rw [e, Nat.testBit_two_pow_mul_add _ (by omega)]
  by_cases hi : i < j
  · simp [hi, Nat.testBit_two_pow_sub_one]
  · rw [if_neg hi, if_neg hi]
    by_cases h3 : i = j
    · subst h3
      simp
    · rw [if_neg h3, Nat.testBit_two_pow_mul]
      obtain ⟨k, hk⟩ : ∃ k, i - j = k + 1 := ⟨i - j - 1, by omega⟩
      have hge : i ≥ j := by omega
      rw [hk, Nat.testBit_succ, Nat.testBit_succ]
      simp only [hge, decide_true, Bool.true_and]
      congr 1
      omega
theorem pc_kern {w : Int64} (h : w ≠ 0) : pc (w &&& (w - 1)) + 1 = pc w := by
  obtain ⟨n, hn, rfl⟩ := bw_wb_of w
  have hn0 : n ≠ 0 := by rintro rfl; exact h rfl
  obtain ⟨j, h1, h2⟩ := low_bit hn0
  have hj : j < 64 := by
    rcases Nat.lt_or_ge j 64 with q | q
    · exact q
    · have : n.testBit j = false := Nat.testBit_lt_two_pow (Nat.lt_of_lt_of_le hn (Nat.pow_le_pow_right (by decide) q))
      rw [this] at h1
      cases h1
  rw [show (1 : Int64) = lN 1 from rfl, lN_sub (by omega), fb_andL, pc_lN, pc_lN]
  unfold pcn
  have e : ∀ k, k < 64 → (n &&& (n - 1)).testBit k = (if k = j then false else n.testBit k) := by
    intro k _
    rw [Nat.testBit_and, low_pred h1 h2]
    by_cases a : k < j
    · have b : k ≠ j := by omega
      simp [a, b, h2 k a]
    · by_cases b : k = j
      · simp [b]
      · simp [a, b]
  rw [fb_ct_cong e]
  have := fb_ct_upd n.testBit false hj
  rw [h1] at this
  simpa using this
/-! numbers by their digits of s bits -/
def dgs (s : Nat) (c : Nat → Nat) : Nat → Nat
  | 0 => 0
  | K + 1 => dgs s c K + 2 ^ (s * K) * c K
def mkd (s : Nat) : Nat → Nat
  | 0 => 0
  | J + 1 => mkd s J + 2 ^ (2 * s * J) * (2 ^ s - 1)
theorem dgs_lt {s : Nat} {c : Nat → Nat} (h : ∀ k, c k < 2 ^ s) : ∀ K, dgs s c K < 2 ^ (s * K)
  | 0 => by simp [dgs]
  | K + 1 => by
    have ih := dgs_lt h K
    have h1 : 2 ^ (s * K) * (c K + 1) ≤ 2 ^ (s * K) * 2 ^ s := Nat.mul_le_mul_left _ (h K)
    rw [← Nat.pow_add, show s * K + s = s * (K + 1) by rw [Nat.mul_add, Nat.mul_one], Nat.mul_add, Nat.mul_one] at h1
    show dgs s c K + 2 ^ (s * K) * c K < _
    omega
theorem dgs_add (s : Nat) (a b : Nat → Nat) : ∀ K, dgs s a K + dgs s b K = dgs s (fun k => a k + b k) K
  | 0 => rfl
  | K + 1 => by
    show dgs s a K + _ + (dgs s b K + _) = dgs s _ K + 2 ^ (s * K) * (a K + b K)
    rw [← dgs_add s a b K, Nat.mul_add]
    omega
theorem dgs_cong {s : Nat} {a b : Nat → Nat} : ∀ {K : Nat}, (∀ k, k < K → a k = b k) → dgs s a K = dgs s b K
  | 0, _ => rfl
  | K + 1, h => by
    show dgs s a K + _ = dgs s b K + _
    rw [dgs_cong (K := K) (fun k hk => h k (by omega)), h K (by omega)]
/-- digits two by two -/
theorem dgs_two (s : Nat) (c : Nat → Nat) : ∀ J, dgs s c (2 * J) = dgs (2 * s) (fun j => c (2 * j) + 2 ^ s * c (2 * j + 1)) J
  | 0 => rfl
  | J + 1 => by
    show dgs s c (2 * J) + 2 ^ (s * (2 * J)) * c (2 * J) + 2 ^ (s * (2 * J + 1)) * c (2 * J + 1) = dgs (2 * s) _ J + 2 ^ (2 * s * J) * (c (2 * J) + 2 ^ s * c (2 * J + 1))
    have e1 : s * (2 * J) = 2 * s * J := by rw [Nat.mul_left_comm, Nat.mul_assoc]
    have e2 : s * (2 * J + 1) = 2 * s * J + s := by rw [Nat.mul_add, Nat.mul_one, e1]
    rw [dgs_two s c J, e1, e2, Nat.pow_add]
    generalize 2 ^ (2 * s * J) = P
    rw [Nat.mul_add, Nat.mul_assoc]
    omega
/-- the first digit off -/
theorem dgs_tail (s : Nat) (c : Nat → Nat) : ∀ K, dgs s c (K + 1) = c 0 + 2 ^ s * dgs s (fun k => c (k + 1)) K
  | 0 => by simp [dgs]
  | K + 1 => by
    show dgs s c (K + 1) + 2 ^ (s * (K + 1)) * c (K + 1) = c 0 + 2 ^ s * (dgs s _ K + 2 ^ (s * K) * c (K + 1))
    rw [dgs_tail s c K, Nat.mul_add (2 ^ s), ← Nat.mul_assoc, ← Nat.pow_add, show s + s * K = s * (K + 1) by rw [Nat.mul_add, Nat.mul_one, Nat.add_comm]]
    omega
theorem dgs_shift {s : Nat} {c : Nat → Nat} {K : Nat} (h0 : c 0 < 2 ^ s) (hK : c K = 0) : dgs s c K / 2 ^ s = dgs s (fun k => c (k + 1)) K := by
  have h1 : dgs s c K = c 0 + 2 ^ s * dgs s (fun k => c (k + 1)) K := by
    rw [← dgs_tail]
    show _ = dgs s c K + 2 ^ (s * K) * c K
    rw [hK]
    omega
  rw [h1, Nat.add_mul_div_left _ _ (Nat.two_pow_pos s), Nat.div_eq_of_lt h0, Nat.zero_add]
theorem and_split {k a b x y : Nat} (ha : a < 2 ^ k) (hb : b < 2 ^ k) : (a + 2 ^ k * x) &&& (b + 2 ^ k * y) = (a &&& b) + 2 ^ k * (x &&& y) := by
  have hab : a &&& b < 2 ^ k := Nat.and_lt_two_pow a hb
  apply Nat.eq_of_testBit_eq
  intro i
  rw [Nat.testBit_and, Nat.add_comm a, Nat.add_comm b, Nat.add_comm (a &&& b), Nat.testBit_two_pow_mul_add _ ha, Nat.testBit_two_pow_mul_add _ hb, Nat.testBit_two_pow_mul_add _ hab]
  split
  · rw [Nat.testBit_and]
  · rw [Nat.testBit_and]
theorem mkd_lt (s : Nat) : ∀ J, mkd s J < 2 ^ (2 * s * J)
  | 0 => by simp [mkd]
  | J + 1 => by
    have ih := mkd_lt s J
    have hp : 0 < 2 ^ s := Nat.two_pow_pos s
    have h1 : 2 ^ (2 * s * J) * (2 ^ s - 1 + 1) ≤ 2 ^ (2 * s * J) * (2 ^ s * 2 ^ s) := Nat.mul_le_mul_left _ (by rw [Nat.sub_add_cancel hp]; exact Nat.le_mul_of_pos_left _ hp)
    rw [← Nat.pow_add, ← Nat.pow_add, show 2 * s * J + (s + s) = 2 * s * (J + 1) by rw [Nat.mul_add, Nat.mul_one]; omega, Nat.mul_add, Nat.mul_one] at h1
    show mkd s J + 2 ^ (2 * s * J) * (2 ^ s - 1) < _
    omega
/-- every second digit -/
theorem dgs_mask {s : Nat} {c : Nat → Nat} (h : ∀ k, c k < 2 ^ s) : ∀ J, dgs s c (2 * J) &&& mkd s J = dgs (2 * s) (fun j => c (2 * j)) J
  | 0 => by simp [dgs, mkd]
  | J + 1 => by
    have ih := dgs_mask h J
    have hl := dgs_lt h (2 * J)
    rw [show s * (2 * J) = 2 * s * J by rw [Nat.mul_left_comm, Nat.mul_assoc]] at hl
    have e : dgs s c (2 * (J + 1)) = dgs s c (2 * J) + 2 ^ (2 * s * J) * (c (2 * J) + 2 ^ s * c (2 * J + 1)) := by
      rw [dgs_two, dgs_two]
      rfl
    rw [e]
    show _ &&& (mkd s J + 2 ^ (2 * s * J) * (2 ^ s - 1)) = dgs (2 * s) _ J + 2 ^ (2 * s * J) * c (2 * J)
    rw [and_split hl (mkd_lt s J), ih]
    congr 2
    rw [Nat.and_two_pow_sub_one_eq_mod, Nat.add_mul_mod_self_left, Nat.mod_eq_of_lt (h _)]
def bdg (n k : Nat) : Nat := if n.testBit k = true then 1 else 0
theorem bdg_lt (n k : Nat) : bdg n k < 2 := by unfold bdg; split <;> omega
theorem dgs_bits : ∀ (K n : Nat), n < 2 ^ K → dgs 1 (bdg n) K = n
  | 0, n, h => by
    have : n = 0 := by simpa using h
    subst this
    rfl
  | K + 1, n, h => by
    rw [dgs_tail]
    have e : (fun k => bdg n (k + 1)) = bdg (n / 2) := by
      funext k
      unfold bdg
      rw [Nat.testBit_succ]
    rw [e, dgs_bits K (n / 2) (by rw [Nat.pow_succ] at h; omega)]
    have h0 : bdg n 0 = n % 2 := by
      unfold bdg
      rw [Nat.testBit_zero]
      rcases Nat.mod_two_eq_zero_or_one n with q | q <;> simp [q]
    rw [h0]
    omega
def prs (c : Nat → Nat) : Nat → Nat := fun j => c (2 * j) + c (2 * j + 1)
theorem sm_prs (c : Nat → Nat) : ∀ J, fb_sm (prs c) J = fb_sm c (2 * J)
  | 0 => rfl
  | J + 1 => by
    show fb_sm (prs c) J + prs c J = fb_sm c (2 * J) + c (2 * J) + c (2 * J + 1)
    rw [sm_prs c J]
    unfold prs
    omega
theorem ct_sm (n : Nat) : ∀ K, fb_ct n.testBit K = fb_sm (bdg n) K
  | 0 => rfl
  | K + 1 => by
    rw [fb_ct_succ, fb_sm_succ, ct_sm n K]
    rfl
/-- a step: digits and their neighbours added -/
theorem dgs_pair {s : Nat} {c : Nat → Nat} {J : Nat} (h : ∀ k, c k < 2 ^ s) (hz : c (2 * J) = 0) : (dgs s c (2 * J) &&& mkd s J) + ((dgs s c (2 * J) / 2 ^ s) &&& mkd s J) = dgs (2 * s) (prs c) J := by
  rw [dgs_shift (h 0) hz, dgs_mask h, dgs_mask (fun k => h (k + 1)), dgs_add]
  rfl
def sw1 (m1 m2 m3 n : Nat) : Nat :=
  let a := n - ((n / 2) &&& m1)
  let b := (a &&& m2) + ((a / 4) &&& m2)
  (b + b / 16) &&& m3
theorem sw_ok {n J : Nat} (hn : n < 2 ^ (8 * J)) : ∃ c : Nat → Nat, (∀ k, c k ≤ 8) ∧ sw1 (mkd 1 (4 * J)) (mkd 2 (2 * J)) (mkd 4 J) n = dgs 8 c J ∧ fb_sm c J = fb_ct n.testBit (8 * J) := by
  have z : ∀ k, 8 * J ≤ k → bdg n k = 0 := by
    intro k hk
    unfold bdg
    rw [Nat.testBit_lt_two_pow (Nat.lt_of_lt_of_le hn (Nat.pow_le_pow_right (by decide) hk))]
    rfl
  have b1 : ∀ k, prs (bdg n) k ≤ 2 := fun k => by have := bdg_lt n (2 * k); have := bdg_lt n (2 * k + 1); unfold prs; omega
  have b2 : ∀ k, prs (prs (bdg n)) k ≤ 4 := fun k => by have := b1 (2 * k); have := b1 (2 * k + 1); unfold prs at *; omega
  have b3 : ∀ k, prs (prs (prs (bdg n))) k ≤ 8 := fun k => by have := b2 (2 * k); have := b2 (2 * k + 1); unfold prs at *; omega
  refine ⟨prs (prs (prs (bdg n))), b3, ?_, ?_⟩
  · have h0 : n = dgs 1 (bdg n) (2 * (4 * J)) := (dgs_bits _ n (by rw [show 2 * (4 * J) = 8 * J by omega]; exact hn)).symm
    have e1 : n - ((n / 2) &&& mkd 1 (4 * J)) = dgs 2 (prs (bdg n)) (2 * (2 * J)) := by
      have hs : (n / 2) &&& mkd 1 (4 * J) = dgs 2 (fun j => bdg n (2 * j + 1)) (4 * J) := by
        rw [show n / 2 = dgs 1 (fun k => bdg n (k + 1)) (2 * (4 * J)) by
          conv => lhs; rw [h0]
          exact dgs_shift (bdg_lt n 0) (z _ (by omega))]
        exact dgs_mask (fun k => bdg_lt n (k + 1)) (4 * J)
      rw [hs, show 2 * (2 * J) = 4 * J by omega]
      have hd : n = dgs 2 (prs (bdg n)) (4 * J) + dgs 2 (fun j => bdg n (2 * j + 1)) (4 * J) := by
        rw [dgs_add]
        conv => lhs; rw [h0, dgs_two]
        exact dgs_cong (fun k _ => by unfold prs; omega)
      omega
    have e2 : (dgs 2 (prs (bdg n)) (2 * (2 * J)) &&& mkd 2 (2 * J)) + ((dgs 2 (prs (bdg n)) (2 * (2 * J)) / 4) &&& mkd 2 (2 * J)) = dgs 4 (prs (prs (bdg n))) (2 * J) :=
      dgs_pair (s := 2) (fun k => by have := b1 k; omega) (by unfold prs; rw [z _ (by omega), z _ (by omega)])
    have e3 : (dgs 4 (prs (prs (bdg n))) (2 * J) + dgs 4 (prs (prs (bdg n))) (2 * J) / 16) &&& mkd 4 J = dgs 8 (prs (prs (prs (bdg n)))) J := by
      have := dgs_shift (s := 4) (c := prs (prs (bdg n))) (K := 2 * J) (by have := b2 0; omega) (by unfold prs; rw [z _ (by omega), z _ (by omega), z _ (by omega), z _ (by omega)])
      rw [show (16 : Nat) = 2 ^ 4 from rfl, this, dgs_add, dgs_mask (fun k => by have := b2 k; have := b2 (k + 1); omega)]
      rfl
    unfold sw1
    dsimp only
    rw [e1, e2, e3]
  · rw [sm_prs, sm_prs, sm_prs, ct_sm, show 2 * (2 * (2 * J)) = 8 * J by omega]
