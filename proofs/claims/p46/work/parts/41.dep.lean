/-! what a gate hangs on, what a net touches: both classes -/
theorem cD_in {C : CQ} (hC : CV C) {n : Nat} (h : n < cI C) : cD C n = 0 := hC.2.2.2.2.2.2.1 n h
theorem cD_g {C : CQ} (hC : CV C) {g : Nat} (h : g < cG C) : cD C (cI C + g) = 2 ^ (cI C + g) ||| (cD C (cO C g) ||| (if cT C g = 16 then 0 else cD C (cT C g))) := hC.2.2.2.2.2.2.2 g h
theorem cD_gb {C : CQ} (hC : CV C) {g : Nat} (h : g < cG C) (t : Nat) : (cD C (cI C + g)).testBit t = (decide (cI C + g = t) || ((cD C (cO C g)).testBit t || (if cT C g = 16 then false else (cD C (cT C g)).testBit t))) := by
  rw [cD_g hC h, Nat.testBit_or, Nat.testBit_or, Nat.testBit_two_pow]
  congr 2
  split
  · rw [Nat.zero_testBit]
  · rfl
theorem cD_bit {C : CQ} (hC : CV C) : ∀ (n : Nat), n < cI C + cG C → ∀ t, (cD C n).testBit t = true → cI C ≤ t ∧ t ≤ n := by
  intro n
  induction n using Nat.strongRecOn with
  | _ n ih =>
    intro hn t ht
    by_cases q : n < cI C
    · rw [cD_in hC q, Nat.zero_testBit] at ht
      cases ht
    · obtain ⟨g, rfl⟩ : ∃ g, n = cI C + g := ⟨n - cI C, by omega⟩
      have hg : g < cG C := by omega
      obtain ⟨n1, n2, n3, n4⟩ := hC.net hg
      rw [cD_gb hC hg] at ht
      simp only [Bool.or_eq_true, decide_eq_true_eq] at ht
      rcases ht with e | e | e
      · omega
      · have := ih _ n1 (by omega) t e
        omega
      · split at e
        · cases e
        · rename_i z
          have := ih _ (n2 z) (by have := n2 z; omega) t e
          omega
theorem cD_lt {C : CQ} (hC : CV C) {n : Nat} (hn : n < cI C + cG C) : cD C n < 2 ^ 16 := by
  have := hC.1
  have := hC.2.1
  apply Nat.lt_pow_two_of_testBit
  intro i hi
  cases h : (cD C n).testBit i with
  | false => rfl
  | true =>
    have := cD_bit hC n hn i h
    omega
theorem shr1 (w : Int64) {t : Nat} (ht : t < 64) : shrL w (nI t) &&& 1 = if bw w t = true then 1 else 0 := by
  rw [bw_a1, bw_shr w ht (by decide), Nat.add_zero, if_pos ht]
theorem or_shl1 (s : Nat) {k : Nat} (hk : k < 64) : lN s ||| shlL 1 (nI k) = lN (s ||| 2 ^ k) := by
  rw [show (1 : Int64) = lN 1 from rfl, shl_lN 1 hk, Nat.one_mul, fb_orL]
theorem or_tb (s k t : Nat) : (s ||| 2 ^ k).testBit t = (s.testBit t || decide (k = t)) := by
  rw [Nat.testBit_or, Nat.testBit_two_pow]