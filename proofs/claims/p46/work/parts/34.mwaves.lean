/-! the waves of the reference -/
theorem tx_n {n : Nat} (h : n ≠ 16) : tx n = nI n := if_neg h
theorem tx_16 : tx 16 = -1 := if_pos rfl
theorem nI_nm1 {n : Nat} (h : n < 2 ^ 31) : ¬ nI n = -1 := by
  intro e
  have := congrArg Int32.toInt e
  rw [nI_toInt h, show (-1 : Int32).toInt = -1 from rfl] at this
  omega
/-- where the memory of longs is the same but for some rows -/
def sameL (S : List Nat) (L L' : TL) : Prop := ∀ a, a ∉ S → L' a = L a
theorem sameL.rf (S : List Nat) (L : TL) : sameL S L L := fun _ _ => rfl
theorem sameL.up {S : List Nat} {L L' : TL} (h : sameL S L L') {a j : Nat} {x : Int64} (ha : a ∈ S) : sameL S L (up2 L' a j x) := fun k hk => by
  rw [up2_row (show k ≠ a from fun e => hk (e ▸ ha))]
  exact h k hk
theorem sameL.tr {S : List Nat} {L L' L2 : TL} (h : sameL S L L') (h2 : sameL S L' L2) : sameL S L L2 := fun k hk => (h2 k hk).trans (h k hk)
theorem idl_t {C : CQ} {g : Nat} {v a : Int64} {x : Nat → Int64} (hC : CV C) (hg : g < cG C) (hv : cT C g ≠ 16 → v = x (cT C g)) : idl (cK C g) (cH C) a v = idl (cK C g) (cH C) a (x (cT C g)) := by
  have h5 := hC.2.2.2.2.2.1 g hg
  by_cases e : cT C g = 16
  · refine idl_u ?_ _ _ _
    rcases Nat.lt_or_ge (cK C g) 5 with q | q
    · have := h5.2.2.1 q
      have := hC.1
      have := hC.2.1
      omega
    · exact q
  · rw [hv e]
theorem lor_shl {u : Int64} {b : Bool} {j t : Nat} (hj : j < 64) (ht : t < 64) : bw (u ||| shlL (bi b).toInt64 (nI j)) t = (bw u t || (decide (t = j) && b)) := by
  rw [bw_or, bw_shl _ hj ht, bi_l]
  cases b with
  | false =>
    rw [if_neg (by decide), bw_0]
    simp
  | true =>
    rw [if_pos rfl, show (1 : Int64) = lN 1 from rfl]
    by_cases h2 : j ≤ t
    · rw [bw_lN 1 (by omega)]
      by_cases h3 : t = j
      · subst h3; simp
      · have : t - j = (t - j - 1) + 1 := by omega
        rw [this, Nat.testBit_succ]
        simp [h3]
    · have : t ≠ j := by omega
      simp [h2, this]
def wvS : List Nat := [444, 445, 446]