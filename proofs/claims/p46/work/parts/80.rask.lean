/-! the reference's questions to a token -/
section RASK
variable {I J : TI} {L M : TL}
theorem advF_er {c : Nat → Nat} {ln : Nat} {S : PS} (h : er S ≠ 0) : advF c ln S = S := by
  unfold advF
  rw [if_neg h]
theorem hsF_lt {c : Nat → Nat} {s : Nat} : ∀ n, (∀ i, i < n → c (s + i) ≤ 122) → hsF c s n < 27 ^ n
  | 0, _ => by show 0 < 1; omega
  | n + 1, h => by
    have a := hsF_lt n (fun i hi => h i (by omega))
    have b := h n (by omega)
    show 27 * hsF c s n + (c (s + n) - 96) < 27 ^ (n + 1)
    rw [Nat.pow_succ]
    omega
theorem sgB_er {c : Nat → Nat} {S : PS} {b : Nat} (h : sgB c b S = true) : er S = 0 := by
  unfold sgB at h
  exact (of_decide_eq_true h).1
theorem takeS_er {c : Nat → Nat} {ln b : Nat} {S : PS} (h : er S ≠ 0) : takeS c ln b S = S := by
  unfold takeS
  split
  · exact advF_er h
  · rw [er_fail h, advF_er h]
theorem takeN_er {c : Nat → Nat} {ln lo hi : Nat} {S : PS} (h : er S ≠ 0) : takeN c ln lo hi S = S ∧ peekV c lo hi S = lo := by
  have e1 : peekF c lo hi S = S := by
    unfold peekF
    split
    · split
      · rfl
      · exact er_fail h
    · exact er_fail h
  refine ⟨?_, ?_⟩
  · unfold takeN
    rw [e1, advF_er h]
  · unfold peekV
    rw [e1, if_neg h]
end RASK
