/-! errors stay -/
section ERK
theorem er_rdGS {c : Nat → Nat} {ln : Nat} {S : PS} {Z : ZT} (h : er (rdGS c ln S Z) = 0) : er (kdS c ln S) = 0 := by
  by_cases q : er (kdS c ln S) = 0
  · exact q
  · unfold rdGS at h
    rw [qF_er q] at h
    exact h
theorem gaL_er {c : Nat → Nat} {ln : Nat} : ∀ n S Z, er (gaL c ln n S Z).1 = 0 → er S = 0
  | 0, _, _, h => h
  | n + 1, S, Z, h => by
    rw [gaL_s] at h
    by_cases e : wdB c S 139055 = true
    · exact wdB_er e
    · rw [if_neg e] at h
      exact h
theorem gaL_I {c : Nat → Nat} {ln : Nat} : ∀ n S Z, cI (gaL c ln n S Z).2.1 = cI Z.1
  | 0, _, _ => rfl
  | n + 1, S, Z => by
    rw [gaL_s]
    split
    · split
      · rw [gaL_I n, rdGZ_I]
      · rw [gaL_I n]
    · rfl
theorem puS_er {c : Nat → Nat} {ln : Nat} {S : PS} (h : er (puS c ln S) = 0) : er S = 0 := by
  unfold puS at h
  by_cases e : wdB c S 241111072 = true
  · exact wdB_er e
  · rw [if_neg e] at h
    exact h
theorem puZ_I {c : Nat → Nat} {ln : Nat} {S : PS} {Z : ZT} : cI (puZ c ln S Z).1 = cI Z.1 := by
  unfold puZ
  split <;> rfl
theorem tS_er {c : Nat → Nat} {ln : Nat} {S : PS} (h : er (tS c ln S) = 0) : er (tC c ln S) = 0 := by
  unfold tS at h
  split at h
  · exact h
  · exact absurd h (failF_er (by decide))
/-- a good text has an input -/
theorem tZ_1 {c : Nat → Nat} {ln : Nat} {S : PS} (h : er (tS c ln S) = 0) : 1 ≤ cI (tZ c ln S).1 := by
  have a := tS_er h
  obtain ⟨i4, g0, i1⟩ := tA_4 (c := c) (ln := ln) (S := S)
  unfold tC at a
  have b := puS_er a
  unfold tB at b
  have d := gaL_er _ _ _ b
  unfold tZ tB
  rw [puZ_I, gaL_I]
  exact i1 d
end ERK
