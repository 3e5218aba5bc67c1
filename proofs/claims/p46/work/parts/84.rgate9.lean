/-! the reference reads a gate -/
section RGATE9
variable {I J : TI} {L M : TL}
theorem qF_er {c : Nat → Nat} {ln n : Nat} {S : PS} (h : er (kdS c ln S) ≠ 0) : qF c ln n S = kdS c ln S := by
  have a : qA c ln n S = kdS c ln S := by unfold qA; exact (takeN_er h).1
  have b : qB c ln n S = kdS c ln S := by
    unfold qB
    rw [a]
    split
    · rfl
    · exact (takeN_er h).1
  have d : qC c ln n S = kdS c ln S := by unfold qC; rw [b]; exact (takeN_er h).1
  have e : qD c ln n S = kdS c ln S := by unfold qD; rw [d]; exact (takeN_er h).1
  have f : qE c ln n S = kdS c ln S := by unfold qE; rw [e]; exact (takeN_er h).1
  unfold qF
  rw [f]
  exact takeS_er h
end RGATE9
