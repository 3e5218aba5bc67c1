/-! the reference reads an input -/
section RINPUT9
variable {I J : TI} {L M : TL}
theorem wvL_er {c : Nat → Nat} {ln H : Nat} {S : PS} (h : er S ≠ 0) : ∀ n w last, wvL c ln H n w last S = (w, S)
  | 0, _, _ => rfl
  | n + 1, w, last => by
    have : ¬ nuB S = true := by
      unfold nuB
      rw [decide_eq_true_iff]
      exact fun z => h z.1
    unfold wvL
    rw [if_neg this]
end RINPUT9
