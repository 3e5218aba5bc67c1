/-! the reference forgets; setDelay, toggle -/
section FORGETS
variable {I J : TI} {L M : TL} {b d B : Nat} {X : XT}
theorem fgR_F {r : RW} {T D : Nat → Bool} {k f : Nat} (hk : k < un (r 4)) (hf : f < 8) (h : f ≠ 6 ∨ D k = false) : dF (fgR r T D) k f = dF r k f := by
  unfold dF
  rw [fgR_d hk hf, if_neg]
  rintro ⟨a, c, _⟩
  rcases h with h | h
  · exact h a
  · rw [h] at c
    exact absurd c (by decide)
end FORGETS
