/-! toggle -/
section TOGGLE
variable {I J : TI} {L M : TL} {b d B : Nat} {X : XT}
theorem SC.inp {C : CQ} {r : RW} {a n : Nat} {v : Int64} (hC : CV C) (h : SC I L a C r) (hn : n < cI C) : SC I (up2 L (a + 5) n v) a C (upR r (5 + n) v) := by
  have hI := hC.1
  have hG := hC.2.1
  refine ⟨by rw [upR_n (by omega)]; exact h.1, fun p hp => by rw [upR_n (by omega)]; exact h.2.1 p hp, by rw [upR_n (by omega)]; exact h.2.2.1, fun m hm => ?_, fun g hg => ?_, fun k hk f hf => ?_⟩
  · obtain ⟨q1, q2, q3⟩ := h.2.2.2.1 m hm
    rw [up2_row (show a + 6 ≠ a + 5 by omega), up2_row (show a + 7 ≠ a + 5 by omega)]
    refine ⟨?_, q2, q3⟩
    by_cases e : m = n
    · subst e
      rw [up2_s, upR_s]
    · rw [up2_n (Or.inr e), upR_n (by omega)]
      exact q1
  · obtain ⟨q1, q2, q3, q4⟩ := h.2.2.2.2.1 g hg
    rw [up2_row (show a + 6 ≠ a + 5 by omega), up2_row (show a + 7 ≠ a + 5 by omega), up2_row (show a + 8 ≠ a + 5 by omega), upR_n (by omega), upR_n (by omega), upR_n (by omega)]
    refine ⟨q1, q2, q3, fun w hw => ?_⟩
    unfold dl
    rw [upR_n (by omega)]
    exact q4 w hw
  · rw [upR_n (by omega)] at hk
    rw [upR_n (by omega)]
    exact h.2.2.2.2.2 k hk f hf
theorem RV.inp {C : CQ} {r : RW} {n : Nat} {v : Int64} (hC : CV C) (h : RV C B r) (hn : n < cI C) (hv : inH (cH C) v) : RV C B (upR r (5 + n) v) := by
  have hI := hC.1
  have hG := hC.2.1
  refine ⟨by rw [upR_n (by omega)]; exact h.1, fun p hp => by rw [upR_n (by omega)]; exact h.2.1 p hp, by rw [upR_n (by omega)]; exact h.2.2.1, fun m hm => ?_, fun g hg => ?_, fun k hk => ?_⟩
  · by_cases e : m = n
    · subst e
      rw [upR_s]
      exact hv
    · rw [upR_n (by omega)]
      exact h.2.2.2.1 m hm
  · obtain ⟨q1, q2, q3, q4⟩ := h.2.2.2.2.1 g hg
    rw [upR_n (by omega), upR_n (by omega), upR_n (by omega)]
    refine ⟨q1, q2, q3, fun w hw => ?_⟩
    unfold dl
    rw [upR_n (by omega)]
    exact q4 w hw
  · rw [upR_n (by omega)] at hk
    exact (h.dp hk).same (fun f hf => upR_n (by omega))
end TOGGLE
