/-! setDelay, toggle -/
section DELAY
variable {I J : TI} {L M : TL} {b d B : Nat} {X : XT}
theorem upR_id {r : RW} {i : Nat} {x : Int64} (h : x = r i) : upR r i x = r := by
  funext k
  unfold upR
  by_cases e : k = i
  · rw [if_pos e, h, e]
  · rw [if_neg e]
theorem SC.del {C : CQ} {r : RW} {a g w : Nat} {v : Nat} (hC : CV C) (h : SC I L a C r) (hg : g < cG C) (hw : w < 3) (hv : v < 2 ^ 31) : SC (up2 I (a + 2 + w) (cI C + g) (nI v)) L a C (upR r (45 + 3 * g + w) (lN v)) := by
  have hI := hC.1
  have hG := hC.2.1
  refine ⟨by rw [up2_row (by omega), upR_n (by omega)]; exact h.1, fun p hp => by rw [up2_row (by omega), upR_n (by omega)]; exact h.2.1 p hp, by rw [up2_row (by omega), upR_n (by omega)]; exact h.2.2.1, fun n hn => by rw [upR_n (by omega)]; exact h.2.2.2.1 n hn, fun g2 hg2 => ?_, fun k hk f hf => ?_⟩
  · obtain ⟨q1, q2, q3, q4⟩ := h.2.2.2.2.1 g2 hg2
    rw [upR_n (show 9 + g2 ≠ 45 + 3 * g + w by omega), upR_n (show 21 + g2 ≠ 45 + 3 * g + w by omega), upR_n (show 33 + g2 ≠ 45 + 3 * g + w by omega)]
    refine ⟨q1, q2, q3, fun w2 hw2 => ?_⟩
    unfold dl
    by_cases e : g2 = g ∧ w2 = w
    · obtain ⟨rfl, rfl⟩ := e
      rw [up2_s, upR_s, un_lN (by omega)]
    · rw [upR_n (by omega)]
      by_cases e2 : w2 = w
      · subst e2
        rw [up2_n (Or.inr (by omega))]
        exact q4 w2 hw2
      · rw [up2_row (by omega)]
        exact q4 w2 hw2
  · rw [upR_n (by omega)] at hk
    rw [up2_row (by omega), upR_n (by omega)]
    exact h.2.2.2.2.2 k hk f hf
theorem RV.del {C : CQ} {r : RW} {g w v : Nat} (hC : CV C) (h : RV C B r) (hg : g < cG C) (hw : w < 3) (h1 : 1 ≤ v) (h9 : v ≤ 9) : RV C B (upR r (45 + 3 * g + w) (lN v)) := by
  have hI := hC.1
  have hG := hC.2.1
  refine ⟨by rw [upR_n (by omega)]; exact h.1, fun p hp => by rw [upR_n (by omega)]; exact h.2.1 p hp, by rw [upR_n (by omega)]; exact h.2.2.1, fun n hn => by rw [upR_n (by omega)]; exact h.2.2.2.1 n hn, fun g2 hg2 => ?_, fun k hk => ?_⟩
  · obtain ⟨q1, q2, q3, q4⟩ := h.2.2.2.2.1 g2 hg2
    rw [upR_n (show 9 + g2 ≠ 45 + 3 * g + w by omega), upR_n (show 21 + g2 ≠ 45 + 3 * g + w by omega), upR_n (show 33 + g2 ≠ 45 + 3 * g + w by omega)]
    refine ⟨q1, q2, q3, fun w2 hw2 => ?_⟩
    unfold dl
    by_cases e : g2 = g ∧ w2 = w
    · obtain ⟨rfl, rfl⟩ := e
      rw [upR_s, un_lN (by omega)]
      exact ⟨h1, h9⟩
    · rw [upR_n (by omega)]
      exact q4 w2 hw2
  · rw [upR_n (by omega)] at hk
    exact (h.dp hk).same (fun f hf => upR_n (by omega))
end DELAY
