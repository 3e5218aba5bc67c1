/-! the reference reads the head and the inputs -/
section RHEAD9
variable {I J : TI} {L M : TL}
def hI (I J : TI) : Prop := (∀ q, q ≠ 436 → q ≠ 441 → q ≠ 442 → q ≠ 443 → J q = I q) ∧ ∀ j, (j < 7 ∨ (11 < j ∧ j < 24) ∨ 30 < j) → J 436 j = I 436 j
def hL (L M : TL) : Prop := ∀ q, q ≠ 436 → q ≠ 437 → M q = L q
theorem fI.h (h : fI I J) : hI I J := ⟨fun q a _ _ _ => h.1 q a, fun j hj => h.2 j (by omega)⟩
theorem tL.h (h : tL L M) : hL L M := fun q a _ => h q a
theorem hI.tr {K : TI} (h : hI I J) (h2 : hI J K) : hI I K := ⟨fun q a b c d => (h2.1 q a b c d).trans (h.1 q a b c d), fun j hj => (h2.2 j hj).trans (h.2 j hj)⟩
theorem hL.tr {K : TL} (h : hL L M) (h2 : hL M K) : hL L K := fun q a b => (h2 q a b).trans (h q a b)
theorem hI.up {j : Nat} {x : Int32} (h : hI I J) (h1 : 7 ≤ j) (h2 : j ≤ 11) : hI I (up2 J 436 j x) := ⟨fun q a b c d => by rw [up2_row a]; exact h.1 q a b c d, fun k hk => by rw [up2_n (Or.inr (by omega))]; exact h.2 k hk⟩
theorem TR.fr {c : Nat → Nat} {ln : Nat} {S : PS} (h : TR I L c ln S) (e : ∀ j, 23 ≤ j → j ≤ 30 → J 436 j = I 436 j) (e2 : J 447 = I 447) (e3 : M 436 = L 436) : TR J M c ln S := by
  obtain ⟨⟨h1, h2, h3, h4, h5, h6, h7, h8⟩, ht⟩ := h
  refine ⟨⟨?_, ?_, ?_, ?_, fun z => ?_, fun z => ?_, ?_, ?_⟩, fun i hi => by rw [e2]; exact ht i hi⟩
  · rw [e 23 (by omega) (by omega)]; exact h1
  · rw [e 24 (by omega) (by omega)]; exact h2
  · rw [e 25 (by omega) (by omega)]; exact h3
  · rw [e 26 (by omega) (by omega)]; exact h4
  · rw [e 27 (by omega) (by omega)]; exact h5 z
  · rw [e3]; exact h6 z
  · rw [e 29 (by omega) (by omega)]; exact h7
  · rw [e 30 (by omega) (by omega)]; exact h8
end RHEAD9
