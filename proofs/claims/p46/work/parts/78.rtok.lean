/-! the reference's tokens -/
section RTOK
variable {I J : TI} {L M : TL}
def TR (I : TI) (L : TL) (c : Nat → Nat) (ln : Nat) (S : PS) : Prop := (I 436 23 = nI ln ∧ I 436 24 = nI (te S) ∧ I 436 25 = nI (ts S) ∧ I 436 26 = nI (tk S) ∧ (tk S = 2 → ∃ m, I 436 27 = nI m ∧ m < 2 ^ 31 ∧ (m = numF c S ∨ (9999999 < m ∧ m ≤ numF c S))) ∧ (tk S = 1 → L 436 28 = lN (hsF c (ts S) (min (te S - ts S) 10))) ∧ I 436 29 = nI (er S) ∧ I 436 30 = ep S) ∧ ∀ i, i < ln → I 447 i = nI (c i)
/-- what a token leaves -/
def tI (I J : TI) : Prop := (∀ q, q ≠ 436 → J q = I q) ∧ ∀ j, (j < 24 ∨ 28 < j) → J 436 j = I 436 j
def tL (L M : TL) : Prop := ∀ q, q ≠ 436 → M q = L q
theorem tI.up {r : Nat} {x : Int32} (h : tI I J) (h1 : 24 ≤ r) (h2 : r ≤ 28) : tI I (up2 J 436 r x) := ⟨fun q hq => by rw [up2_row hq]; exact h.1 q hq, fun j hj => by rw [up2_n (Or.inr (by omega))]; exact h.2 j hj⟩
end RTOK
