/-! the reference goes to the next token, and asks it -/
section RNEXT
variable {I J : TI} {L M : TL}
theorem tI.rf (I : TI) : tI I I := ⟨fun _ _ => rfl, fun _ _ => rfl⟩
theorem tL.rf (L : TL) : tL L L := fun _ _ => rfl
theorem tI.tr {K : TI} (h : tI I J) (h2 : tI J K) : tI I K := ⟨fun q hq => (h2.1 q hq).trans (h.1 q hq), fun j hj => (h2.2 j hj).trans (h.2 j hj)⟩
theorem tL.tr {K : TL} (h : tL L M) (h2 : tL M K) : tL L K := fun q hq => (h2 q hq).trans (h q hq)
/-- a fault -/
def fI (I J : TI) : Prop := (∀ q, q ≠ 436 → J q = I q) ∧ ∀ j, (j < 24 ∨ 30 < j) → J 436 j = I 436 j
theorem tI.f (h : tI I J) : fI I J := ⟨h.1, fun j hj => h.2 j (by omega)⟩
theorem fI.tr {K : TI} (h : fI I J) (h2 : fI J K) : fI I K := ⟨fun q hq => (h2.1 q hq).trans (h.1 q hq), fun j hj => (h2.2 j hj).trans (h.2 j hj)⟩
theorem fI.rf (I : TI) : fI I I := ⟨fun _ _ => rfl, fun _ _ => rfl⟩
end RNEXT
