/-! the reference lays its bench aside, and back -/
section SAVE
variable {I J : TI} {L M : TL}
theorem m_saveL {Q : Int32 → TI → TL → Prop} {x : Int32} (k : ∀ M, (∀ q, q ≠ 438 → M q = L q) → (∀ i, i < 241 → M 438 i = L 437 i) → ∃ n, L_X9_load_55 x M Q n 0 I) : ∃ n, L_X9_load_28 x I Q n 0 L := by
  refine lp2 (fun z v l => L_X9_load_28 x I Q z v l) (fun v l => ∃ j, v = nI j ∧ j ≤ 241 ∧ (∀ q, q ≠ 438 → l q = L q) ∧ ∀ i, i < j → l 438 i = L 437 i) (fun v _ => 241 - v.toNatClampNeg) ?_ _ _ ⟨0, rfl, Nat.zero_le _, fun _ _ => rfl, fun i hi => absurd hi (Nat.not_lt_zero _)⟩
  rintro z v l ⟨j, rfl, j1, a1, a2⟩ ih
  refine pk_le 241 j (fun q => k l a1 (fun i hi => a2 i (by omega))) (fun q => ?_) rfl rfl (by omega) (by omega)
  have vj : vp_in (nI j) 241 := pk_in j 241 q rfl
  rw [pk_cl j rfl (by omega)]
  refine ⟨vj, vj, ih _ _ ⟨j + 1, nI_1 j, by omega, fun y hy => by rw [up2_row hy]; exact a1 y hy, fun i hi => ?_⟩ (by rw [nI_1, nI_clamp (by omega), nI_clamp (by omega)]; omega)⟩
  rw [up2_at]
  by_cases y : i = j
  · rw [if_pos y, y, a1 437 (by decide)]
  · rw [if_neg y]
    exact a2 i (by omega)
theorem m_backL {Q : Int32 → TI → TL → Prop} {v2 v3 v4 v5 v6 : Int32} (k : ∀ M, (∀ q, q ≠ 437 → M q = L q) → (∀ i, i < 241 → M 437 i = L 438 i) → ∃ n, L_X9_load_196 v2 v3 v4 v5 v6 M Q n 0 I) : ∃ n, L_X9_load_165 v2 v3 v4 v5 v6 I Q n 0 L := by
  refine lp2 (fun z v l => L_X9_load_165 v2 v3 v4 v5 v6 I Q z v l) (fun v l => ∃ j, v = nI j ∧ j ≤ 241 ∧ (∀ q, q ≠ 437 → l q = L q) ∧ ∀ i, i < j → l 437 i = L 438 i) (fun v _ => 241 - v.toNatClampNeg) ?_ _ _ ⟨0, rfl, Nat.zero_le _, fun _ _ => rfl, fun i hi => absurd hi (Nat.not_lt_zero _)⟩
  rintro z v l ⟨j, rfl, j1, a1, a2⟩ ih
  refine pk_le 241 j (fun q => k l a1 (fun i hi => a2 i (by omega))) (fun q => ?_) rfl rfl (by omega) (by omega)
  have vj : vp_in (nI j) 241 := pk_in j 241 q rfl
  rw [pk_cl j rfl (by omega)]
  refine ⟨vj, vj, ih _ _ ⟨j + 1, nI_1 j, by omega, fun y hy => by rw [up2_row hy]; exact a1 y hy, fun i hi => ?_⟩ (by rw [nI_1, nI_clamp (by omega), nI_clamp (by omega)]; omega)⟩
  rw [up2_at]
  by_cases y : i = j
  · rw [if_pos y, y, a1 438 (by decide)]
  · rw [if_neg y]
    exact a2 i (by omega)
end SAVE
