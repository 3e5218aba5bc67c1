/-! the reference lays its bench aside, and back -/
section SAVE
variable {I J : TI} {L M : TL}
theorem m_saveL {Q : Int32 → TI → TL → Prop} {x : Int32} (k : ∀ M, (∀ q, q ≠ 438 → M q = L q) → (∀ i, i < 241 → M 438 i = L 437 i) → ∃ n, L_X9_load_55 x M Q n 0 I) : ∃ n, L_X9_load_28 x I Q n 0 L := by
  refine lp2 (fun z v l => L_X9_load_28 x I Q z v l) (fun v l => ∃ j, v = nI j ∧ j ≤ 241 ∧ (∀ q, q ≠ 438 → l q = L q) ∧ ∀ i, i < j → l 438 i = L 437 i) (fun v _ => 241 - v.toNatClampNeg) ?_ _ _ ⟨0, rfl, Nat.zero_le _, fun _ _ => rfl, fun i hi => absurd hi (Nat.not_lt_zero _)⟩
  rintro z v l ⟨j, rfl, j1, a1, a2⟩ ih
  refine pk_le 241 j (fun q => k l a1 (fun i hi => a2 i (by omega))) (fun q => ?_) rfl rfl (by omega) (by omega)
  have vj : vp_in (nI j) 241 := pk_in j 241 q rfl
  rw [pk_cl j rfl (by omega)]
  refine ⟨vj, vj, ih _ _ ⟨j + 1, nI_1 j, by omega, fun y hy => by rw [up2_row hy]; exact a1 y hy, fun i hi => ?_⟩ (by rw [nI_1, nI_clamp (by omega), nI_clamp (by omega)]; omega)⟩
  rw [up2_at]
  by_cases y : i = j
  · rw [if_pos y, y, a1 437 (by decide)]
  · rw [if_neg y]
    exact a2 i (by omega)
theorem m_backL {Q : Int32 → TI → TL → Prop} {v2 v3 v4 v5 v6 : Int32} (k : ∀ M, (∀ q, q ≠ 437 → M q = L q) → (∀ i, i < 241 → M 437 i = L 438 i) → ∃ n, L_X9_load_196 v2 v3 v4 v5 v6 M Q n 0 I) : ∃ n, L_X9_load_165 v2 v3 v4 v5 v6 I Q n 0 L := by
  refine lp2 (fun z v l => L_X9_load_165 v2 v3 v4 v5 v6 I Q z v l) (fun v l => ∃ j, v = nI j ∧ j ≤ 241 ∧ (∀ q, q ≠ 437 → l q = L q) ∧ ∀ i, i < j → l 437 i = L 438 i) (fun v _ => 241 - v.toNatClampNeg) ?_ _ _ ⟨0, rfl, Nat.zero_le _, fun _ _ => rfl, fun i hi => absurd hi (Nat.not_lt_zero _)⟩
  rintro z v l ⟨j, rfl, j1, a1, a2⟩ ih
  refine pk_le 241 j (fun q => k l a1 (fun i hi => a2 i (by omega))) (fun q => ?_) rfl rfl (by omega) (by omega)
  have vj : vp_in (nI j) 241 := pk_in j 241 q rfl
  rw [pk_cl j rfl (by omega)]
  refine ⟨vj, vj, ih _ _ ⟨j + 1, nI_1 j, by omega, fun y hy => by rw [up2_row hy]; exact a1 y hy, fun i hi => ?_⟩ (by rw [nI_1, nI_clamp (by omega), nI_clamp (by omega)]; omega)⟩
  rw [up2_at]
  by_cases y : i = j
  · rw [if_pos y, y, a1 438 (by decide)]
  · rw [if_neg y]
    exact a2 i (by omega)
theorem m_saveI {Q : Int32 → TI → TL → Prop} {x : Int32} (k : ∀ J, (∀ q, q ≠ 448 → q ≠ 449 → q ≠ 450 → J q = I q) → (∀ i, i < 12 → J 448 i = I 441 i ∧ J 449 i = I 442 i ∧ J 450 i = I 443 i) → W_X9_starts x J L (fun (I2265 : TI) (L2266 : TL) => W_X9_reads0 I2265 L2266 (fun (I2267 : TI) (L2268 : TL) => W_X9_isGood I2267 L2268 (fun (r2269 : Int32) => (r2269 = 0 → ∃ n2270, L_X9_load_165 (J 436 7) (J 436 8) (J 436 9) (J 436 10) (J 436 11) I2267 Q n2270 (0 : Int32) L2268) ∧ (¬ r2269 = 0 → W_X9_nets (up2 (up2 I2267 436 6 0) 436 5 0) L2268 (fun (r2271 : Int32) => Q r2271 (up2 (up2 I2267 436 6 0) 436 5 0) L2268)))))) : ∃ n, L_X9_load_55 x L Q n 0 I := by
  refine lp2 (fun z v i => L_X9_load_55 x L Q z v i) (fun v i => ∃ j, v = nI j ∧ j ≤ 12 ∧ (∀ q, q ≠ 448 → q ≠ 449 → q ≠ 450 → i q = I q) ∧ ∀ m, m < j → i 448 m = I 441 m ∧ i 449 m = I 442 m ∧ i 450 m = I 443 m) (fun v _ => 12 - v.toNatClampNeg) ?_ _ _ ⟨0, rfl, Nat.zero_le _, fun _ _ _ _ => rfl, fun i hi => absurd hi (Nat.not_lt_zero _)⟩
  rintro z v i ⟨j, rfl, j1, a1, a2⟩ ih
  refine pk_le 12 j (fun q => k i a1 (fun m hm => a2 m (by omega))) (fun q => ?_) rfl rfl (by omega) (by omega)
  have vj : vp_in (nI j) 12 := pk_in j 12 q rfl
  rw [pk_cl j rfl (by omega)]
  refine ⟨vj, vj, vj, vj, ?_⟩
  rintro _ rfl
  refine ⟨vj, vj, ?_⟩
  rintro _ rfl
  refine ih _ _ ⟨j + 1, nI_1 j, by omega, fun y h1 h2 h3 => by rw [up2_row h3, up2_row h2, up2_row h1]; exact a1 y h1 h2 h3, fun m hm => ?_⟩ (by rw [nI_1, nI_clamp (by omega), nI_clamp (by omega)]; omega)
  have e1 := a1 441 (by decide) (by decide) (by decide)
  have e2 := a1 442 (by decide) (by decide) (by decide)
  have e3 := a1 443 (by decide) (by decide) (by decide)
  by_cases y : m = j
  · subst y
    refine ⟨?_, ?_, ?_⟩
    · rw [up2_row (by decide), up2_row (by decide), up2_s, e1]
    · rw [up2_row (by decide), up2_s, up2_row (by decide), e2]
    · rw [up2_s, up2_row (by decide), up2_row (by decide), e3]
  · have := a2 m (by omega)
    refine ⟨?_, ?_, ?_⟩
    · rw [up2_row (by decide), up2_row (by decide), up2_n (Or.inr y)]; exact this.1
    · rw [up2_row (by decide), up2_n (Or.inr y), up2_row (by decide)]; exact this.2.1
    · rw [up2_n (Or.inr y), up2_row (by decide), up2_row (by decide)]; exact this.2.2
theorem m_backI {Q : Int32 → TI → TL → Prop} {v2 v3 v4 v5 v6 : Int32} (k : ∀ J, (∀ q, q ≠ 436 → q ≠ 441 → q ≠ 442 → q ≠ 443 → J q = I q) → (∀ j, (j < 7 ∨ 11 < j) → J 436 j = I 436 j) → J 436 7 = v2 → J 436 8 = v3 → J 436 9 = v4 → J 436 10 = v5 → J 436 11 = v6 → (∀ i, i < 12 → J 441 i = I 448 i ∧ J 442 i = I 449 i ∧ J 443 i = I 450 i) → Q (((-10) : Int32) - (I 436 29)) J L) : ∃ n, L_X9_load_196 v2 v3 v4 v5 v6 L Q n 0 I := by
  refine lp2 (fun z v i => L_X9_load_196 v2 v3 v4 v5 v6 L Q z v i) (fun v i => ∃ j, v = nI j ∧ j ≤ 12 ∧ (∀ q, q ≠ 441 → q ≠ 442 → q ≠ 443 → i q = I q) ∧ ∀ m, m < j → i 441 m = I 448 m ∧ i 442 m = I 449 m ∧ i 443 m = I 450 m) (fun v _ => 12 - v.toNatClampNeg) ?_ _ _ ⟨0, rfl, Nat.zero_le _, fun _ _ _ _ => rfl, fun i hi => absurd hi (Nat.not_lt_zero _)⟩
  rintro z v i ⟨j, rfl, j1, a1, a2⟩ ih
  refine pk_le 12 j (fun q => ?_) (fun q => ?_) rfl rfl (by omega) (by omega)
  · rintro _ rfl
    have g : ∀ j, (up2 (up2 (up2 (up2 (up2 i 436 7 v2) 436 8 v3) 436 9 v4) 436 10 v5) 436 11 v6) 436 j = if j = 11 then v6 else if j = 10 then v5 else if j = 9 then v4 else if j = 8 then v3 else if j = 7 then v2 else I 436 j := fun j => by
      rw [up2_at, up2_at, up2_at, up2_at, up2_at, a1 436 (by decide) (by decide) (by decide)]
    have r : ∀ q, q ≠ 436 → (up2 (up2 (up2 (up2 (up2 i 436 7 v2) 436 8 v3) 436 9 v4) 436 10 v5) 436 11 v6) q = i q := fun q hq => by rw [up2_row hq, up2_row hq, up2_row hq, up2_row hq, up2_row hq]
    have e29 : (up2 (up2 (up2 (up2 (up2 i 436 7 v2) 436 8 v3) 436 9 v4) 436 10 v5) 436 11 v6) 436 29 = I 436 29 := by rw [g]; rfl
    rw [e29]
    refine k _ (fun q y1 y2 y3 y4 => by rw [r q y1]; exact a1 q y2 y3 y4) (fun j hj => by rw [g, if_neg (by omega), if_neg (by omega), if_neg (by omega), if_neg (by omega), if_neg (by omega)]) (by rw [g]; rfl) (by rw [g]; rfl) (by rw [g]; rfl) (by rw [g]; rfl) (by rw [g]; rfl) (fun m hm => ?_)
    rw [r 441 (by decide), r 442 (by decide), r 443 (by decide)]
    exact a2 m (by omega)
  · have vj : vp_in (nI j) 12 := pk_in j 12 q rfl
    rw [pk_cl j rfl (by omega)]
    refine ⟨vj, vj, vj, vj, ?_⟩
    rintro _ rfl
    refine ⟨vj, vj, ?_⟩
    rintro _ rfl
    refine ih _ _ ⟨j + 1, nI_1 j, by omega, fun y h1 h2 h3 => by rw [up2_row h3, up2_row h2, up2_row h1]; exact a1 y h1 h2 h3, fun m hm => ?_⟩ (by rw [nI_1, nI_clamp (by omega), nI_clamp (by omega)]; omega)
    have e1 := a1 448 (by decide) (by decide) (by decide)
    have e2 := a1 449 (by decide) (by decide) (by decide)
    have e3 := a1 450 (by decide) (by decide) (by decide)
    by_cases y : m = j
    · subst y
      refine ⟨?_, ?_, ?_⟩
      · rw [up2_row (by decide), up2_row (by decide), up2_s, e1]
      · rw [up2_row (by decide), up2_s, up2_row (by decide), e2]
      · rw [up2_s, up2_row (by decide), up2_row (by decide), e3]
    · have := a2 m (by omega)
      refine ⟨?_, ?_, ?_⟩
      · rw [up2_row (by decide), up2_row (by decide), up2_n (Or.inr y)]; exact this.1
      · rw [up2_row (by decide), up2_n (Or.inr y), up2_row (by decide)]; exact this.2.1
      · rw [up2_n (Or.inr y), up2_row (by decide), up2_row (by decide)]; exact this.2.2
end SAVE
