/-! a bench is cleared; the text begins -/
section CLEAR
variable {I J : TI} {L M : TL} {d : Nat}
theorem s_fill {Q : TI → Prop} {p n : Nat} {v : Int32} (hn : LEN p = n) (hn2 : n < 1000) (k : ∀ J, (∀ q, q ≠ p → J q = I q) → (∀ j, j < n → J p j = v) → Q J) : W_J7_fill_53178 p v I L Q := by
  unfold W_J7_fill_53178
  rw [hn]
  refine lp2 (fun z m i => L_J7_fill_53178_5 p v (nI n) L Q z m i) (fun m i => ∃ j, m = nI j ∧ j ≤ n ∧ (∀ q, q ≠ p → i q = I q) ∧ ∀ x, x < j → i p x = v) (fun m _ => n - m.toNatClampNeg) ?_ _ _ ⟨0, rfl, Nat.zero_le _, fun _ _ => rfl, fun x hx => absurd hx (Nat.not_lt_zero _)⟩
  rintro z m i ⟨j, rfl, j1, h1, h2⟩ ih
  refine pk_le n j (fun q => ?_) (fun q => ?_) rfl rfl (by omega) (by omega)
  · exact k i h1 (fun x hx => h2 x (by omega))
  · rw [hn, pk_cl j rfl (by omega)]
    refine ⟨pk_in j n q rfl, ih _ _ ⟨j + 1, nI_1 j, by omega, fun y hy => by rw [up2_row hy]; exact h1 y hy, fun x hx => ?_⟩ (by rw [nI_1, nI_clamp (by omega), nI_clamp (by omega)]; omega)⟩
    rw [up2_at]
    by_cases y : x = j
    · rw [if_pos y]
    · rw [if_neg y]
      exact h2 x (by omega)
theorem c_clear {Q : TI → TL → Prop} (hd : bnOK d) (k : ∀ J M, (∀ q, (q ≤ d ∨ d + 36 < q) → J q = I q) → (∀ q, (q ≤ d ∨ d + 36 < q) → M q = L q) → CL J M d → Q J M) : W_X0_clear d I L Q := by
  have l5 : LEN (d + 1 + 4) = 16 := by rcases hd with rfl | rfl <;> decide +kernel
  have l15 : LEN (d + 6 + 9) = 3 := by rcases hd with rfl | rfl <;> decide +kernel
  unfold W_X0_clear W_X2_clear
  refine s_fill l5 (by omega) (fun J a1 a2 => ?_)
  unfold W_X6_clear
  refine lp2 (fun n m l => L_X6_clear_2 (d + 6) J Q n m l) (fun m l => ∃ j, m = nI j ∧ j ≤ 16 ∧ (∀ q, (q ≤ d ∨ d + 36 < q) → l q = L q) ∧ ∀ n, n < j → l (d + 12) n = 0 ∧ l (d + 13) n = 0 ∧ l (d + 14) n = 0) (fun m _ => 16 - m.toNatClampNeg) ?_ _ _ ⟨0, rfl, Nat.zero_le _, fun _ _ => rfl, fun n hn => absurd hn (Nat.not_lt_zero _)⟩
  rintro n m l ⟨j, rfl, j1, b1, b2⟩ ih
  refine pk_le 16 j (fun q => ?_) (fun q => ?_) rfl rfl (by omega) (by omega)
  · refine s_fill l15 (by omega) (fun K c1 c2 => ?_)
    have fr : ∀ q, q ≠ d + 1 → q ≠ d + 5 → q ≠ d + 15 → K q = I q := fun q y1 y2 y3 => by
      rw [c1 q (by omega), a1 q (by omega), up2_row (by omega), up2_row (by omega)]
    refine k _ l (fun q hq => by rw [up2_row (by omega)]; exact fr q (by omega) (by omega) (by omega)) b1 ⟨?_, ?_, fun x hx => ?_, fun x hx => b2 x (by omega), up2_s, fun p hp => ?_⟩
    · rw [up2_row (by omega), c1 _ (by omega), a1 _ (by omega), up2_n (Or.inr (by decide)), up2_s]
    · rw [up2_row (by omega), c1 _ (by omega), a1 _ (by omega), up2_s]
    · rw [up2_row (by omega), c1 _ (by omega)]
      exact a2 x hx
    · rw [up2_row (by omega)]
      exact c2 p hp
  · have v16 : vp_in (nI j) 16 := pk_in j 16 q rfl
    unfold W_X6_forget
    rw [pk_cl j rfl (by omega)]
    refine ⟨v16, v16, ?_⟩
    rintro _ rfl
    refine ⟨v16, ?_⟩
    rw [nI_1]
    refine ih _ _ ⟨j + 1, rfl, by omega, fun q2 hq2 => by rw [up2_row (by omega), up2_row (by omega), up2_row (by omega)]; exact b1 q2 hq2, fun x hx => ?_⟩ (by rw [nI_clamp (by omega), nI_clamp (by omega)]; omega)
    by_cases y : x = j
    · subst y
      refine ⟨?_, ?_, ?_⟩
      · rw [up2_row (by omega), up2_row (by omega), show d + 6 + 6 = d + 12 by omega, up2_s]
      · rw [up2_row (by omega), show d + 6 + 7 = d + 13 by omega, up2_s]
      · rw [show d + 6 + 8 = d + 14 by omega, up2_s]
    · rw [up2_n (Or.inr y), up2_n (Or.inr y), up2_n (Or.inr y), up2_n (Or.inr y), up2_n (Or.inr y), up2_n (Or.inr y), up2_n (Or.inr y), up2_n (Or.inr y), up2_n (Or.inr y)]
      exact b2 x (by omega)
end CLEAR
