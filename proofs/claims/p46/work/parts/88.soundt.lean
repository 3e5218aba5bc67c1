/-! a good text is sound, whole -/
section SOUNDT
theorem inL_V {c : Nat → Nat} {ln : Nat} : ∀ n S Z, PX c ln S → ZV Z → cG Z.1 = 0 → (∀ m, cD Z.1 m = 0) → cI Z.1 + n ≤ 5 → ZV (inL c ln n S Z).2
  | 0, _, _, _, h, _, _, _ => h
  | n + 1, S, Z, v, h, hG, hD, hI => by
    rw [inL_s]
    split
    · split
      · have g := rdWave_v (c := c) (ln := ln) (H := cH Z.1) (S := advF c ln S) h.1.2.2.1.2 v.adv
        exact inL_V n _ _ g.1 (h.adI (by omega) hG hD g.2) hG hD (by show cI Z.1 + 1 + n ≤ 5; omega)
      · exact inL_V n _ _ (v.fail (by omega)) h hG hD (by omega)
    · exact h
theorem qZ_V {c : Nat → Nat} {ln : Nat} {S : PS} {Z : ZT} (h : ZV Z) (h1 : 1 ≤ cI Z.1) (hG : cG Z.1 < 12) : ZV (qZ c ln S Z) := by
  have kv := kdV_le (c := c) (S := S)
  have po := peekV_b (c := c) (lo := 0) (hi := cI Z.1 + cG Z.1 - 1) (S := kdS c ln S) (by omega)
  have pt := peekV_b (c := c) (lo := 0) (hi := cI Z.1 + cG Z.1 - 1) (S := qA c ln (cI Z.1 + cG Z.1) S) (by omega)
  unfold qZ
  refine h.adG hG kv (by omega) (fun q => ?_) (fun q => ?_) (peekV_b (by omega)) (peekV_b (by omega)) (peekV_b (by omega))
  · unfold qT
    rw [if_neg (by omega)]
    omega
  · unfold qT
    rw [if_pos q]
theorem gaL_V {c : Nat → Nat} {ln : Nat} : ∀ n S Z, ZV Z → (er S = 0 → 1 ≤ cI Z.1) → cG Z.1 + n ≤ 13 → ZV (gaL c ln n S Z).2
  | 0, _, _, h, _, _ => h
  | n + 1, S, Z, h, h1, hG => by
    rw [gaL_s]
    split
    · rename_i e
      have c1 := h1 (wdB_er e)
      split
      · have gg := rdGZ_G (c := c) (ln := ln) (S := advF c ln S) (Z := Z)
        refine gaL_V n _ _ ?_ (fun _ => by rw [rdGZ_I]; exact c1) (by omega)
        unfold rdGZ
        split
        · exact qZ_V h c1 (by omega)
        · exact h
      · exact gaL_V n _ _ h (fun z => absurd z (failF_er (by decide))) (by omega)
    · exact h
theorem puZ_V {c : Nat → Nat} {ln : Nat} {S : PS} {Z : ZT} (h : ZV Z) : ZV (puZ c ln S Z) := by
  unfold puZ
  split
  · obtain ⟨a, r1, r2, r3, r4⟩ := h
    have hr : ∀ i, (i < 1 ∨ 3 < i) → puR c ln S Z.2 i = Z.2 i := fun i hi => by
      unfold puR
      rw [upR_n (by omega), upR_n (by omega), upR_n (by omega)]
    have p0 := peekV_b (c := c) (lo := 0) (hi := 99999) (S := pA c ln S) (by omega)
    have p1 := peekV_b (c := c) (lo := 0) (hi := 99999) (S := pB c ln S) (by omega)
    have p2 := peekV_b (c := c) (lo := 0) (hi := 99999) (S := pC c ln S) (by omega)
    refine ⟨a, ?_, fun p hp => ?_, fun n hn => ?_, fun g hg w hw => ?_⟩
    · show 1 ≤ un (puR c ln S Z.2 0) ∧ un (puR c ln S Z.2 0) ≤ 20
      rw [hr 0 (by omega)]
      exact r1
    · show un (puR c ln S Z.2 (1 + p)) ≤ 100000
      unfold puR
      have w3 : p = 0 ∨ p = 1 ∨ p = 2 := by omega
      rcases w3 with rfl | rfl | rfl
      · rw [upR_n (by omega), upR_n (by omega), upR_s, un_lN (by omega)]; omega
      · rw [upR_n (by omega), upR_s, un_lN (by omega)]; omega
      · rw [upR_s, un_lN (by omega)]; omega
    · show inH (cH Z.1) (puR c ln S Z.2 (5 + n))
      rw [hr (5 + n) (by omega)]
      exact r3 n hn
    · show 1 ≤ dl (puR c ln S Z.2) g w ∧ dl (puR c ln S Z.2) g w ≤ 9
      have := r4 g hg w hw
      unfold dl at *
      rw [hr (45 + 3 * g + w) (by omega)]
      exact this
  · exact h
theorem hZ_V {c : Nat → Nat} {ln : Nat} {S : PS} : ZV (hZ c ln S) := by
  unfold hZ
  exact ZV.hd (peekV_b (by omega)) (peekV_b (by omega)) (peekV_b (c := c) (lo := 0) (hi := 9) (by omega)).2 (peekV_b (c := c) (lo := 0) (hi := 99) (by omega)).2
theorem tA_V {c : Nat → Nat} {ln : Nat} {S : PS} (v : PX c ln S) : ZV (tA c ln S).2 := by
  unfold tA
  have z0 := hZ_0 (c := c) (ln := ln) (S := S)
  refine inL_V 5 _ _ v.hF.inS hZ_V z0.2 (fun m => ?_) (by rw [z0.1]; decide)
  unfold hZ hdZ
  rfl
theorem tZ_V {c : Nat → Nat} {ln : Nat} {S : PS} (v : PX c ln S) : ZV (tZ c ln S) := by
  obtain ⟨i4, g0, i1⟩ := tA_4 (c := c) (ln := ln) (S := S)
  unfold tZ tB
  exact puZ_V (gaL_V 13 _ _ (tA_V v) i1 (by rw [g0]; decide))
end SOUNDT
