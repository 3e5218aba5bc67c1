/-! what a gate hangs on, what a net touches: both classes -/
theorem cD_in {C : CQ} (hC : CV C) {n : Nat} (h : n < cI C) : cD C n = 0 := hC.2.2.2.2.2.2.1 n h
theorem cD_g {C : CQ} (hC : CV C) {g : Nat} (h : g < cG C) : cD C (cI C + g) = 2 ^ (cI C + g) ||| (cD C (cO C g) ||| (if cT C g = 16 then 0 else cD C (cT C g))) := hC.2.2.2.2.2.2.2 g h
theorem cD_gb {C : CQ} (hC : CV C) {g : Nat} (h : g < cG C) (t : Nat) : (cD C (cI C + g)).testBit t = (decide (cI C + g = t) || ((cD C (cO C g)).testBit t || (if cT C g = 16 then false else (cD C (cT C g)).testBit t))) := by
  rw [cD_g hC h, Nat.testBit_or, Nat.testBit_or, Nat.testBit_two_pow]
  congr 2
  split
  · rw [Nat.zero_testBit]
  · rfl
theorem cD_bit {C : CQ} (hC : CV C) : ∀ (n : Nat), n < cI C + cG C → ∀ t, (cD C n).testBit t = true → cI C ≤ t ∧ t ≤ n := by
  intro n
  induction n using Nat.strongRecOn with
  | _ n ih =>
    intro hn t ht
    by_cases q : n < cI C
    · rw [cD_in hC q, Nat.zero_testBit] at ht
      cases ht
    · obtain ⟨g, rfl⟩ : ∃ g, n = cI C + g := ⟨n - cI C, by omega⟩
      have hg : g < cG C := by omega
      obtain ⟨n1, n2, n3, n4⟩ := hC.net hg
      rw [cD_gb hC hg] at ht
      simp only [Bool.or_eq_true, decide_eq_true_eq] at ht
      rcases ht with e | e | e
      · omega
      · have := ih _ n1 (by omega) t e
        omega
      · split at e
        · cases e
        · rename_i z
          have := ih _ (n2 z) (by have := n2 z; omega) t e
          omega
theorem cD_lt {C : CQ} (hC : CV C) {n : Nat} (hn : n < cI C + cG C) : cD C n < 2 ^ 16 := by
  have := hC.1
  have := hC.2.1
  apply Nat.lt_pow_two_of_testBit
  intro i hi
  cases h : (cD C n).testBit i with
  | false => rfl
  | true =>
    have := cD_bit hC n hn i h
    omega
theorem shr1 (w : Int64) {t : Nat} (ht : t < 64) : shrL w (nI t) &&& 1 = if bw w t = true then 1 else 0 := by
  rw [bw_a1, bw_shr w ht (by decide), Nat.add_zero, if_pos ht]
theorem or_shl1 (s : Nat) {k : Nat} (hk : k < 64) : lN s ||| shlL 1 (nI k) = lN (s ||| 2 ^ k) := by
  rw [show (1 : Int64) = lN 1 from rfl, shl_lN 1 hk, Nat.one_mul, fb_orL]
theorem or_tb (s k t : Nat) : (s ||| 2 ^ k).testBit t = (s.testBit t || decide (k = t)) := by
  rw [Nat.testBit_or, Nat.testBit_two_pow]
theorem s_dep {I : TI} {L : TL} {Q : Int64 → Prop} {C : CQ} {n : Nat} {x : Int32} (hM : MC I C) (hC : CV C) (hx : x = nI n) (hn : n < cI C + cG C) (k : Q (lN (cD C n))) : W_X9_dependence x I L Q := by
  subst hx
  have hI := hC.1
  have hG := hC.2.1
  unfold W_X9_dependence
  rw [hM.1]
  refine pk_le (cI C) n (fun hc => ?_) (fun hc => ?_) rfl rfl (by omega) (by omega)
  · have e1 : shlL (1 : Int64) (nI n) = lN (2 ^ n) := by rw [show (1 : Int64) = lN 1 from rfl, shl_lN 1 (by omega), Nat.one_mul]
    rw [e1]
    refine lp2 (fun z u v => L_X9_dependence_17 I L Q z u v) (fun u v => ∃ s m, m ≤ n ∧ cI C ≤ m + 1 ∧ v = nI m ∧ u = lN s ∧ (∀ t, s.testBit t = true → cI C ≤ t ∧ t ≤ n) ∧ ∀ t, (cD C n).testBit t = true ↔ (m < t ∧ s.testBit t = true) ∨ ∃ i, i ≤ m ∧ s.testBit i = true ∧ (cD C i).testBit t = true) (fun _ v => v.toNatClampNeg) ?_ _ _ ⟨2 ^ n, n, Nat.le_refl _, by omega, rfl, rfl, fun t ht => ?_, fun t => ?_⟩
    · rintro z u v ⟨s, m, h1, h2, rfl, rfl, h3, h4⟩ ih
      refine pk_lt m (cI C) (fun hc => ?_) (fun hc => ?_) rfl hM.1 (by omega) (by omega)
      · have e : s = cD C n := by
          apply Nat.eq_of_testBit_eq
          intro t
          have := h4 t
          have h5 := h3 t
          cases a : s.testBit t with
          | true =>
            have := h5 a
            have : (cD C n).testBit t = true := (h4 t).mpr (Or.inl ⟨by omega, a⟩)
            rw [this]
          | false =>
            cases c : (cD C n).testBit t with
            | false => rfl
            | true =>
              rcases (h4 t).mp c with ⟨_, q⟩ | ⟨i, q1, q2, _⟩
              · rw [a] at q
                cases q
              · have := h3 i q2
                omega
        rw [e]
        exact k
      · obtain ⟨g, rfl⟩ : ∃ g, m = cI C + g := ⟨m - cI C, by omega⟩
        have hg : g < cG C := by omega
        obtain ⟨n1, n2, n3, n4⟩ := hC.net hg
        obtain ⟨g1, g2, g3⟩ := hM.2.2.2.2.2 g hg
        rw [hM.1, pk_sub (Nat.le_add_right _ _), Nat.add_sub_cancel_left, pk_cl g rfl (by omega), g2, g3, shr1 _ (by omega), bw_lN s (by omega)]
        have next : ∀ s2, (∀ t, s2.testBit t = true → cI C ≤ t ∧ t ≤ n) → (∀ t, (cD C n).testBit t = true ↔ (cI C + g ≤ t ∧ s2.testBit t = true) ∨ ∃ i, i < cI C + g ∧ s2.testBit i = true ∧ (cD C i).testBit t = true) → B_X9_dependence_100 (lN s2) (nI (cI C + g)) I L Q (fun v2 v4 => L_X9_dependence_17 I L Q z v2 v4) := by
          intro s2 a1 a2
          have em : nI (cI C + g) + (-1) = nI (cI C + g - 1) := by
            obtain ⟨q, hq⟩ : ∃ q, cI C + g = q + 1 := ⟨cI C + g - 1, by omega⟩
            rw [hq, pk_m1]
            rfl
          refine ih _ _ ⟨s2, cI C + g - 1, by omega, by omega, em, rfl, a1, fun t => ?_⟩ (by rw [em, nI_clamp (by omega), nI_clamp (by omega)]; omega)
          rw [a2 t]
          constructor
          · rintro (⟨q1, q2⟩ | ⟨i, q1, q2, q3⟩)
            · exact Or.inl ⟨by omega, q2⟩
            · exact Or.inr ⟨i, by omega, q2, q3⟩
          · rintro (⟨q1, q2⟩ | ⟨i, q1, q2, q3⟩)
            · exact Or.inl ⟨by omega, q2⟩
            · exact Or.inr ⟨i, by omega, q2, q3⟩
        have v12 : vp_in (nI g) 12 := pk_in g 12 (by omega) rfl
        refine ⟨fun e => ⟨v12, ?_⟩, fun e => ?_⟩
        · have hb : s.testBit (cI C + g) = true := by
            cases q : s.testBit (cI C + g) with
            | true => rfl
            | false =>
              rw [q] at e
              exact absurd rfl e
          rintro _ rfl
          refine ⟨v12, ?_⟩
          rintro _ rfl
          -- the set behind the first net, behind the second
          have fin : ∀ s1 : Nat, (∀ t, s1.testBit t = true ↔ s.testBit t = true ∨ (cO C g = t ∧ cI C ≤ cO C g)) → B_X9_dependence_84 (lN s1) (nI (cI C + g)) (tx (cT C g)) I L Q (fun v2 v4 => L_X9_dependence_17 I L Q z v2 v4) := by
            intro s1 h5
            have fin2 : ∀ s2 : Nat, (∀ t, s2.testBit t = true ↔ s1.testBit t = true ∨ (cT C g = t ∧ cI C ≤ cT C g ∧ cT C g ≠ 16)) → B_X9_dependence_100 (lN s2) (nI (cI C + g)) I L Q (fun v2 v4 => L_X9_dependence_17 I L Q z v2 v4) := by
              intro s2 h6
              have h7 : ∀ t, s2.testBit t = true ↔ s.testBit t = true ∨ (cO C g = t ∧ cI C ≤ cO C g) ∨ (cT C g = t ∧ cI C ≤ cT C g ∧ cT C g ≠ 16) := fun t => by rw [h6, h5, or_assoc]
              have d1 : ∀ t, (cD C (cO C g)).testBit t = true → cI C ≤ cO C g := fun t ht => by
                rcases Nat.lt_or_ge (cO C g) (cI C) with q | q
                · rw [cD_in hC q, Nat.zero_testBit] at ht
                  cases ht
                · exact q
              have d2 : cT C g ≠ 16 → ∀ t, (cD C (cT C g)).testBit t = true → cI C ≤ cT C g := fun _ t ht => by
                rcases Nat.lt_or_ge (cT C g) (cI C) with q | q
                · rw [cD_in hC q, Nat.zero_testBit] at ht
                  cases ht
                · exact q
              refine next s2 (fun t ht => ?_) (fun t => ?_)
              · rcases (h7 t).mp ht with q | ⟨q, q2⟩ | ⟨q, q2, q3⟩
                · exact h3 t q
                · omega
                · have := n2 q3
                  omega
              · rw [h4 t]
                constructor
                · rintro (⟨q1, q2⟩ | ⟨i, q1, q2, q3⟩)
                  · exact Or.inl ⟨by omega, (h7 t).mpr (Or.inl q2)⟩
                  · by_cases e1 : i < cI C + g
                    · exact Or.inr ⟨i, e1, (h7 i).mpr (Or.inl q2), q3⟩
                    · have e2 : i = cI C + g := by omega
                      subst e2
                      rw [cD_gb hC hg] at q3
                      simp only [Bool.or_eq_true, decide_eq_true_eq] at q3
                      rcases q3 with w | w | w
                      · subst w
                        exact Or.inl ⟨Nat.le_refl _, (h7 _).mpr (Or.inl q2)⟩
                      · exact Or.inr ⟨cO C g, n1, (h7 _).mpr (Or.inr (Or.inl ⟨rfl, d1 t w⟩)), w⟩
                      · split at w
                        · cases w
                        · rename_i y
                          exact Or.inr ⟨cT C g, n2 y, (h7 _).mpr (Or.inr (Or.inr ⟨rfl, d2 y t w, y⟩)), w⟩
                · have self : ∀ i, (cD C i).testBit t = true → i = cI C + g → (∃ i, i ≤ cI C + g ∧ s.testBit i = true ∧ (cD C i).testBit t = true) := fun i q e => ⟨i, by omega, by rw [e]; exact hb, q⟩
                  rintro (⟨q1, q2⟩ | ⟨i, q1, q2, q3⟩)
                  · by_cases e1 : cI C + g = t
                    · refine Or.inr (self (cI C + g) ?_ rfl)
                      rw [cD_gb hC hg, decide_eq_true e1]
                      rfl
                    · rcases (h7 t).mp q2 with w | ⟨w, w2⟩ | ⟨w, w2, w3⟩
                      · exact Or.inl ⟨by omega, w⟩
                      · omega
                      · have := n2 w3
                        omega
                  · rcases (h7 i).mp q2 with w | ⟨w, w2⟩ | ⟨w, w2, w3⟩
                    · exact Or.inr ⟨i, by omega, w, q3⟩
                    · refine Or.inr (self (cI C + g) ?_ rfl)
                      rw [cD_gb hC hg, w, q3]
                      simp
                    · refine Or.inr (self (cI C + g) ?_ rfl)
                      rw [cD_gb hC hg, if_neg w3, w, q3]
                      simp
            unfold B_X9_dependence_84
            rw [hM.1]
            by_cases et : cT C g = 16
            · rw [et, tx_16]
              have hlt : (-1 : Int32) < nI (cI C) := by
                rw [Int32.lt_iff_toInt_lt, nI_toInt (by omega), show (-1 : Int32).toInt = -1 from rfl]
                omega
              exact ⟨fun _ => fin2 s1 (fun t => ⟨fun q => Or.inl q, fun q => q.elim id (fun w => absurd et w.2.2)⟩), fun q => absurd hlt q⟩
            · have := n2 et
              rw [tx_n et]
              refine pk_lt (cT C g) (cI C) (fun q => fin2 s1 (fun t => ⟨fun q => Or.inl q, fun w => w.elim id (fun w => by omega)⟩)) (fun q => ?_) rfl rfl (by omega) (by omega)
              rintro _ rfl
              rw [or_shl1 _ (by omega)]
              refine fin2 _ (fun t => ?_)
              rw [or_tb, Bool.or_eq_true, decide_eq_true_eq]
              constructor
              · rintro (w | w)
                · exact Or.inl w
                · exact Or.inr ⟨w, q, et⟩
              · rintro (w | w)
                · exact Or.inl w
                · exact Or.inr w.1
          refine pk_lt (cO C g) (cI C) (fun q => fin s (fun t => ⟨fun q => Or.inl q, fun w => w.elim id (fun w => by omega)⟩)) (fun q => ?_) rfl rfl (by omega) (by omega)
          rintro _ rfl
          rw [or_shl1 _ (by omega)]
          refine fin _ (fun t => ?_)
          rw [or_tb, Bool.or_eq_true, decide_eq_true_eq]
          constructor
          · rintro (w | w)
            · exact Or.inl w
            · exact Or.inr ⟨w, q⟩
          · rintro (w | w)
            · exact Or.inl w
            · exact Or.inr w.1
        · have hb : s.testBit (cI C + g) = false := by
            cases q : s.testBit (cI C + g) with
            | false => rfl
            | true =>
              rw [q] at e
              exact absurd e (by decide)
          refine next s h3 (fun t => ?_)
          rw [h4 t]
          constructor
          · rintro (⟨q1, q2⟩ | ⟨i, q1, q2, q3⟩)
            · exact Or.inl ⟨by omega, q2⟩
            · by_cases e1 : i < cI C + g
              · exact Or.inr ⟨i, e1, q2, q3⟩
              · have e2 : i = cI C + g := by omega
                rw [e2, hb] at q2
                cases q2
          · rintro (⟨q1, q2⟩ | ⟨i, q1, q2, q3⟩)
            · by_cases e1 : cI C + g = t
              · rw [← e1, hb] at q2
                cases q2
              · exact Or.inl ⟨by omega, q2⟩
            · exact Or.inr ⟨i, by omega, q2, q3⟩
    · rw [Nat.testBit_two_pow, decide_eq_true_eq] at ht
      omega
    · constructor
      · intro q
        refine Or.inr ⟨n, Nat.le_refl _, by rw [Nat.testBit_two_pow]; simp, q⟩
      · rintro (⟨q1, q2⟩ | ⟨i, q1, q2, q3⟩)
        · rw [Nat.testBit_two_pow, decide_eq_true_eq] at q2
          omega
        · rw [Nat.testBit_two_pow, decide_eq_true_eq] at q2
          rw [q2]
          exact q3
  · rw [cD_in hC hc] at k
    exact k
