/-! the reference forgets; setDelay, toggle -/
section FORGETS
variable {I J : TI} {L M : TL} {b d B : Nat} {X : XT}
theorem fgR_F {r : RW} {T D : Nat → Bool} {k f : Nat} (hk : k < un (r 4)) (hf : f < 8) (h : f ≠ 6 ∨ D k = false) : dF (fgR r T D) k f = dF r k f := by
  unfold dF
  rw [fgR_d hk hf, if_neg]
  rintro ⟨a, c, _⟩
  rcases h with h | h
  · exact h a
  · rw [h] at c
    exact absurd c (by decide)
theorem m_forgets {Q : Int32 → TL → Prop} {C : CQ} {r : RW} {net : Nat} {x : Int32} (hM : MC I C) (hC : CV C) (hr : RV C B r) (hrow : L 437 = r) (hx : x = nI net) (hn : net < cI C + cG C)
    (k : ∀ M, sameL [437] L M → M 437 = fgF C r net → Q (nI (fgN C r net)) M) : W_X9_forgets x I L Q := by
  have hI := hC.1
  have hG := hC.2.1
  have hc := hr.2.2.1
  unfold W_X9_forgets
  refine s_touched hM hC hx hn ?_
  have bt : ∀ n, n < 64 → (shrL (lN (tcF C net)) (nI n) &&& 1 = 0 ↔ tcB C net n = false) := fun n h => by
    rw [shr1 _ h, bw_lN _ h, tcF_tb hC]
    cases tcB C net n <;> decide
  refine lp2 (fun n v l => L_X9_forgets_12 (lN (tcF C net)) 0 I Q n v l) (fun v l => ∃ j, j ≤ cG C ∧ v = nI j ∧ sameL [437] L l ∧ l 437 = fgR r (fun g => decide (g < j) && tcB C net (cI C + g)) (fun _ => false)) (fun v _ => cG C - v.toNatClampNeg) ?_ _ _ ⟨0, Nat.zero_le _, rfl, sameL.rf _ _, ?_⟩
  · rintro n v l ⟨j, j0, rfl, e, hl⟩ ih
    refine pk_le (cG C) j (fun q => ?_) (fun q => ?_) hM.2.1 rfl (by omega) (by omega)
    · have : j = cG C := by omega
      subst this
      have hl2 : l 437 = fgR r (fun g => tcB C net (cI C + g)) (fun _ => false) := by
        rw [hl]
        refine fgR_cg (fun g hg => ?_) (fun _ _ => rfl)
        by_cases z : g < cG C
        · rw [decide_eq_true z, Bool.true_and]
        · have : tcB C net (cI C + g) = false := by
            unfold tcB
            rw [decide_eq_false (by omega), Bool.false_and]
          rw [this, Bool.and_false]
      clear hl ih
      refine lp3 (fun n u v l => L_X9_forgets_82 (lN (tcF C net)) I Q n u v l) (fun u v l => ∃ m, m ≤ un (r 4) ∧ v = nI m ∧ u = nI (fb_ct (fun k => tcB C net (dN r k) && dP r k) m) ∧ sameL [437] L l ∧ l 437 = fgR r (fun g => tcB C net (cI C + g)) (fun k => decide (k < m) && tcB C net (dN r k))) (fun _ v _ => un (r 4) - v.toNatClampNeg) ?_ _ _ _ ⟨0, Nat.zero_le _, rfl, rfl, e, ?_⟩
      · rintro n u v l ⟨m, m0, rfl, rfl, e, hl⟩ ih
        have r4 : l 437 4 ≤ (nI m).toInt64 ↔ un (r 4) ≤ m := by
          rw [hl, fgR_lo (by omega), nI_l (by omega)]
          conv => lhs; rw [un_e (r 4)]
          exact lN_le (by omega) (by omega)
        refine ek_if r4 (fun q => ?_) (fun q => ?_)
        · have : m = un (r 4) := by omega
          subst this
          refine k l e ?_
          rw [hl]
          exact fgR_cg (fun _ _ => rfl) (fun k hk => by rw [decide_eq_true hk, Bool.true_and])
        · have q : m < un (r 4) := by omega
          obtain ⟨s1, s2, s3, s4, s5, s6, s7, s8, ⟨st, st1, st2⟩, s10⟩ := hr.ds hC q
          have hst : fb_ct (fun k => tcB C net (dN r k) && dP r k) (m + 1) = fb_ct (fun k => tcB C net (dN r k) && dP r k) m + (if (tcB C net (dN r m) && dP r m) = true then 1 else 0) := rfl
          have same : (tcB C net (dN r m) && dP r m) = false → B_X9_forgets_138 (lN (tcF C net)) (nI (fb_ct (fun k => tcB C net (dN r k) && dP r k) m)) (nI m) I l Q (fun v4 v5 L => L_X9_forgets_82 (lN (tcF C net)) I Q n v4 v5 L) := by
            intro y
            refine ih _ _ _ ⟨m + 1, by omega, nI_1 m, by rw [hst, y]; rfl, e, ?_⟩ (by rw [nI_1, nI_clamp (by omega), nI_clamp (by omega)]; omega)
            rw [hl]
            funext i
            unfold fgR
            by_cases a : 9 ≤ i ∧ i < 45
            · rw [if_pos a, if_pos a]
            · rw [if_neg a, if_neg a]
              by_cases z : (i - 81) / 8 = m
              · rw [z]
                rw [if_neg, if_neg]
                · rintro ⟨_, _, _, z1, z2⟩
                  rw [Bool.and_eq_true] at z1
                  rw [z1.2, z2] at y
                  exact absurd y (by decide)
                · rintro ⟨_, _, _, z1, z2⟩
                  rw [Bool.and_eq_true] at z1
                  rw [z1.2, z2] at y
                  exact absurd y (by decide)
              · have : (fun k => decide (k < m) && tcB C net (dN r k)) ((i - 81) / 8) = (fun k => decide (k < m + 1) && tcB C net (dN r k)) ((i - 81) / 8) := by
                  show (decide ((i - 81) / 8 < m) && _) = (decide ((i - 81) / 8 < m + 1) && _)
                  rw [show decide ((i - 81) / 8 < m + 1) = decide ((i - 81) / 8 < m) from decide_eq_decide.mpr (by omega)]
                rw [this]
          refine s_of (f := 0) hl rfl (by omega) rfl (by omega) ?_
          rw [fgR_F q (by omega) (Or.inl (by decide)), s3]
          refine ek_if (bt (dN r m) (by omega)) (fun z => same (by rw [z, Bool.false_and])) (fun z => s_of (f := 6) hl rfl (by omega) rfl (by omega) ?_)
          have t1 : tcB C net (dN r m) = true := by
            cases y : tcB C net (dN r m) with
            | true => rfl
            | false => exact absurd y z
          rw [fgR_F q (by omega) (Or.inr (by show (decide (m < m) && _) = false; rw [decide_eq_false (Nat.lt_irrefl m), Bool.false_and]))]
          refine pk_le st 1 (fun q1 => ?_) (fun q1 => ?_) st2 rfl (by omega) (by omega)
          · have y : dP r m = true := dP_of.mpr (by
              rw [st2]
              have : st = 0 ∨ st = 1 := by omega
              rcases this with rfl | rfl
              · exact Or.inl rfl
              · exact Or.inr rfl)
            refine s_sets rfl (show m < 20 by omega) (f := 6) rfl (by omega) ?_
            refine ih _ _ _ ⟨m + 1, by omega, nI_1 m, by rw [hst, t1, y]; exact nI_1 _, e.up in1, ?_⟩ (by rw [nI_1, nI_clamp (by omega), nI_clamp (by omega)]; omega)
            rw [upR_row, hl, show (4 : Int32).toInt64 = lN 4 from rfl]
            refine fgR_k q y (fun k hk => ?_)
            show (decide (k < m + 1) && tcB C net (dN r k)) = ((decide (k < m) && tcB C net (dN r k)) || k == m)
            by_cases z2 : k = m
            · subst z2
              rw [t1, beq_self_eq_true, Bool.or_true, decide_eq_true (Nat.lt_succ_self k)]
              rfl
            · rw [show decide (k < m + 1) = decide (k < m) from decide_eq_decide.mpr (by omega), show (k == m) = false from by rw [beq_eq_false_iff_ne]; exact z2, Bool.or_false]
          · refine same ?_
            have : dP r m = false := by
              cases y : dP r m with
              | false => rfl
              | true =>
                have := dP_of.mp y
                rw [st2] at this
                rcases this with z2 | z2
                · have := (nI_eq (a := st) (b := 0) (by omega) (by omega)).mp z2
                  omega
                · have := (nI_eq (a := st) (b := 1) (by omega) (by omega)).mp z2
                  omega
            rw [this, Bool.and_false]
      · rw [hl2]
        exact fgR_cg (fun _ _ => rfl) (fun k hk => by rw [decide_eq_false (Nat.not_lt_zero k), Bool.false_and])
    · have eI : I 436 10 + nI j = nI (cI C + j) := by rw [hM.1, nI_add]
      rw [eI]
      have nx : ∀ M2, sameL [437] L M2 → M2 437 = fgR r (fun g => decide (g < j + 1) && tcB C net (cI C + g)) (fun _ => false) → L_X9_forgets_12 (lN (tcF C net)) 0 I Q n (nI j + 1) M2 := fun M2 h1 h2 => ih _ _ ⟨j + 1, by omega, nI_1 j, h1, h2⟩ (by rw [nI_1, nI_clamp (by omega), nI_clamp (by omega)]; omega)
      have bj := bt (cI C + j) (by omega)
      refine ⟨fun z => ?_, fun z => ?_⟩
      · have t1 : tcB C net (cI C + j) = true := by
          cases y : tcB C net (cI C + j) with
          | true => rfl
          | false => exact absurd (bj.mpr y) z
        have e9 : (9 : Int32) + nI j = nI (9 + j) := nI_add 9 j
        have e21 : (21 : Int32) + nI j = nI (21 + j) := nI_add 21 j
        have e33 : (33 : Int32) + nI j = nI (33 + j) := nI_add 33 j
        rw [pk_cl _ e9 (by omega), pk_cl _ e21 (by omega), pk_cl _ e33 (by omega)]
        refine ⟨pk_in _ 241 (by omega) e9, pk_in _ 241 (by omega) e21, ?_⟩
        rintro _ rfl
        refine ⟨pk_in _ 241 (by omega) e33, nx _ (((e.up in1).up in1).up in1) ?_⟩
        rw [upR_row, upR_row, upR_row, hl]
        refine fgR_g (by omega) (fun g hg => ?_)
        show (decide (g < j + 1) && tcB C net (cI C + g)) = ((decide (g < j) && tcB C net (cI C + g)) || g == j)
        by_cases z2 : g = j
        · subst z2
          rw [t1, beq_self_eq_true, Bool.or_true, decide_eq_true (Nat.lt_succ_self g)]
          rfl
        · rw [show decide (g < j + 1) = decide (g < j) from decide_eq_decide.mpr (by omega), show (g == j) = false from by rw [beq_eq_false_iff_ne]; exact z2, Bool.or_false]
      · have t0 := bj.mp z
        refine nx l e ?_
        rw [hl]
        refine fgR_cg (fun g hg => ?_) (fun _ _ => rfl)
        by_cases z2 : g = j
        · subst z2
          rw [t0, Bool.and_false, Bool.and_false]
        · rw [show decide (g < j + 1) = decide (g < j) from decide_eq_decide.mpr (by omega)]
  · rw [hrow]
    exact (fgR_0 (fun g hg => by rw [decide_eq_false (Nat.not_lt_zero g), Bool.false_and]) (fun _ _ => rfl)).symm
end FORGETS
