/-! touched, touchedBy; price -/
def rtB (C : CQ) (net m : Nat) : Bool := if net < cI C then decide (cI C ≤ m) && (decide (cO C (m - cI C) = net) || decide (cT C (m - cI C) = net)) else decide (m = net)
def tcB (C : CQ) (net n : Nat) : Bool := decide (cI C ≤ n ∧ n < cI C + cG C) && (List.range (cI C + cG C)).any (fun m => (cD C n).testBit m && rtB C net m)
def tcF (C : CQ) (net : Nat) : Nat := mkn (tcB C net) 16
theorem tcB_iff {C : CQ} {net n : Nat} : tcB C net n = true ↔ (cI C ≤ n ∧ n < cI C + cG C) ∧ ∃ m, m < cI C + cG C ∧ (cD C n).testBit m = true ∧ rtB C net m = true := by
  unfold tcB
  rw [Bool.and_eq_true, decide_eq_true_eq, List.any_eq_true]
  constructor
  · rintro ⟨a, m, hm, h⟩
    rw [Bool.and_eq_true] at h
    exact ⟨a, m, List.mem_range.mp hm, h⟩
  · rintro ⟨a, m, hm, h⟩
    exact ⟨a, m, List.mem_range.mpr hm, by rw [Bool.and_eq_true]; exact h⟩
theorem tcF_tb {C : CQ} (hC : CV C) (net t : Nat) : (tcF C net).testBit t = tcB C net t := by
  have := hC.1
  have := hC.2.1
  unfold tcF
  by_cases h : t < 16
  · exact mkn_tb _ _ _ h
  · rw [Nat.testBit_lt_two_pow (Nat.lt_of_lt_of_le (mkn_lt _ 16) (Nat.pow_le_pow_right (by decide) (by omega)))]
    unfold tcB
    rw [decide_eq_false (by omega), Bool.false_and]
theorem tcF_lt (C : CQ) (net : Nat) : tcF C net < 2 ^ 16 := mkn_lt _ _
theorem tx_eq {n m : Nat} (hn : n ≤ 16) (hm : m < 16) : tx n = nI m ↔ n = m := by
  by_cases h : n = 16
  · subst h
    rw [tx_16]
    exact ⟨fun e => absurd e.symm (nI_nm1 (by omega)), fun e => by omega⟩
  · rw [tx_n h]
    exact nI_eq (by omega) (by omega)
theorem CV.t16 {C : CQ} (hC : CV C) {g : Nat} (hg : g < cG C) : cT C g ≤ 16 := by
  obtain ⟨n1, n2, n3, n4⟩ := hC.net hg
  by_cases e : cT C g = 16
  · omega
  · have := n2 e
    omega
theorem bit1 (w : Int64) {t : Nat} (ht : t < 64) : (shrL w (nI t) &&& 1) = 1 ↔ bw w t = true := by
  rw [shr1 w ht]
  cases bw w t <;> decide
theorem s_hasNet9 {I : TI} {L : TL} {Q : Int32 → Prop} {C : CQ} {g net : Nat} {x y : Int32} (hM : MC I C) (hC : CV C) (hx : x = nI (cI C + g)) (hg : g < cG C) (hy : y = nI net) (hn : net < 16) (h1 : (cO C g = net ∨ cT C g = net) → Q 1) (h0 : ¬ (cO C g = net ∨ cT C g = net) → Q 0) : W_X9_hasNet x y I L Q := by
  subst hx; subst hy
  have := hC.2.1
  obtain ⟨n1, n2, n3, n4⟩ := hC.net hg
  obtain ⟨g1, g2, g3⟩ := hM.2.2.2.2.2 g hg
  unfold W_X9_hasNet
  rw [hM.1, pk_sub (Nat.le_add_right _ _), Nat.add_sub_cancel_left, pk_cl g rfl (by omega), g2, g3]
  have v12 : vp_in (nI g) 12 := pk_in g 12 (by omega) rfl
  have eo : nI (cO C g) = nI net ↔ cO C g = net := nI_eq (by omega) (by omega)
  have et : tx (cT C g) = nI net ↔ cT C g = net := tx_eq (hC.t16 hg) hn
  refine ⟨v12, fun e => h1 (Or.inl (eo.mp e)), fun e => ⟨v12, fun e2 => h0 ?_, fun e2 => h1 (Or.inr (et.mp e2))⟩⟩
  rintro (q | q)
  · exact e (eo.mpr q)
  · exact e2 (et.mpr q)
theorem s_touched {I : TI} {L : TL} {Q : Int64 → Prop} {C : CQ} {net : Nat} {x : Int32} (hM : MC I C) (hC : CV C) (hx : x = nI net) (hn : net < cI C + cG C) (k : Q (lN (tcF C net))) : W_X9_touched x I L Q := by
  subst hx
  have hI := hC.1
  have hG := hC.2.1
  unfold W_X9_touched
  rw [hM.1]
  refine lp2 (fun z u v => L_X9_touched_8 (nI net) I L Q z u v) (fun u v => ∃ s j, cI C ≤ j ∧ j ≤ cI C + cG C ∧ v = nI j ∧ u = lN s ∧ ∀ t, s.testBit t = (decide (t < j) && tcB C net t)) (fun _ v => cI C + cG C - v.toNatClampNeg) ?_ _ _ ⟨0, cI C, Nat.le_refl _, by omega, rfl, rfl, fun t => ?_⟩
  · rintro z u v ⟨s, j, h1, h2, rfl, rfl, h3⟩ ih
    show D_X9_touched_8 (nI net) I L Q _ (lN s) (nI j)
    unfold D_X9_touched_8
    refine s_nets9 hM ?_
    refine pk_le (cI C + cG C) j (fun hc => ?_) (fun hc => ?_) rfl rfl (by omega) (by omega)
    · have e : s = tcF C net := by
        apply Nat.eq_of_testBit_eq
        intro t
        rw [h3, tcF_tb hC]
        by_cases q : t < j
        · rw [decide_eq_true q, Bool.true_and]
        · have : tcB C net t = false := by
            unfold tcB
            rw [decide_eq_false (by omega), Bool.false_and]
          rw [this, Bool.and_false]
      rw [e]
      exact k
    · refine s_dep hM hC rfl hc ?_
      have fin : ∀ (b : Bool) (v7 : Int32), v7 = bi b → b = tcB C net j → B_X9_touched_114 (nI net) (lN s) (nI j) v7 I L Q (fun v2 v4 => L_X9_touched_8 (nI net) I L Q z v2 v4) := by
        rintro b v7 rfl hb
        have nx : ∀ s2 : Nat, (∀ t, s2.testBit t = (decide (t < j + 1) && tcB C net t)) → L_X9_touched_8 (nI net) I L Q z (lN s2) (nI j + 1) := by
          intro s2 h4
          exact ih _ _ ⟨s2, j + 1, by omega, by omega, nI_1 j, rfl, h4⟩ (by rw [nI_1, nI_clamp (by omega), nI_clamp (by omega)]; omega)
        refine ⟨fun e => ?_, fun e => ?_⟩
        · rw [bi_0] at e
          unfold B_X9_touched_128
          rw [show (0 : Int64) = lN 0 from rfl, fb_orL, Nat.or_zero]
          refine nx s (fun t => ?_)
          rw [h3]
          by_cases q : t = j
          · subst q
            rw [← hb, e]
            simp
          · congr 1
            exact decide_eq_decide.mpr (by omega)
        · rw [bi_0, Bool.not_eq_false] at e
          unfold B_X9_touched_128
          rw [or_shl1 s (by omega)]
          refine nx _ (fun t => ?_)
          rw [or_tb, h3]
          by_cases q : j = t
          · subst q
            rw [← hb, e]
            simp
          · rw [decide_eq_false q, Bool.or_false]
            congr 1
            exact decide_eq_decide.mpr (by omega)
      refine ⟨fun hc2 => ?_, fun hc2 => ?_⟩
      · rw [hM.1, nI_ltI (by omega) (by omega)] at hc2
        unfold B_X9_touched_48 B_X9_touched_49
        rw [hM.1]
        refine lp2 (fun w a c => L_X9_touched_57 (nI net) (lN s) (nI j) (lN (cD C j)) I L Q (fun v2 v4 => L_X9_touched_8 (nI net) I L Q z v2 v4) w a c) (fun a c => ∃ (b : Bool) (m : Nat), cI C ≤ m ∧ m ≤ cI C + cG C ∧ c = nI m ∧ a = bi b ∧ (b = true ↔ ∃ i, i < m ∧ (cD C j).testBit i = true ∧ rtB C net i = true)) (fun _ c => cI C + cG C - c.toNatClampNeg) ?_ _ _ ⟨false, cI C, Nat.le_refl _, by omega, rfl, rfl, ?_⟩
        · rintro w a c ⟨b, m, m1, m2, rfl, rfl, m3⟩ ih2
          show D_X9_touched_57 (nI net) (lN s) (nI j) (lN (cD C j)) I L Q _ _ (bi b) (nI m)
          unfold D_X9_touched_57
          refine s_nets9 hM ?_
          refine pk_le (cI C + cG C) m (fun hc3 => ?_) (fun hc3 => ?_) rfl rfl (by omega) (by omega)
          · refine fin b _ rfl ?_
            rw [Bool.eq_iff_iff, m3, tcB_iff, show m = cI C + cG C by omega]
            exact ⟨fun q => ⟨⟨h1, hc⟩, q⟩, fun q => q.2⟩
          · rw [hM.1]
            refine ⟨fun e => absurd e (nI_ge hc2 (by omega)), fun _ => ?_⟩
            have nx : ∀ b2 : Bool, (b2 = true ↔ ∃ i, i < m + 1 ∧ (cD C j).testBit i = true ∧ rtB C net i = true) → ∀ a2 : Int32, a2 = bi b2 → B_X9_touched_106 (nI net) (lN s) (nI j) (lN (cD C j)) (nI m) a2 I L Q (fun v2 v4 => L_X9_touched_8 (nI net) I L Q z v2 v4) (fun v7 v8 => L_X9_touched_57 (nI net) (lN s) (nI j) (lN (cD C j)) I L Q (fun v2 v4 => L_X9_touched_8 (nI net) I L Q z v2 v4) w v7 v8) := by
              rintro b2 hb2 a2 rfl
              exact ih2 _ _ ⟨b2, m + 1, by omega, by omega, nI_1 m, rfl, hb2⟩ (by rw [nI_1, nI_clamp (by omega), nI_clamp (by omega)]; omega)
            obtain ⟨g, rfl⟩ : ∃ g, m = cI C + g := ⟨m - cI C, by omega⟩
            have hg : g < cG C := by omega
            have rtm : rtB C net (cI C + g) = true ↔ (cO C g = net ∨ cT C g = net) := by
              unfold rtB
              rw [if_pos hc2, Nat.add_sub_cancel_left, Bool.and_eq_true, Bool.or_eq_true, decide_eq_true_eq, decide_eq_true_eq, decide_eq_true_eq]
              exact ⟨fun q => q.2, fun q => ⟨by omega, q⟩⟩
            refine ⟨fun e => ?_, fun e => ?_⟩
            · rw [bi_0, Bool.not_eq_false] at e
              refine nx true ⟨fun _ => ?_, fun _ => rfl⟩ _ rfl
              obtain ⟨i, i1, i2⟩ := m3.mp e
              exact ⟨i, by omega, i2⟩
            · rw [bi_0] at e
              subst e
              have no : ¬ ((cD C j).testBit (cI C + g) = true ∧ rtB C net (cI C + g) = true) → (false = true ↔ ∃ i, i < cI C + g + 1 ∧ (cD C j).testBit i = true ∧ rtB C net i = true) := by
                intro q
                refine ⟨fun e => absurd e (by decide), ?_⟩
                rintro ⟨i, i1, i2⟩
                by_cases y : i = cI C + g
                · exact absurd (y ▸ i2) q
                · exact m3.mpr ⟨i, by omega, i2⟩
              refine ⟨fun e => ?_, fun e => ?_⟩
              · rw [bit1 _ (by omega), bw_lN _ (by omega)] at e
                exact nx false (no (fun q => e q.1)) _ rfl
              · rw [bit1 _ (by omega), bw_lN _ (by omega)] at e
                refine s_hasNet9 hM hC rfl hg rfl (by omega) (fun q => ⟨fun e2 => absurd e2 (by decide), fun _ => ?_⟩) (fun q => ⟨fun _ => ?_, fun e2 => absurd rfl e2⟩)
                · exact nx true ⟨fun _ => ⟨cI C + g, by omega, e, rtm.mpr q⟩, fun _ => rfl⟩ _ rfl
                · exact nx false (no (fun y => q (rtm.mp y.2))) _ rfl
        · refine ⟨fun e => absurd e (by decide), ?_⟩
          rintro ⟨i, i1, i2, -⟩
          have := cD_bit hC j hc i i2
          omega
      · rw [hM.1, nI_ltI (by omega) (by omega)] at hc2
        have rtm : ∀ m, rtB C net m = true ↔ m = net := by
          intro m
          unfold rtB
          rw [if_neg hc2, decide_eq_true_eq]
        have tcm : tcB C net j = (cD C j).testBit net := by
          rw [Bool.eq_iff_iff, tcB_iff]
          constructor
          · rintro ⟨_, m, m1, m2, m3⟩
            rw [rtm] at m3
            rw [← m3]
            exact m2
          · intro q
            exact ⟨⟨h1, hc⟩, net, hn, q, (rtm net).mpr rfl⟩
        have run : ∀ (a : Int32), a = bi ((cD C j).testBit net) → B_X9_touched_49 (nI net) (lN s) (nI j) (lN (cD C j)) a I L Q (fun v2 v4 => L_X9_touched_8 (nI net) I L Q z v2 v4) := by
          intro a ha
          unfold B_X9_touched_49
          refine ⟨1, ?_⟩
          show D_X9_touched_57 (nI net) (lN s) (nI j) (lN (cD C j)) I L Q _ _ a (I 436 10)
          unfold D_X9_touched_57
          refine s_nets9 hM ?_
          have ff := fin _ a ha tcm.symm
          refine ⟨fun _ => ff, fun _ => ⟨fun _ => ff, fun q => ?_⟩⟩
          rw [hM.1] at q
          exact absurd (nI_le (Nat.not_lt.mp hc2) (by omega)) q
        refine ⟨fun e => ?_, fun e => ?_⟩
        · rw [bit1 _ (by omega), bw_lN _ (by omega), Bool.not_eq_true] at e
          exact run 0 (by rw [e]; rfl)
        · rw [bit1 _ (by omega), bw_lN _ (by omega)] at e
          exact run 1 (by rw [e]; rfl)
  · rw [Nat.zero_testBit]
    by_cases q : t < cI C
    · have : tcB C net t = false := by
        unfold tcB
        rw [decide_eq_false (by omega), Bool.false_and]
      rw [this, Bool.and_false]
    · rw [decide_eq_false q, Bool.false_and]
theorem shI1 {k : Nat} (hk : k < 31) : (1 : Int32) <<< (nI k &&& 31) = nI (2 ^ k) := by
  have h : ∀ n, n < 32 → ((nI n &&& 31).toBitVec.smod 32).toNat = n := by decide +kernel
  have := pk_shlN (n := 1) (nI k &&& 31) k (h k (by omega)) (by rw [Nat.one_mul]; exact Nat.pow_lt_pow_right (by decide) (by omega))
  rw [Nat.one_mul] at this
  exact this
theorem or_shI (s : Nat) {k : Nat} (hk : k < 31) : nI s ||| (1 : Int32) <<< (nI k &&& 31) = nI (s ||| 2 ^ k) := by rw [shI1 hk, nI_or]
theorem s_readersOf {I : TI} {L : TL} {Q : Int32 → Prop} {C : CQ} {c net : Nat} {x : Int32} (h : CC I c C) (hC : CV C) (hx : x = nI net) (hn : net < cI C) (k : ∀ s, (∀ t, s.testBit t = (decide (t < cI C + cG C) && rtB C net t)) → Q (nI s)) : W_X2_readersOf c x I L Q := by
  subst hx
  have hI := hC.1
  have hG := hC.2.1
  unfold W_X2_readersOf
  rw [h.1]
  refine lp2 (fun z u v => L_X2_readersOf_7 c (nI net) I L Q z u v) (fun u v => ∃ s j, cI C ≤ j ∧ j ≤ cI C + cG C ∧ v = nI j ∧ u = nI s ∧ ∀ t, s.testBit t = (decide (t < j) && rtB C net t)) (fun _ v => cI C + cG C - v.toNatClampNeg) ?_ _ _ ⟨0, cI C, Nat.le_refl _, by omega, rfl, rfl, fun t => ?_⟩
  · rintro z u v ⟨s, j, h1, h2, rfl, rfl, h3⟩ ih
    show D_X2_readersOf_7 c (nI net) I L Q _ (nI s) (nI j)
    unfold D_X2_readersOf_7
    refine s_nets2 h ?_
    refine pk_le (cI C + cG C) j (fun hc => ?_) (fun hc => ?_) rfl rfl (by omega) (by omega)
    · have : j = cI C + cG C := by omega
      subst this
      exact k s h3
    · obtain ⟨g, rfl⟩ : ∃ g, j = cI C + g := ⟨j - cI C, by omega⟩
      have hg : g < cG C := by omega
      obtain ⟨n1, n2, n3, n4⟩ := hC.net hg
      obtain ⟨g1, g2, g3⟩ := h.2.2.2.2.2.1 g hg
      rw [pk_cl (cI C + g) rfl (by omega), g2, g3]
      have vn : vp_in (nI (cI C + g)) 16 := pk_in _ 16 n4 rfl
      have eo : nI (cO C g) = nI net ↔ cO C g = net := nI_eq (by omega) (by omega)
      have et : tx (cT C g) = nI net ↔ cT C g = net := tx_eq (hC.t16 hg) (by omega)
      have rtm : rtB C net (cI C + g) = true ↔ (cO C g = net ∨ cT C g = net) := by
        unfold rtB
        rw [if_pos hn, Nat.add_sub_cancel_left, Bool.and_eq_true, Bool.or_eq_true, decide_eq_true_eq, decide_eq_true_eq, decide_eq_true_eq]
        exact ⟨fun q => q.2, fun q => ⟨by omega, q⟩⟩
      have yes : (cO C g = net ∨ cT C g = net) → B_X2_readersOf_35 c (nI net) (nI s) (nI (cI C + g)) I L Q (fun v2 v3 => L_X2_readersOf_7 c (nI net) I L Q z v2 v3) := by
        intro q
        rintro _ rfl
        rw [or_shI s (by omega)]
        refine ih _ _ ⟨_, cI C + g + 1, by omega, by omega, nI_1 _, rfl, fun t => ?_⟩ (by rw [nI_1, nI_clamp (by omega), nI_clamp (by omega)]; omega)
        rw [or_tb, h3]
        by_cases y : cI C + g = t
        · subst y
          rw [rtm.mpr q]
          simp
        · rw [decide_eq_false y, Bool.or_false]
          congr 1
          exact decide_eq_decide.mpr (by omega)
      refine ⟨vn, fun e => yes (Or.inl (eo.mp e)), fun e => ⟨vn, fun e2 => ?_, fun e2 => yes (Or.inr (et.mp e2))⟩⟩
      have q : ¬ (cO C g = net ∨ cT C g = net) := by
        rintro (q | q)
        · exact e (eo.mpr q)
        · exact e2 (et.mpr q)
      refine ih _ _ ⟨s, cI C + g + 1, by omega, by omega, nI_1 _, rfl, fun t => ?_⟩ (by rw [nI_1, nI_clamp (by omega), nI_clamp (by omega)]; omega)
      rw [h3]
      by_cases y : t = cI C + g
      · subst y
        have : rtB C net (cI C + g) = false := by
          rw [← Bool.not_eq_true, rtm]
          exact q
        rw [this]
        simp
      · congr 1
        exact decide_eq_decide.mpr (by omega)
  · rw [Nat.zero_testBit]
    by_cases q : t < cI C
    · have : rtB C net t = false := by
        unfold rtB
        rw [if_pos hn, decide_eq_false (by omega), Bool.false_and]
      rw [this, Bool.and_false]
    · rw [decide_eq_false q, Bool.false_and]
theorem and_ne0 {a b : Nat} : a &&& b ≠ 0 ↔ ∃ m, a.testBit m = true ∧ b.testBit m = true := by
  constructor
  · intro h
    obtain ⟨m, hm⟩ := Nat.exists_testBit_of_ne_zero h
    rw [Nat.testBit_and, Bool.and_eq_true] at hm
    exact ⟨m, hm⟩
  · rintro ⟨m, h1, h2⟩ e
    have : (a &&& b).testBit m = true := by rw [Nat.testBit_and, h1, h2]; rfl
    rw [e, Nat.zero_testBit] at this
    cases this
theorem s_touchedBy {I : TI} {L : TL} {Q : Int32 → Prop} {C : CQ} {c net : Nat} {x : Int32} (h : CC I c C) (hC : CV C) (hx : x = nI net) (hn : net < cI C + cG C) (k : Q (nI (tcF C net))) : W_X2_touchedBy c x I L Q := by
  subst hx
  have hI := hC.1
  have hG := hC.2.1
  have main : ∀ s, (∀ t, t < cI C + cG C → s.testBit t = rtB C net t) → B_X2_touchedBy_19 c (nI s) I L Q := by
    intro s hs
    unfold B_X2_touchedBy_19
    rw [h.1]
    refine lp2 (fun z u v => L_X2_touchedBy_28 c (nI s) I L Q z u v) (fun u v => ∃ s2 j, cI C ≤ j ∧ j ≤ cI C + cG C ∧ v = nI j ∧ u = nI s2 ∧ ∀ t, s2.testBit t = (decide (t < j) && tcB C net t)) (fun _ v => cI C + cG C - v.toNatClampNeg) ?_ _ _ ⟨0, cI C, Nat.le_refl _, by omega, rfl, rfl, fun t => ?_⟩
    · rintro z u v ⟨s2, j, h1, h2, rfl, rfl, h3⟩ ih
      show D_X2_touchedBy_28 c (nI s) I L Q _ (nI s2) (nI j)
      unfold D_X2_touchedBy_28
      refine s_nets2 h ?_
      refine pk_le (cI C + cG C) j (fun hc => ?_) (fun hc => ?_) rfl rfl (by omega) (by omega)
      · have e : s2 = tcF C net := by
          apply Nat.eq_of_testBit_eq
          intro t
          rw [h3, tcF_tb hC]
          by_cases q : t < j
          · rw [decide_eq_true q, Bool.true_and]
          · have : tcB C net t = false := by
              unfold tcB
              rw [decide_eq_false (by omega), Bool.false_and]
            rw [this, Bool.and_false]
        rw [e]
        exact k
      · have vn : vp_in (nI j) 16 := pk_in _ 16 (by omega) rfl
        have hz : cD C j &&& s < 2 ^ 32 := Nat.lt_of_le_of_lt Nat.and_le_left (Nat.lt_trans (cD_lt hC hc) (by decide))
        have key : cD C j &&& s ≠ 0 ↔ tcB C net j = true := by
          rw [and_ne0, tcB_iff]
          constructor
          · rintro ⟨m, m1, m2⟩
            have := cD_bit hC j hc m m1
            exact ⟨⟨h1, hc⟩, m, by omega, m1, by rw [← hs m (by omega)]; exact m2⟩
          · rintro ⟨_, m, m0, m1, m2⟩
            exact ⟨m, m1, by rw [hs m m0]; exact m2⟩
        rw [pk_cl j rfl (by omega), h.2.2.2.2.2.2 j hc, nI_and, nI_z hz]
        have nx : ∀ s3 : Nat, (∀ t, s3.testBit t = (decide (t < j + 1) && tcB C net t)) → L_X2_touchedBy_28 c (nI s) I L Q z (nI s3) (nI j + 1) := by
          intro s3 h4
          exact ih _ _ ⟨s3, j + 1, by omega, by omega, nI_1 j, rfl, h4⟩ (by rw [nI_1, nI_clamp (by omega), nI_clamp (by omega)]; omega)
        refine ⟨vn, fun e => nx s2 (fun t => ?_), fun e => ?_⟩
        · have hb : tcB C net j = false := by
            rw [← Bool.not_eq_true, ← key]
            exact fun q => q e
          rw [h3]
          by_cases q : t = j
          · subst q
            rw [hb]
            simp
          · congr 1
            exact decide_eq_decide.mpr (by omega)
        · have hb := key.mp e
          rintro _ rfl
          rw [or_shI s2 (by omega)]
          refine nx _ (fun t => ?_)
          rw [or_tb, h3]
          by_cases q : j = t
          · subst q
            rw [hb]
            simp
          · rw [decide_eq_false q, Bool.or_false]
            congr 1
            exact decide_eq_decide.mpr (by omega)
    · rw [Nat.zero_testBit]
      by_cases q : t < cI C
      · have : tcB C net t = false := by
          unfold tcB
          rw [decide_eq_false (by omega), Bool.false_and]
        rw [this, Bool.and_false]
      · rw [decide_eq_false q, Bool.false_and]
  unfold W_X2_touchedBy
  refine s_hasGate h hC (fun e => ⟨fun q => absurd q (by decide), fun _ => ?_⟩) (fun e => ⟨fun _ => ?_, fun q => absurd rfl q⟩)
  · obtain ⟨n, n1, n2, n3⟩ := e
    have := (nI_eq (by omega) (by omega)).mp n3
    subst this
    rw [shI1 (by omega)]
    refine main _ (fun t ht => ?_)
    unfold rtB
    rw [if_neg (by omega), Nat.testBit_two_pow]
    exact decide_eq_decide.mpr eq_comm
  · have hlt : net < cI C := by
      rcases Nat.lt_or_ge net (cI C) with q | q
      · exact q
      · exact absurd (rgi q hn) e
    refine s_readersOf h hC rfl hlt (fun s hs => main s (fun t ht => ?_))
    rw [hs, decide_eq_true ht, Bool.true_and]
/-- price and cost -/
def prF (C : CQ) (n : Nat) (from0 to0 : Int32) : Int32 := nI (cR C) * ((to0 - from0) + 1) * nI (fb_ct (cD C n).testBit 32)
theorem ct_64 {m : Nat} (h : m < 2 ^ 16) : pcn m = fb_ct m.testBit 32 := by
  unfold pcn
  have := fb_ct_split m.testBit 32 32
  rw [show 32 + 32 = 64 from rfl] at this
  rw [this, show fb_ct (fun k => m.testBit (32 + k)) 32 = 0 from fb_ct_zero.mpr (fun i _ => Nat.testBit_lt_two_pow (Nat.lt_of_lt_of_le h (Nat.pow_le_pow_right (by decide) (by omega)))), Nat.add_zero]
theorem s_cone {I : TI} {L : TL} {Q : Int32 → Prop} {C : CQ} {c n : Nat} {x : Int32} (h : CC I c C) (hC : CV C) (hx : x = nI n) (hn : n < cI C + cG C) (k : Q (nI (fb_ct (cD C n).testBit 32))) : W_X2_cone c x I L Q := by
  subst hx
  have hI := hC.1
  have hG := hC.2.1
  unfold W_X2_cone
  rw [pk_cl n rfl (by omega), h.2.2.2.2.2.2 n hn]
  exact ⟨pk_in n 16 (by omega) rfl, s_bcI rfl (Nat.lt_trans (cD_lt hC hn) (by decide)) k⟩
theorem s_price {I : TI} {L : TL} {Q : Int32 → Prop} {C : CQ} {b n : Nat} {x y z : Int32} (h : CC I (b + 1) C) (hC : CV C) (hx : x = nI n) (hn : n < cI C + cG C) (k : Q (prF C n y z)) : W_X0_price b x y z I L Q := by
  unfold W_X0_price
  refine s_cone h hC hx hn ?_
  rw [h.2.2.2.1]
  exact k
theorem s_costOf {I : TI} {L : TL} {Q : Int32 → Prop} {C : CQ} {n : Nat} {x y z : Int32} (hM : MC I C) (hC : CV C) (hx : x = nI n) (hn : n < cI C + cG C) (k : Q (prF C n y z)) : W_X9_costOf x y z I L Q := by
  unfold W_X9_costOf
  refine s_dep hM hC hx hn (s_ones ?_)
  rw [hM.2.2.2.1, pc_lN, ct_64 (cD_lt hC hn)]
  exact k
