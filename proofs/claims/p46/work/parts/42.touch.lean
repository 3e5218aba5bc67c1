/-! touched, touchedBy; price -/
def rtB (C : CQ) (net m : Nat) : Bool := if net < cI C then decide (cI C ≤ m) && (decide (cO C (m - cI C) = net) || decide (cT C (m - cI C) = net)) else decide (m = net)
def tcB (C : CQ) (net n : Nat) : Bool := decide (cI C ≤ n ∧ n < cI C + cG C) && (List.range (cI C + cG C)).any (fun m => (cD C n).testBit m && rtB C net m)
def tcF (C : CQ) (net : Nat) : Nat := mkn (tcB C net) 16
theorem tcB_iff {C : CQ} {net n : Nat} : tcB C net n = true ↔ (cI C ≤ n ∧ n < cI C + cG C) ∧ ∃ m, m < cI C + cG C ∧ (cD C n).testBit m = true ∧ rtB C net m = true := by
  unfold tcB
  rw [Bool.and_eq_true, decide_eq_true_eq, List.any_eq_true]
  constructor
  · rintro ⟨a, m, hm, h⟩
    rw [Bool.and_eq_true] at h
    exact ⟨a, m, List.mem_range.mp hm, h⟩
  · rintro ⟨a, m, hm, h⟩
    exact ⟨a, m, List.mem_range.mpr hm, by rw [Bool.and_eq_true]; exact h⟩
theorem tcF_tb {C : CQ} (hC : CV C) (net t : Nat) : (tcF C net).testBit t = tcB C net t := by
  have := hC.1
  have := hC.2.1
  unfold tcF
  by_cases h : t < 16
  · exact mkn_tb _ _ _ h
  · rw [Nat.testBit_lt_two_pow (Nat.lt_of_lt_of_le (mkn_lt _ 16) (Nat.pow_le_pow_right (by decide) (by omega)))]
    unfold tcB
    rw [decide_eq_false (by omega), Bool.false_and]
theorem tcF_lt (C : CQ) (net : Nat) : tcF C net < 2 ^ 16 := mkn_lt _ _
theorem tx_eq {n m : Nat} (hn : n ≤ 16) (hm : m < 16) : tx n = nI m ↔ n = m := by
  by_cases h : n = 16
  · subst h
    rw [tx_16]
    exact ⟨fun e => absurd e.symm (nI_nm1 (by omega)), fun e => by omega⟩
  · rw [tx_n h]
    exact nI_eq (by omega) (by omega)
theorem CV.t16 {C : CQ} (hC : CV C) {g : Nat} (hg : g < cG C) : cT C g ≤ 16 := by
  obtain ⟨n1, n2, n3, n4⟩ := hC.net hg
  by_cases e : cT C g = 16
  · omega
  · have := n2 e
    omega
theorem bit1 (w : Int64) {t : Nat} (ht : t < 64) : (shrL w (nI t) &&& 1) = 1 ↔ bw w t = true := by
  rw [shr1 w ht]
  cases bw w t <;> decide
theorem shI1 {k : Nat} (hk : k < 31) : (1 : Int32) <<< (nI k &&& 31) = nI (2 ^ k) := by
  have h : ∀ n, n < 32 → ((nI n &&& 31).toBitVec.smod 32).toNat = n := by decide +kernel
  have := pk_shlN (n := 1) (nI k &&& 31) k (h k (by omega)) (by rw [Nat.one_mul]; exact Nat.pow_lt_pow_right (by decide) (by omega))
  rw [Nat.one_mul] at this
  exact this
theorem or_shI (s : Nat) {k : Nat} (hk : k < 31) : nI s ||| (1 : Int32) <<< (nI k &&& 31) = nI (s ||| 2 ^ k) := by rw [shI1 hk, nI_or]
theorem s_readersOf {I : TI} {L : TL} {Q : Int32 → Prop} {C : CQ} {c net : Nat} {x : Int32} (h : CC I c C) (hC : CV C) (hx : x = nI net) (hn : net < cI C) (k : ∀ s, (∀ t, s.testBit t = (decide (t < cI C + cG C) && rtB C net t)) → Q (nI s)) : W_X2_readersOf c x I L Q := by
  subst hx
  have hI := hC.1
  have hG := hC.2.1
  unfold W_X2_readersOf
  rw [h.1]
  refine lp2 (fun z u v => L_X2_readersOf_7 c (nI net) I L Q z u v) (fun u v => ∃ s j, cI C ≤ j ∧ j ≤ cI C + cG C ∧ v = nI j ∧ u = nI s ∧ ∀ t, s.testBit t = (decide (t < j) && rtB C net t)) (fun _ v => cI C + cG C - v.toNatClampNeg) ?_ _ _ ⟨0, cI C, Nat.le_refl _, by omega, rfl, rfl, fun t => ?_⟩
  · rintro z u v ⟨s, j, h1, h2, rfl, rfl, h3⟩ ih
    show D_X2_readersOf_7 c (nI net) I L Q _ (nI s) (nI j)
    unfold D_X2_readersOf_7
    refine s_nets2 h ?_
    refine pk_le (cI C + cG C) j (fun hc => ?_) (fun hc => ?_) rfl rfl (by omega) (by omega)
    · have : j = cI C + cG C := by omega
      subst this
      exact k s h3
    · obtain ⟨g, rfl⟩ : ∃ g, j = cI C + g := ⟨j - cI C, by omega⟩
      have hg : g < cG C := by omega
      obtain ⟨n1, n2, n3, n4⟩ := hC.net hg
      obtain ⟨g1, g2, g3⟩ := h.2.2.2.2.2.1 g hg
      rw [pk_cl (cI C + g) rfl (by omega), g2, g3]
      have vn : vp_in (nI (cI C + g)) 16 := pk_in _ 16 n4 rfl
      have eo : nI (cO C g) = nI net ↔ cO C g = net := nI_eq (by omega) (by omega)
      have et : tx (cT C g) = nI net ↔ cT C g = net := tx_eq (hC.t16 hg) (by omega)
      have rtm : rtB C net (cI C + g) = true ↔ (cO C g = net ∨ cT C g = net) := by
        unfold rtB
        rw [if_pos hn, Nat.add_sub_cancel_left, Bool.and_eq_true, Bool.or_eq_true, decide_eq_true_eq, decide_eq_true_eq, decide_eq_true_eq]
        exact ⟨fun q => q.2, fun q => ⟨by omega, q⟩⟩
      have yes : (cO C g = net ∨ cT C g = net) → B_X2_readersOf_35 c (nI net) (nI s) (nI (cI C + g)) I L Q (fun v2 v3 => L_X2_readersOf_7 c (nI net) I L Q z v2 v3) := by
        intro q
        rintro _ rfl
        rw [or_shI s (by omega)]
        refine ih _ _ ⟨_, cI C + g + 1, by omega, by omega, nI_1 _, rfl, fun t => ?_⟩ (by rw [nI_1, nI_clamp (by omega), nI_clamp (by omega)]; omega)
        rw [or_tb, h3]
        by_cases y : cI C + g = t
        · subst y
          rw [rtm.mpr q]
          simp
        · rw [decide_eq_false y, Bool.or_false]
          congr 1
          exact decide_eq_decide.mpr (by omega)
      refine ⟨vn, fun e => yes (Or.inl (eo.mp e)), fun e => ⟨vn, fun e2 => ?_, fun e2 => yes (Or.inr (et.mp e2))⟩⟩
      have q : ¬ (cO C g = net ∨ cT C g = net) := by
        rintro (q | q)
        · exact e (eo.mpr q)
        · exact e2 (et.mpr q)
      refine ih _ _ ⟨s, cI C + g + 1, by omega, by omega, nI_1 _, rfl, fun t => ?_⟩ (by rw [nI_1, nI_clamp (by omega), nI_clamp (by omega)]; omega)
      rw [h3]
      by_cases y : t = cI C + g
      · subst y
        have : rtB C net (cI C + g) = false := by
          rw [← Bool.not_eq_true, rtm]
          exact q
        rw [this]
        simp
      · congr 1
        exact decide_eq_decide.mpr (by omega)
  · rw [Nat.zero_testBit]
    by_cases q : t < cI C
    · have : rtB C net t = false := by
        unfold rtB
        rw [if_pos hn, decide_eq_false (by omega), Bool.false_and]
      rw [this, Bool.and_false]
    · rw [decide_eq_false q, Bool.false_and]
theorem and_ne0 {a b : Nat} : a &&& b ≠ 0 ↔ ∃ m, a.testBit m = true ∧ b.testBit m = true := by
  constructor
  · intro h
    obtain ⟨m, hm⟩ := Nat.exists_testBit_of_ne_zero h
    rw [Nat.testBit_and, Bool.and_eq_true] at hm
    exact ⟨m, hm⟩
  · rintro ⟨m, h1, h2⟩ e
    have : (a &&& b).testBit m = true := by rw [Nat.testBit_and, h1, h2]; rfl
    rw [e, Nat.zero_testBit] at this
    cases this
theorem s_touchedBy {I : TI} {L : TL} {Q : Int32 → Prop} {C : CQ} {c net : Nat} {x : Int32} (h : CC I c C) (hC : CV C) (hx : x = nI net) (hn : net < cI C + cG C) (k : Q (nI (tcF C net))) : W_X2_touchedBy c x I L Q := by
  subst hx
  have hI := hC.1
  have hG := hC.2.1
  have main : ∀ s, (∀ t, t < cI C + cG C → s.testBit t = rtB C net t) → B_X2_touchedBy_19 c (nI s) I L Q := by
    intro s hs
    unfold B_X2_touchedBy_19
    rw [h.1]
    refine lp2 (fun z u v => L_X2_touchedBy_28 c (nI s) I L Q z u v) (fun u v => ∃ s2 j, cI C ≤ j ∧ j ≤ cI C + cG C ∧ v = nI j ∧ u = nI s2 ∧ ∀ t, s2.testBit t = (decide (t < j) && tcB C net t)) (fun _ v => cI C + cG C - v.toNatClampNeg) ?_ _ _ ⟨0, cI C, Nat.le_refl _, by omega, rfl, rfl, fun t => ?_⟩
    · rintro z u v ⟨s2, j, h1, h2, rfl, rfl, h3⟩ ih
      show D_X2_touchedBy_28 c (nI s) I L Q _ (nI s2) (nI j)
      unfold D_X2_touchedBy_28
      refine s_nets2 h ?_
      refine pk_le (cI C + cG C) j (fun hc => ?_) (fun hc => ?_) rfl rfl (by omega) (by omega)
      · have e : s2 = tcF C net := by
          apply Nat.eq_of_testBit_eq
          intro t
          rw [h3, tcF_tb hC]
          by_cases q : t < j
          · rw [decide_eq_true q, Bool.true_and]
          · have : tcB C net t = false := by
              unfold tcB
              rw [decide_eq_false (by omega), Bool.false_and]
            rw [this, Bool.and_false]
        rw [e]
        exact k
      · have vn : vp_in (nI j) 16 := pk_in _ 16 (by omega) rfl
        have hz : cD C j &&& s < 2 ^ 32 := Nat.lt_of_le_of_lt Nat.and_le_left (Nat.lt_trans (cD_lt hC hc) (by decide))
        have key : cD C j &&& s ≠ 0 ↔ tcB C net j = true := by
          rw [and_ne0, tcB_iff]
          constructor
          · rintro ⟨m, m1, m2⟩
            have := cD_bit hC j hc m m1
            exact ⟨⟨h1, hc⟩, m, by omega, m1, by rw [← hs m (by omega)]; exact m2⟩
          · rintro ⟨_, m, m0, m1, m2⟩
            exact ⟨m, m1, by rw [hs m m0]; exact m2⟩
        rw [pk_cl j rfl (by omega), h.2.2.2.2.2.2 j hc, nI_and, nI_z hz]
        have nx : ∀ s3 : Nat, (∀ t, s3.testBit t = (decide (t < j + 1) && tcB C net t)) → L_X2_touchedBy_28 c (nI s) I L Q z (nI s3) (nI j + 1) := by
          intro s3 h4
          exact ih _ _ ⟨s3, j + 1, by omega, by omega, nI_1 j, rfl, h4⟩ (by rw [nI_1, nI_clamp (by omega), nI_clamp (by omega)]; omega)
        refine ⟨vn, fun e => nx s2 (fun t => ?_), fun e => ?_⟩
        · have hb : tcB C net j = false := by
            rw [← Bool.not_eq_true, ← key]
            exact fun q => q e
          rw [h3]
          by_cases q : t = j
          · subst q
            rw [hb]
            simp
          · congr 1
            exact decide_eq_decide.mpr (by omega)
        · have hb := key.mp e
          rintro _ rfl
          rw [or_shI s2 (by omega)]
          refine nx _ (fun t => ?_)
          rw [or_tb, h3]
          by_cases q : j = t
          · subst q
            rw [hb]
            simp
          · rw [decide_eq_false q, Bool.or_false]
            congr 1
            exact decide_eq_decide.mpr (by omega)
    · rw [Nat.zero_testBit]
      by_cases q : t < cI C
      · have : tcB C net t = false := by
          unfold tcB
          rw [decide_eq_false (by omega), Bool.false_and]
        rw [this, Bool.and_false]
      · rw [decide_eq_false q, Bool.false_and]
  unfold W_X2_touchedBy
  refine s_hasGate h hC (fun e => ⟨fun q => absurd q (by decide), fun _ => ?_⟩) (fun e => ⟨fun _ => ?_, fun q => absurd rfl q⟩)
  · obtain ⟨n, n1, n2, n3⟩ := e
    have := (nI_eq (by omega) (by omega)).mp n3
    subst this
    rw [shI1 (by omega)]
    refine main _ (fun t ht => ?_)
    unfold rtB
    rw [if_neg (by omega), Nat.testBit_two_pow]
    exact decide_eq_decide.mpr eq_comm
  · have hlt : net < cI C := by
      rcases Nat.lt_or_ge net (cI C) with q | q
      · exact q
      · exact absurd (rgi q hn) e
    refine s_readersOf h hC rfl hlt (fun s hs => main s (fun t ht => ?_))
    rw [hs, decide_eq_true ht, Bool.true_and]
/-- price and cost -/
def prF (C : CQ) (n : Nat) (from0 to0 : Int32) : Int32 := nI (cR C) * ((to0 - from0) + 1) * nI (fb_ct (cD C n).testBit 32)
theorem ct_64 {m : Nat} (h : m < 2 ^ 16) : pcn m = fb_ct m.testBit 32 := by
  unfold pcn
  have := fb_ct_split m.testBit 32 32
  rw [show 32 + 32 = 64 from rfl] at this
  rw [this, show fb_ct (fun k => m.testBit (32 + k)) 32 = 0 from fb_ct_zero.mpr (fun i _ => Nat.testBit_lt_two_pow (Nat.lt_of_lt_of_le h (Nat.pow_le_pow_right (by decide) (by omega)))), Nat.add_zero]
theorem s_cone {I : TI} {L : TL} {Q : Int32 → Prop} {C : CQ} {c n : Nat} {x : Int32} (h : CC I c C) (hC : CV C) (hx : x = nI n) (hn : n < cI C + cG C) (k : Q (nI (fb_ct (cD C n).testBit 32))) : W_X2_cone c x I L Q := by
  subst hx
  have hI := hC.1
  have hG := hC.2.1
  unfold W_X2_cone
  rw [pk_cl n rfl (by omega), h.2.2.2.2.2.2 n hn]
  exact ⟨pk_in n 16 (by omega) rfl, s_bcI rfl (Nat.lt_trans (cD_lt hC hn) (by decide)) k⟩
theorem s_price {I : TI} {L : TL} {Q : Int32 → Prop} {C : CQ} {b n : Nat} {x y z : Int32} (h : CC I (b + 1) C) (hC : CV C) (hx : x = nI n) (hn : n < cI C + cG C) (k : Q (prF C n y z)) : W_X0_price b x y z I L Q := by
  unfold W_X0_price
  refine s_cone h hC hx hn ?_
  rw [h.2.2.2.1]
  exact k