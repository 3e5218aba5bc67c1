/-! the reference reads a gate, whole -/
section RGATES9
variable {I J : TI} {L M : TL}
theorem m_gateRead {Q : TI → TL → Prop} {c : Nat → Nat} {ln : Nat} {S : PS} {Z : ZT} (hc : txV c ln) (h : TR I L c ln S) (v : PX c ln S) (e : er S = 0) (hK : RK I L Z) (hI4 : 1 ≤ cI Z.1 ∧ cI Z.1 ≤ 4) (hG : cG Z.1 ≤ 12)
    (k1 : cG Z.1 ≠ 12 → ∀ J M, hI I J → hL L M → TR J M c ln (rdGS c ln (advF c ln S) Z) → PX c ln (rdGS c ln (advF c ln S) Z) → (er (rdGS c ln (advF c ln S) Z) = 0 → RK J M (rdGZ c ln (advF c ln S) Z)) → Q J M)
    (k0 : cG Z.1 = 12 → ∀ J M, hI I J → hL L M → TR J M c ln (failF 3 S) → Q J M) : W_X9_gateRead I L Q := by
  have h11 : I 436 11 = nI (cG Z.1) := hK.1.2.1
  have e12 : nI (cG Z.1) = 12 ↔ cG Z.1 = 12 := nI_eq (b := 12) (by omega) (by omega)
  unfold W_X9_gateRead
  rw [h11]
  refine ⟨fun y => ?_, fun y => ?_⟩
  · have n12 : cG Z.1 ≠ 12 := fun z => y (e12.mpr z)
    have k1 := k1 n12
    unfold B_X9_gateRead_15
    refine m_good h v.1 (fun z => absurd e z) (fun _ => ⟨fun _ => m_next hc h v.1 e (fun I1 L1 a1 b1 t1 => ?_), fun z => absurd z (by decide)⟩)
    have v1 : PX c ln (advF c ln S) := v.adv
    have e1 : er (advF c ln S) = 0 := by rw [er_adv]; exact e
    generalize advF c ln S = S1 at t1 v1 e1 k1
    obtain ⟨n, hn⟩ : ∃ n, n = cI Z.1 + cG Z.1 := ⟨_, rfl⟩
    have er1 : rdGS c ln S1 Z = qF c ln n S1 := by unfold rdGS; rw [← hn]
    rw [er1] at k1
    refine m_kindHere hc t1 v1 ?_
    have kl := kdR_le c S1 7 0
    have kl : kdF c S1 ≤ 7 := by unfold kdF; omega
    by_cases k7 : kdF c S1 = 7
    · rw [if_pos k7]
      refine ⟨fun z => absurd rfl z, fun _ => m_faults (code := 1) rfl t1 v1.1 (fun I2 a2 t2 => ?_)⟩
      have ks : kdS c ln S1 = failF 1 S1 := by unfold kdS; rw [if_pos k7]
      have kf : er (kdS c ln S1) ≠ 0 := by rw [ks]; exact failF_er (by decide)
      have qf : qF c ln n S1 = failF 1 S1 := by rw [qF_er kf, ks]
      unfold B_X9_gateRead_43
      refine m_good t2 (failF_v v1.1 (by omega)) (fun _ => ⟨fun z => absurd rfl z, fun _ => ?_⟩) (fun z => absurd z (failF_er (by decide)))
      rw [qf] at k1
      exact k1 I2 L1 (a1.f.tr a2).h b1.h t2 (v1.fail (by omega)) (fun z => absurd z (failF_er (by decide)))
    · rw [if_neg k7]
      have kv : kdV c S1 = kdF c S1 := by unfold kdV; rw [if_neg k7]
      have ks : kdS c ln S1 = advF c ln S1 := by unfold kdS; rw [if_neg k7]
      have km : nI (kdF c S1) ≠ -1 := by
        intro z
        have := nI_pos (n := kdF c S1) (by omega)
        rw [z] at this
        exact absurd (by decide) this
      refine ⟨fun _ => ?_, fun z => absurd z km⟩
      unfold B_X9_gateRead_43
      refine m_good t1 v1.1 (fun z => absurd e1 z) (fun _ => ⟨fun _ => m_next hc t1 v1.1 e1 (fun I2 L2 a2 b2 t2 => ?_), fun z => absurd z (by decide)⟩)
      rw [← ks] at t2
      have vk : PX c ln (kdS c ln S1) := v1.kdS
      have o2 : fI I I2 := (a1.tr a2).f
      have m2 : tL L L2 := b1.tr b2
      have kk := hK.f o2 m2
      have i11 : I2 436 11 = nI (cG Z.1) := kk.1.2.1
      rw [i11, pk_cl (cG Z.1) rfl (by omega)]
      have vg : vp_in (nI (cG Z.1)) 12 := pk_in _ 12 (by omega) rfl
      have mc1 : MC (up2 I2 441 (cG Z.1) (nI (kdF c S1))) Z.1 := by
        obtain ⟨q1, q2, q3, q4, q5, q6⟩ := kk.1
        refine ⟨by rw [up2_row (by decide)]; exact q1, by rw [up2_row (by decide)]; exact q2, by rw [up2_row (by decide)]; exact q3, by rw [up2_row (by decide)]; exact q4, by rw [up2_row (by decide)]; exact q5, fun g hg => ?_⟩
        rw [up2_n (Or.inr (by omega)), up2_row (by decide), up2_row (by decide)]
        exact q6 g hg
      refine ⟨vg, s_nets9 mc1 ?_⟩
      rw [← hn]
      have en : nI n - 1 = nI (n - 1) := by rw [show (1 : Int32) = nI 1 from rfl, pk_sub (by omega)]
      rw [en]
      refine m_number (lo := 0) (hi := n - 1) rfl rfl (by omega) (by omega) hc (t2.fr (fun j _ _ => by rw [up2_row (by decide)]) (up2_row (by decide)) rfl) vk (fun I3 L3 a3 b3 t3 => ?_)
      have po := peekV_b (c := c) (lo := 0) (hi := n - 1) (S := kdS c ln S1) (by omega)
      have f11 : (up2 I2 441 (cG Z.1) (nI (kdF c S1))) 436 11 = nI (cG Z.1) := mc1.2.1
      rw [f11, pk_cl (cG Z.1) rfl (by omega)]
      refine ⟨vg, ?_⟩
      rintro _ rfl
      have i311 : I3 436 11 = nI (cG Z.1) := by rw [a3.2 11 (by omega)]; exact f11
      have g11 : (up2 I3 442 (cG Z.1) (nI (peekV c 0 (n - 1) (kdS c ln S1)))) 436 11 = nI (cG Z.1) := by rw [up2_row (by decide)]; exact i311
      have m3 : tL L L3 := m2.tr b3
      -- behind the nets
      have rest : ∀ (I5 : TI) (L5 : TL) (t : Nat) (y : Int32), y = tx t → t = qT c ln n S1 → fI (up2 I3 442 (cG Z.1) (nI (peekV c 0 (n - 1) (kdS c ln S1)))) I5 → tL L3 L5 → TR I5 L5 c ln (qB c ln n S1) → B_X9_gateRead_113 ((up2 I3 442 (cG Z.1) (nI (peekV c 0 (n - 1) (kdS c ln S1)))) 436 11) y I5 L5 Q := by
        intro I5 L5 t y hy ht o5 m5 t5
        rw [g11]
        have h5 : I5 436 11 = nI (cG Z.1) := by rw [o5.2 11 (by omega)]; exact g11
        refine m_delays (r := Z.2) hc rfl (by omega) hy h5 t5 v1.qB (fun i hi => ?_) (fun J M _ f1 f2 f3 f4 tJ vJ fin => ?_)
        · rw [m5 437 (by decide), m3 437 (by decide)]
          exact hK.2 i hi
        · have fo : ∀ q, q ≠ 436 → q ≠ 441 → q ≠ 442 → q ≠ 443 → J q = I q := fun q y1 y2 y3 y4 => by
            rw [f1 q y1 y4, o5.1 q y1, up2_row y3, a3.1 q y1, up2_row y2]
            exact o2.1 q y1
          have fj : ∀ j, (j < 11 ∨ (11 < j ∧ j < 24) ∨ 30 < j) → J 436 j = I 436 j := fun j hj => by
            rw [f2 j hj, o5.2 j (by omega), up2_row (by decide), a3.2 j (by omega), up2_row (by decide)]
            exact o2.2 j (by omega)
          refine k1 J M ⟨fo, fun j hj => fj j (by omega)⟩ ((m3.tr m5).h.tr f4) tJ vJ (fun z => ?_)
          obtain ⟨j11, jr⟩ := fin z
          have ez : rdGZ c ln S1 Z = qZ c ln S1 Z := by unfold rdGZ; rw [er1, if_pos z]
          rw [ez]
          unfold qZ
          rw [← hn, ← ht]
          obtain ⟨q1, q2, q3, q4, q5, q6⟩ := hK.1
          have j441 : J 441 = (up2 I2 441 (cG Z.1) (nI (kdF c S1))) 441 := by rw [f1 441 (by decide) (by decide), o5.1 441 (by decide), up2_row (by decide), a3.1 441 (by decide)]
          have j442 : J 442 = (up2 I3 442 (cG Z.1) (nI (peekV c 0 (n - 1) (kdS c ln S1)))) 442 := by rw [f1 442 (by decide) (by decide), o5.1 442 (by decide)]
          have j443 : ∀ x, J 443 x = if x = cG Z.1 then tx t else I 443 x := fun x => by
            rw [f3, up2_at, o5.1 443 (by decide), up2_row (by decide), a3.1 443 (by decide), up2_row (by decide), o2.1 443 (by decide)]
          refine ⟨⟨by rw [fj 10 (by omega)]; exact q1, j11, by rw [fj 7 (by omega)]; exact q3, by rw [fj 8 (by omega)]; exact q4, by rw [fj 9 (by omega)]; exact q5, fun g hg => ?_⟩, fun i hi => jr i hi⟩
          have hg : g < cG Z.1 + 1 := hg
          show J 441 g = nI (if g = cG Z.1 then kdV c S1 else cK Z.1 g) ∧ J 442 g = nI (if g = cG Z.1 then peekV c 0 (n - 1) (kdS c ln S1) else cO Z.1 g) ∧ J 443 g = tx (if g = cG Z.1 then t else cT Z.1 g)
          rw [j441, j442, j443, up2_at, up2_at]
          by_cases z2 : g = cG Z.1
          · rw [if_pos z2, if_pos z2, if_pos z2, if_pos z2, if_pos z2, if_pos z2, kv]
            exact ⟨rfl, rfl, rfl⟩
          · rw [if_neg z2, if_neg z2, if_neg z2, if_neg z2, if_neg z2, if_neg z2, a3.1 442 (by decide), up2_row (by decide), o2.1 441 (by decide), o2.1 442 (by decide)]
            exact q6 g (by omega)
      refine pk_le 5 (kdF c S1) (fun q => ?_) (fun q => ?_) rfl rfl (by omega) (by omega)
      · refine rest _ _ 16 (-1) tx_16.symm ?_ (fI.rf _) (tL.rf _) ?_
        · unfold qT
          rw [kv, if_pos q]
        · unfold qB qA
          rw [kv, if_pos q]
          exact t3.fr (fun j _ _ => by rw [up2_row (by decide)]) (up2_row (by decide)) rfl
      · have mc3 : MC (up2 I3 442 (cG Z.1) (nI (peekV c 0 (n - 1) (kdS c ln S1)))) Z.1 := by
          obtain ⟨q1, q2, q3, q4, q5, q6⟩ := mc1
          refine ⟨by rw [up2_row (by decide), a3.2 10 (by omega)]; exact q1, g11, by rw [up2_row (by decide), a3.2 7 (by omega)]; exact q3, by rw [up2_row (by decide), a3.2 8 (by omega)]; exact q4, by rw [up2_row (by decide), a3.2 9 (by omega)]; exact q5, fun g hg => ?_⟩
          rw [up2_row (by decide), up2_n (Or.inr (by omega)), up2_row (by decide), a3.1 441 (by decide), a3.1 442 (by decide), a3.1 443 (by decide)]
          exact q6 g hg
        refine s_nets9 mc3 ?_
        rw [← hn, en]
        refine m_number (lo := 0) (hi := n - 1) (S := qA c ln n S1) rfl rfl (by omega) (by omega) hc ?_ vk.takeN (fun I5 L5 a5 b5 t5 => ?_)
        · unfold qA
          exact t3.fr (fun j _ _ => by rw [up2_row (by decide)]) (up2_row (by decide)) rfl
        · have pt := peekV_b (c := c) (lo := 0) (hi := n - 1) (S := qA c ln n S1) (by omega)
          refine rest I5 L5 (peekV c 0 (n - 1) (qA c ln n S1)) _ (tx_n (by omega)).symm ?_ a5 b5 ?_
          · unfold qT
            rw [kv, if_neg (by omega)]
          · unfold qB
            rw [kv, if_neg (by omega)]
            exact t5
  · have n12 := e12.mp y
    have k0 := k0 n12
    refine m_faults (code := 3) rfl h v.1 (fun J a d => ?_)
    unfold B_X9_gateRead_15
    exact m_good d (failF_v v.1 (by omega)) (fun _ => ⟨fun z => absurd rfl z, fun _ => k0 J L a.h (tL.rf L).h d⟩) (fun z => absurd z (failF_er (by decide)))
end RGATES9
