/-! the reference reads gates, purses, the end: the whole text -/
section READS9
variable {I J : TI} {L M : TL}
theorem RK.pur {Z : ZT} {p v : Nat} (h : RK I L Z) (hv : v < 2 ^ 31) : RK I (up2 L 437 (1 + p) (nI v).toInt64) (Z.1, upR Z.2 (1 + p) (lN v)) := by
  refine ⟨h.1, fun i hi => ?_⟩
  show _ = upR Z.2 (1 + p) (lN v) i
  rw [up2_at, nI_l hv]
  unfold upR
  by_cases z : i = 1 + p
  · rw [if_pos z, if_pos z]
  · rw [if_neg z, if_neg z]
    exact h.2 i hi
def enF (S : PS) : PS := if enB S = true then S else failF 1 S
theorem m_end {Q : TI → TL → Prop} {c : Nat → Nat} {ln : Nat} {S : PS} (h : TR I L c ln S) (v : PX c ln S) (k : ∀ J, fI I J → TR J L c ln (enF S) → Q J L) : B_X9_reads0_107 I L Q := by
  have tk3 := v.1.2.1.1
  unfold B_X9_reads0_107
  refine m_good h v.1 (fun e => ⟨fun _ => k I (fI.rf I) ?_, fun z => absurd rfl z⟩) (fun e => ⟨fun z => absurd z (by decide), fun _ => ?_⟩)
  · have : enF S = S := by
      unfold enF
      split
      · rfl
      · exact er_fail e
    rw [this]
    exact h
  · rw [h.1.2.2.2.1]
    have e1 : nI (tk S) = 0 ↔ tk S = 0 := nI_eq (b := 0) (by omega) (by omega)
    refine ⟨fun z => k I (fI.rf I) ?_, fun z => m_faults (code := 1) rfl h v.1 (fun J a d => k J a ?_)⟩
    · have : enF S = S := by
        unfold enF enB
        rw [decide_eq_true ⟨e, e1.mp z⟩, if_pos rfl]
      rw [this]
      exact h
    · have : enF S = failF 1 S := by
        unfold enF enB
        rw [decide_eq_false (fun y => z (e1.mpr y.2)), if_neg (by decide)]
      rw [this]
      exact d
theorem m_purses {Q : TI → TL → Prop} {c : Nat → Nat} {ln : Nat} {S : PS} {Z : ZT} (hc : txV c ln) (h : TR I L c ln S) (v : PX c ln S) (hK : er S = 0 → RK I L Z) (k : ∀ J M, fI I J → hL L M → TR J M c ln (enF (puS c ln S)) → (er (puS c ln S) = 0 → RK J M (puZ c ln S Z)) → Q J M) : W_X9_passes (241111072 : Int64) I L (fun (r2168 : Int32) (I2169 : TI) (L2170 : TL) => (r2168 = 0 → B_X9_reads0_107 I2169 L2170 Q) ∧ (¬ r2168 = 0 → ∃ n2171, L_X9_reads0_73 Q n2171 (0 : Int32) I2169 L2170)) := by
  refine m_passes (w := 241111072) rfl (by omega) hc h v (fun e I1 L1 a1 b1 t1 => ⟨fun z => absurd z (by decide), fun _ => ⟨4, ?_⟩⟩) (fun e => ⟨fun _ => ?_, fun z => absurd rfl z⟩)
  · have e0 := wdB_er e
    have kk := (hK e0).f a1 b1
    have ps : puS c ln S = takeS c ln 59 (pD c ln S) := by unfold puS; rw [if_pos e]
    have pz : puZ c ln S Z = (Z.1, puR c ln S Z.2) := by unfold puZ; rw [if_pos e]
    rw [ps, pz] at k
    have t1 : TR I1 L1 c ln (pA c ln S) := by unfold pA; exact t1
    have vA : PX c ln (pA c ln S) := v.adv
    have vB : PX c ln (pB c ln S) := vA.takeN
    have vC : PX c ln (pC c ln S) := vB.takeN
    have vD : PX c ln (pD c ln S) := vC.takeN
    have step : ∀ (z j : Nat) (i : TI) (l : TL) (S2 : PS) (Z2 : ZT), j < 3 → fI I i → hL L l → TR i l c ln S2 → PX c ln S2 → RK i l Z2 → (∀ i2 l2, fI I i2 → hL L l2 → TR i2 l2 c ln (takeN c ln 0 99999 S2) → RK i2 l2 (Z2.1, upR Z2.2 (1 + j) (lN (peekV c 0 99999 S2))) → L_X9_reads0_73 Q z (nI (j + 1)) i2 l2) → L_X9_reads0_73 Q (z + 1) (nI j) i l := by
      intro z j i l S2 Z2 hj o1 m1 t2 v2 k2 nx
      show D_X9_reads0_73 Q (fun v1 I L => L_X9_reads0_73 Q z v1 I L) (nI j) i l
      unfold D_X9_reads0_73
      refine ⟨fun y => (lt_le_f (nI_lt hj (by omega)) y).elim, fun _ => m_number (lo := 0) (hi := 99999) rfl rfl (by omega) (by omega) hc t2 v2 (fun J M aJ aM aT => ?_)⟩
      have pb := peekV_b (c := c) (lo := 0) (hi := 99999) (S := S2) (by omega)
      have ei : (1 : Int32) + nI j = nI (1 + j) := nI_add 1 j
      rw [pk_cl _ ei (by omega), nI_1]
      refine ⟨pk_in _ 241 (by omega) ei, ?_⟩
      rintro _ rfl
      exact nx J _ (o1.tr aJ) (m1.tr (aM.h.tr (fun q _ hq => up2_row hq))) (aT.fr (fun _ _ _ => rfl) rfl (up2_row (by decide))) ((k2.f aJ aM).pur (by omega))
    refine step 3 0 I1 L1 (pA c ln S) Z (by omega) a1 b1.h t1 vA kk (fun i1 l1 o1 m1 t1 k1 => ?_)
    refine step 2 1 i1 l1 (pB c ln S) _ (by omega) o1 m1 t1 vB k1 (fun i2 l2 o2 m2 t2 k2 => ?_)
    refine step 1 2 i2 l2 (pC c ln S) _ (by omega) o2 m2 t2 vC k2 (fun i3 l3 o3 m3 t3 k3 => ?_)
    show D_X9_reads0_73 Q (fun v1 I L => L_X9_reads0_73 Q 0 v1 I L) (nI (2 + 1)) i3 l3
    unfold D_X9_reads0_73
    refine ⟨fun _ => m_must (b := 59) (S := pD c ln S) rfl (by omega) hc t3 vD (fun J M aJ aM aT => m_end aT vD.takeS (fun J2 a2 t5 => ?_)), fun y => absurd (show (3 : Int32) ≤ nI (2 + 1) by decide) y⟩
    exact k J2 M ((o3.tr aJ).tr a2) (m3.tr aM.h) t5 (fun _ => (k3.f aJ aM).f a2 (tL.rf M))
  · have ps : puS c ln S = S := by unfold puS; rw [if_neg (by rw [e]; decide)]
    have pz : puZ c ln S Z = Z := by unfold puZ; rw [if_neg (by rw [e]; decide)]
    rw [ps, pz] at k
    exact m_end h v (fun J a t => k J L a (tL.rf L).h t (fun z => (hK z).f a (tL.rf L)))
theorem gaL_s {c : Nat → Nat} {ln n : Nat} {S : PS} {Z : ZT} : gaL c ln (n + 1) S Z = if wdB c S 139055 = true then (if n ≠ 0 then gaL c ln n (rdGS c ln (advF c ln S) Z) (rdGZ c ln (advF c ln S) Z) else gaL c ln n (failF 3 S) Z) else (S, Z) := rfl
theorem m_gates {Q : TI → TL → Prop} {c : Nat → Nat} {ln : Nat} {S : PS} {Z : ZT} (hc : txV c ln) (h : TR I L c ln S) (v : PX c ln S) (hK : er S = 0 → RK I L Z) (hI1 : er S = 0 → 1 ≤ cI Z.1) (hI4 : cI Z.1 ≤ 4) (hG0 : cG Z.1 = 0)
    (k : ∀ J M, hI I J → hL L M → TR J M c ln (enF (puS c ln (gaL c ln 13 S Z).1)) → (er (puS c ln (gaL c ln 13 S Z).1) = 0 → RK J M (puZ c ln (gaL c ln 13 S Z).1 (gaL c ln 13 S Z).2)) → Q J M) : ∃ n, L_X9_reads0_44 Q n I L := by
  generalize hR : gaL c ln 13 S Z = R at k
  refine lp2 (fun n i l => L_X9_reads0_44 Q n i l) (fun i l => ∃ j S2 Z2, j ≤ 13 ∧ hI I i ∧ hL L l ∧ TR i l c ln S2 ∧ PX c ln S2 ∧ (er S2 = 0 → RK i l Z2 ∧ j ≤ 12 ∧ cG Z2.1 = j) ∧ cI Z2.1 = cI Z.1 ∧ (er S2 = 0 → 1 ≤ cI Z.1) ∧ gaL c ln (13 - j) S2 Z2 = R) (fun i _ => if i 436 29 = 0 then 14 - (i 436 11).toNatClampNeg else 0) ?_ _ _ ⟨0, S, Z, Nat.zero_le _, ⟨fun _ _ _ _ _ => rfl, fun _ _ => rfl⟩, fun _ _ _ => rfl, h, v, fun e => ⟨hK e, by omega, hG0⟩, rfl, hI1, hR⟩
  rintro n i l ⟨j, S2, Z2, j1, oi, ol, it, iv, ik, iI, iI1, ie⟩ ih
  show D_X9_reads0_44 Q (fun I L => L_X9_reads0_44 Q n I L) i l
  unfold D_X9_reads0_44
  refine m_isWord (w := 139055) rfl (by omega) it iv hc.1 (fun e => ⟨fun z => absurd z (by decide), fun _ => ?_⟩) (fun e => ⟨fun _ => ?_, fun z => absurd rfl z⟩)
  · have e0 := wdB_er e
    obtain ⟨kk, j12, cj⟩ := ik e0
    have i1 := iI1 e0
    obtain ⟨m2, hm2⟩ : ∃ m2, 13 - j = m2 + 1 := ⟨12 - j, by omega⟩
    rw [hm2, gaL_s, if_pos e] at ie
    have e29 : i 436 29 = 0 := by rw [it.1.2.2.2.2.2.2.1, e0]; rfl
    have i11 : i 436 11 = nI j := by rw [kk.1.2.1, cj]
    refine m_gateRead hc it iv e0 kk (by omega) (by omega) (fun n12 J M a b t v2 q => ?_) (fun n12 J M a b t => ?_)
    · rw [if_pos (show m2 ≠ 0 by omega)] at ie
      have gz : er (rdGS c ln (advF c ln S2) Z2) = 0 → cG (rdGZ c ln (advF c ln S2) Z2).1 = j + 1 := fun z => by
        unfold rdGZ
        rw [if_pos z]
        show cG Z2.1 + 1 = j + 1
        omega
      refine ih _ _ ⟨j + 1, _, _, by omega, oi.tr a, ol.tr b, t, v2, fun z => ⟨q z, by omega, gz z⟩, by rw [rdGZ_I]; exact iI, fun _ => i1, ?_⟩ ?_
      · rw [show 13 - (j + 1) = m2 by omega]
        exact ie
      · rw [if_pos e29, i11, nI_clamp (by omega)]
        by_cases z : er (rdGS c ln (advF c ln S2) Z2) = 0
        · have j29 : J 436 29 = 0 := by rw [t.1.2.2.2.2.2.2.1, z]; rfl
          have j11 : J 436 11 = nI (j + 1) := by rw [(q z).1.2.1, gz z]
          rw [if_pos j29, j11, nI_clamp (by omega)]
          omega
        · have j29 : J 436 29 ≠ 0 := by
            rw [t.1.2.2.2.2.2.2.1]
            have := v2.1.2.2
            exact fun y => z ((nI_eq (b := 0) (by omega) (by omega)).mp y)
          rw [if_neg j29]
          omega
    · rw [if_neg (show ¬ m2 ≠ 0 by omega)] at ie
      have f3 : er (failF 3 S2) ≠ 0 := failF_er (by decide)
      refine ih _ _ ⟨j + 1, _, Z2, by omega, oi.tr a, ol.tr b, t, iv.fail (by omega), fun z => absurd z f3, iI, fun z => absurd z f3, ?_⟩ ?_
      · rw [show 13 - (j + 1) = m2 by omega]
        exact ie
      · have j29 : J 436 29 ≠ 0 := by
          rw [t.1.2.2.2.2.2.2.1]
          have := (iv.fail (code := 3) (by omega)).1.2.2
          exact fun y => f3 ((nI_eq (b := 0) (by omega) (by omega)).mp y)
        rw [if_neg j29, if_pos e29, i11, nI_clamp (by omega)]
        omega
  · have eR : gaL c ln (13 - j) S2 Z2 = (S2, Z2) := by
      cases h5 : 13 - j with
      | zero => rfl
      | succ m2 => rw [gaL_s, if_neg (by rw [e]; decide)]
    rw [eR] at ie
    subst ie
    exact m_purses (Z := Z2) hc it iv (fun z => (ik z).1) (fun J M a b t q => k J M (oi.tr a.h) (ol.tr b) t q)
theorem m_reads {Q : TI → TL → Prop} {c : Nat → Nat} {ln : Nat} {S : PS} (hc : txV c ln) (h : TR I L c ln S) (v : PX c ln S) (k : ∀ J M, hI I J → hL L M → TR J M c ln (tS c ln S) → (er (tC c ln S) = 0 → RK J M (tZ c ln S)) → Q J M) : W_X9_reads0 I L Q := by
  have hz := hZ_0 (c := c) (ln := ln) (S := S)
  have v1 : PX c ln (hF c ln S) := v.hF
  have hb := peekV_b (c := c) (lo := 4) (hi := 60) (S := hA c ln S) (by omega)
  have hH : 4 ≤ cH (hZ c ln S).1 ∧ cH (hZ c ln S).1 ≤ 60 := hb
  obtain ⟨i4, g0, i1⟩ := tA_4 (c := c) (ln := ln) (S := S)
  unfold W_X9_reads0
  refine m_headRead hc h v (fun I1 L1 o1 m1 t1 k1 => ?_)
  have go : ∀ I2, fI I1 I2 → TR I2 L1 c ln (inS c (hF c ln S)) → (er (inS c (hF c ln S)) = 0 → RK I2 L1 (hZ c ln S)) → ∃ n, L_X9_reads0_27 Q n I2 L1 := by
    intro I2 o2 t2 k2
    refine m_inputs hc t2 v1.inS k2 hz.1 hH (fun J M o3 m3 t3 v3 k3 => ?_)
    have t3 : TR J M c ln (tA c ln S).1 := by unfold tA; exact t3
    have v3 : PX c ln (tA c ln S).1 := by unfold tA; exact v3
    have k3 : er (tA c ln S).1 = 0 → RK J M (tA c ln S).2 := by unfold tA; exact k3
    refine m_gates hc t3 v3 k3 i1 i4 g0 (fun J4 M4 o4 m4 t4 k4 => k J4 M4 ((o1.tr o2.h).tr (o3.tr o4)) ((m1.tr m3).tr m4) ?_ ?_)
    · unfold tS tC tB
      unfold enF at t4
      exact t4
    · unfold tC tZ tB
      exact k4
  refine m_good t1 v1.1 (fun e => ⟨fun _ => go I1 (fI.rf I1) ?_ ?_, fun z => absurd rfl z⟩) (fun e => ⟨fun z => absurd z (by decide), fun _ => ?_⟩)
  · unfold inS
    split
    · exact t1
    · rw [er_fail e]; exact t1
  · intro z
    exfalso
    unfold inS at z
    split at z
    · exact e z
    · rw [er_fail e] at z; exact e z
  · refine m_isWord (w := 5070782) rfl (by omega) t1 v1 hc.1 (fun e2 => ⟨fun _ => go I1 (fI.rf I1) ?_ ?_, fun z => absurd z (by decide)⟩) (fun e2 => ⟨fun z => absurd rfl z, fun _ => m_faults (code := 1) rfl t1 v1.1 (fun J a d => go J a ?_ ?_)⟩)
    · unfold inS
      rw [if_pos e2]
      exact t1
    · intro _
      exact k1 e
    · unfold inS
      rw [if_neg (by rw [e2]; decide)]
      exact d
    · intro z
      unfold inS at z
      rw [if_neg (by rw [e2]; decide)] at z
      exact absurd z (failF_er (by decide))
end READS9
