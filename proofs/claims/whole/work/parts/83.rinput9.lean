/-! the reference reads the inputs -/
section RINPUTS9
variable {I J : TI} {L M : TL}
theorem rdWave_1 {c : Nat → Nat} {ln H : Nat} {S : PS} : (rdWave c ln H S).1 = (wvL c ln H 61 (wv0 c H S) 0 (takeN c ln 0 1 S)).1 := rfl
theorem rdWave_2 {c : Nat → Nat} {ln H : Nat} {S : PS} : (rdWave c ln H S).2 = takeS c ln 59 (wvL c ln H 61 (wv0 c H S) 0 (takeN c ln 0 1 S)).2 := rfl
theorem m_inputRead {Q : TI → TL → Prop} {c : Nat → Nat} {ln : Nat} {S : PS} {Z : ZT} (hc : txV c ln) (h : TR I L c ln S) (v : PX c ln S) (e : er S = 0) (hK : RK I L Z) (hI4 : cI Z.1 ≤ 4) (hH : 4 ≤ cH Z.1 ∧ cH Z.1 ≤ 60)
    (k1 : cI Z.1 ≠ 4 → ∀ J M, hI I J → hL L M → TR J M c ln (rdWave c ln (cH Z.1) (advF c ln S)).2 → PX c ln (rdWave c ln (cH Z.1) (advF c ln S)).2 → (er (rdWave c ln (cH Z.1) (advF c ln S)).2 = 0 → RK J M (adI Z (rdWave c ln (cH Z.1) (advF c ln S)).1)) → Q J M)
    (k0 : cI Z.1 = 4 → ∀ J M, hI I J → hL L M → TR J M c ln (failF 3 S) → Q J M) : W_X9_inputRead I L Q := by
  have h10 : I 436 10 = nI (cI Z.1) := hK.1.1
  have h7 : I 436 7 = nI (cH Z.1) := hK.1.2.2.1
  have e4 : nI (cI Z.1) = 4 ↔ cI Z.1 = 4 := nI_eq (b := 4) (by omega) (by omega)
  unfold W_X9_inputRead
  rw [h10]
  refine ⟨fun y => ?_, fun y => ?_⟩
  · have n4 : cI Z.1 ≠ 4 := fun z => y (e4.mpr z)
    have k1 := k1 n4
    rw [rdWave_2, rdWave_1] at k1
    unfold B_X9_inputRead_14
    refine m_good h v.1 (fun z => absurd e z) (fun _ => ⟨fun _ => m_next hc h v.1 e (fun I1 L1 a1 b1 t1 => ?_), fun z => absurd z (by decide)⟩)
    have v1 : PX c ln (advF c ln S) := v.adv
    refine m_number (lo := 0) (hi := 1) rfl rfl (by omega) (by omega) hc t1 v1 (fun I2 L2 a2 b2 t2 => ?_)
    have v2 : PX c ln (takeN c ln 0 1 (advF c ln S)) := v1.takeN
    have o2 : fI I I2 := a1.f.tr a2
    have m2 : tL L L2 := b1.tr b2
    have i7 : I2 436 7 = nI (cH Z.1) := by rw [o2.2 7 (by omega)]; exact h7
    have go : ∀ w9, w9 = wv0 c (cH Z.1) (advF c ln S) → B_X9_inputRead_52 0 w9 I2 L2 Q := by
      rintro w9 rfl
      refine m_flips hc (by omega) hH.2 i7 t2 v2 (fun _ => rfl) (fun J M a3 b3 t3 v3 w hw => ?_)
      generalize wvL c ln (cH Z.1) 61 (wv0 c (cH Z.1) (advF c ln S)) 0 (takeN c ln 0 1 (advF c ln S)) = R at t3 v3 hw k1
      unfold B_X9_inputRead_130
      refine m_must (b := 59) rfl (by omega) hc t3 v3 (fun J4 M4 a4 b4 t4 => ?_)
      have v4 : PX c ln (takeS c ln 59 R.2) := v3.takeS
      have o4 : fI I J4 := (o2.tr a3).tr a4
      have m4 : tL L M4 := (m2.tr b3).tr b4
      have kk : RK J4 M4 Z := hK.f o4 m4
      have j10 : J4 436 10 = nI (cI Z.1) := kk.1.1
      refine m_good t4 v4.1 (fun z => ⟨fun z2 => absurd rfl z2, fun _ => k1 J4 M4 o4.h m4.h t4 v4 (fun z3 => absurd z3 z)⟩) (fun z => ⟨fun _ => ?_, fun z2 => absurd z2 (by decide)⟩)
      rw [j10, show (5 : Int32) + nI (cI Z.1) = nI (5 + cI Z.1) from nI_add 5 _, pk_cl (5 + cI Z.1) rfl (by omega), nI_1]
      refine ⟨pk_in _ 241 (by omega) rfl, ?_⟩
      rintro _ rfl
      have e3 := er_takeS z
      rw [hw e3]
      exact k1 _ _ (o4.h.up (by omega) (by omega)) (m4.h.tr (fun q _ hq => up2_row hq)) (t4.fr (fun j y1 y2 => up2_n (Or.inr (by omega))) (up2_row (by decide)) (up2_row (by decide))) v4 (fun _ => kk.adI (by omega))
    have pb := peekV_b (c := c) (lo := 0) (hi := 1) (S := advF c ln S) (by omega)
    have e1 : nI (peekV c 0 1 (advF c ln S)) = 1 ↔ peekV c 0 1 (advF c ln S) = 1 := nI_eq (b := 1) (by omega) (by omega)
    refine ⟨fun z => go 0 ?_, fun z => s_times (a := 0) (b := cH Z.1) rfl i7 (by omega) (by omega) (go _ ?_)⟩
    · unfold wv0
      rw [if_neg (fun z2 => z (e1.mpr z2))]
    · unfold wv0
      rw [if_pos (e1.mp z)]
  · have n4 := e4.mp y
    have k0 := k0 n4
    refine m_faults (code := 3) rfl h v.1 (fun J a d => ?_)
    unfold B_X9_inputRead_14
    exact m_good d (failF_v v.1 (by omega)) (fun _ => ⟨fun z => absurd rfl z, fun _ => k0 J L a.h (tL.rf L).h d⟩) (fun z => absurd z (failF_er (by decide)))
/-- the loop over the inputs -/
theorem m_inputs {Q : TI → TL → Prop} {c : Nat → Nat} {ln : Nat} {S : PS} {Z : ZT} (hc : txV c ln) (h : TR I L c ln S) (v : PX c ln S) (hK : er S = 0 → RK I L Z) (hI0 : cI Z.1 = 0) (hH : 4 ≤ cH Z.1 ∧ cH Z.1 ≤ 60)
    (k : ∀ J M, hI I J → hL L M → TR J M c ln (inL c ln 5 S Z).1 → PX c ln (inL c ln 5 S Z).1 → (er (inL c ln 5 S Z).1 = 0 → RK J M (inL c ln 5 S Z).2) → ∃ n, L_X9_reads0_44 Q n J M) : ∃ n, L_X9_reads0_27 Q n I L := by
  generalize hR : inL c ln 5 S Z = R at k
  refine lp2 (fun n i l => L_X9_reads0_27 Q n i l) (fun i l => ∃ j S2 Z2, j ≤ 5 ∧ hI I i ∧ hL L l ∧ TR i l c ln S2 ∧ PX c ln S2 ∧ (er S2 = 0 → RK i l Z2 ∧ j ≤ 4) ∧ cH Z2.1 = cH Z.1 ∧ (er S2 = 0 → cI Z2.1 = j) ∧ inL c ln (5 - j) S2 Z2 = R) (fun i _ => if i 436 29 = 0 then 6 - (i 436 10).toNatClampNeg else 0) ?_ _ _ ⟨0, S, Z, Nat.zero_le _, ⟨fun _ _ _ _ _ => rfl, fun _ _ => rfl⟩, fun _ _ _ => rfl, h, v, fun e => ⟨hK e, by omega⟩, rfl, fun _ => hI0, hR⟩
  rintro n i l ⟨j, S2, Z2, j1, oi, ol, it, iv, ik, iH, iI, ie⟩ ih
  have done : inL c ln (5 - j) S2 Z2 = (S2, Z2) → ∃ n, L_X9_reads0_44 Q n i l := by
    intro e
    rw [e] at ie
    subst ie
    exact k i l oi ol it iv (fun z => (ik z).1)
  show D_X9_reads0_27 Q (fun I L => L_X9_reads0_27 Q n I L) i l
  unfold D_X9_reads0_27
  refine m_isWord (w := 5070782) rfl (by omega) it iv hc.1 (fun e => ⟨fun z => absurd z (by decide), fun _ => ?_⟩) (fun e => ⟨fun _ => done ?_, fun z => absurd rfl z⟩)
  · have e0 := wdB_er e
    obtain ⟨kk, j4⟩ := ik e0
    have cj := iI e0
    obtain ⟨m2, hm2⟩ : ∃ m2, 5 - j = m2 + 1 := ⟨4 - j, by omega⟩
    rw [hm2, inL_s, if_pos e] at ie
    have e29 : i 436 29 = 0 := by rw [it.1.2.2.2.2.2.2.1, e0]; rfl
    have i10 : i 436 10 = nI j := by rw [kk.1.1, cj]
    refine m_inputRead hc it iv e0 kk (by omega) (by omega) (fun n4 J M a b t v2 q => ?_) (fun n4 J M a b t => ?_)
    · rw [if_pos (show m2 ≠ 0 by omega)] at ie
      have g := rdWave_v (c := c) (ln := ln) (H := cH Z2.1) (S := advF c ln S2) (by omega) iv.adv
      refine ih _ _ ⟨j + 1, _, _, by omega, oi.tr a, ol.tr b, t, v2, fun z => ⟨q z, by omega⟩, iH, fun _ => by show cI Z2.1 + 1 = j + 1; omega, ?_⟩ ?_
      · rw [show 5 - (j + 1) = m2 by omega]
        exact ie
      · rw [if_pos e29, i10, nI_clamp (by omega)]
        by_cases z : er (rdWave c ln (cH Z2.1) (advF c ln S2)).2 = 0
        · have j29 : J 436 29 = 0 := by rw [t.1.2.2.2.2.2.2.1, z]; rfl
          have j10 : J 436 10 = nI (cI Z2.1 + 1) := (q z).1.1
          rw [if_pos j29, j10, nI_clamp (by omega)]
          omega
        · have j29 : J 436 29 ≠ 0 := by
            rw [t.1.2.2.2.2.2.2.1]
            have := v2.1.2.2
            exact fun y => z ((nI_eq (b := 0) (by omega) (by omega)).mp y)
          rw [if_neg j29]
          omega
    · rw [if_neg (show ¬ m2 ≠ 0 by omega)] at ie
      have f3 : er (failF 3 S2) ≠ 0 := failF_er (by decide)
      refine ih _ _ ⟨j + 1, _, Z2, by omega, oi.tr a, ol.tr b, t, iv.fail (by omega), fun z => absurd z f3, iH, fun z => absurd z f3, ?_⟩ ?_
      · rw [show 5 - (j + 1) = m2 by omega]
        exact ie
      · have j29 : J 436 29 ≠ 0 := by
          rw [t.1.2.2.2.2.2.2.1]
          have := (iv.fail (code := 3) (by omega)).1.2.2
          exact fun y => f3 ((nI_eq (b := 0) (by omega) (by omega)).mp y)
        rw [if_neg j29, if_pos e29, i10, nI_clamp (by omega)]
        omega
  · cases h5 : 5 - j with
    | zero => rfl
    | succ m2 => rw [inL_s, if_neg (by rw [e]; decide)]
end RINPUTS9
