/-! the reference reads an input -/
section RINPUT9
variable {I J : TI} {L M : TL}
theorem wvL_er {c : Nat → Nat} {ln H : Nat} {S : PS} (h : er S ≠ 0) : ∀ n w last, wvL c ln H n w last S = (w, S)
  | 0, _, _ => rfl
  | n + 1, w, last => by
    have : ¬ nuB S = true := by
      unfold nuB
      rw [decide_eq_true_iff]
      exact fun z => h z.1
    unfold wvL
    rw [if_neg this]
theorem RK.adI {Z : ZT} {w : Int64} (h : RK I L Z) (hI : cI Z.1 ≤ 4) : RK (up2 I 436 10 (nI (cI Z.1 + 1))) (up2 L 437 (5 + cI Z.1) w) (adI Z w) := by
  obtain ⟨⟨h1, h2, h3, h4, h5, h6⟩, h7⟩ := h
  refine ⟨⟨up2_s, ?_, ?_, ?_, ?_, fun g hg => ?_⟩, fun i hi => ?_⟩
  · rw [up2_n (Or.inr (by decide))]; exact h2
  · rw [up2_n (Or.inr (by decide))]; exact h3
  · rw [up2_n (Or.inr (by decide))]; exact h4
  · rw [up2_n (Or.inr (by decide))]; exact h5
  · rw [up2_row (by decide), up2_row (by decide), up2_row (by decide)]
    exact h6 g hg
  · show _ = upR Z.2 (5 + cI Z.1) w i
    rw [up2_at]
    unfold upR
    by_cases z : i = 5 + cI Z.1
    · rw [if_pos z, if_pos z]
    · rw [if_neg z, if_neg z]
      exact h7 i hi
/-- the flips, in the reference -/
theorem m_flips {Q : TI → TL → Prop} {c : Nat → Nat} {ln H : Nat} {S1 : PS} {w0 w9 : Int64} (hc : txV c ln) (h1 : 1 ≤ H) (hH : H ≤ 60) (h7 : I 436 7 = nI H) (h : TR I L c ln S1) (v : PX c ln S1) (h9 : er S1 = 0 → w9 = w0)
    (k : ∀ J M, fI I J → tL L M → TR J M c ln (wvL c ln H 61 w0 0 S1).2 → PX c ln (wvL c ln H 61 w0 0 S1).2 → ∀ w, (er (wvL c ln H 61 w0 0 S1).2 = 0 → w = (wvL c ln H 61 w0 0 S1).1) → B_X9_inputRead_130 w J M Q) : B_X9_inputRead_52 0 w9 I L Q := by
  generalize hR : wvL c ln H 61 w0 0 S1 = R at k
  unfold B_X9_inputRead_52
  refine lp4 (fun n a w i l => L_X9_inputRead_53 Q n a w i l) (fun a w i l => ∃ m last w1 S2, m ≤ 61 ∧ fI I i ∧ tL L l ∧ TR i l c ln S2 ∧ PX c ln S2 ∧ (er S2 = 0 → a = nI last ∧ w = w1 ∧ m ≤ last ∧ last ≤ H) ∧ wvL c ln H (61 - m) w1 last S2 = R) (fun a _ i _ => if i 436 29 = 0 then 62 - a.toNatClampNeg else 0) ?_ _ _ _ _ ⟨0, 0, w0, S1, Nat.zero_le _, fI.rf I, tL.rf L, h, v, fun e => ⟨rfl, h9 e, Nat.le_refl _, Nat.zero_le _⟩, hR⟩
  rintro n a w i l ⟨m, last, w1, S2, m1, oi, ol, it, iv, ig, iw⟩ ih
  have i7 : i 436 7 = nI H := by rw [oi.2 7 (by omega)]; exact h7
  have e29 : er S2 = 0 → i 436 29 = 0 := fun e => by rw [it.1.2.2.2.2.2.2.1, e]; rfl
  -- the wave ends
  have done : (er S2 = 0 → R = (w1, S2)) → B_X9_inputRead_130 w i l Q := by
    intro e
    have e2 : (R).2 = S2 := by
      by_cases y : er S2 = 0
      · rw [e y]
      · rw [← iw, wvL_er y]
    refine k i l oi ol (by rw [e2]; exact it) (by rw [e2]; exact iv) w (fun y => ?_)
    rw [e2] at y
    rw [e y]
    exact (ig y).2.1
  show D_X9_inputRead_53 Q (fun v2 v3 I L => L_X9_inputRead_53 Q n v2 v3 I L) a w i l
  unfold D_X9_inputRead_53
  refine m_good it iv.1 (fun e => ⟨fun _ => done (fun y => absurd y e), fun z => absurd rfl z⟩) (fun e => ⟨fun z => absurd z (by decide), fun _ => ?_⟩)
  obtain ⟨rfl, rfl, ml, lH⟩ := ig e
  obtain ⟨m2, hm2⟩ : ∃ m2, 61 - m = m2 + 1 := ⟨60 - m, by omega⟩
  rw [hm2] at iw
  have tk3 := iv.1.2.1.1
  rw [it.1.2.2.2.1, i7]
  have e2 : nI (tk S2) = 2 ↔ tk S2 = 2 := nI_eq (b := 2) (by omega) (by omega)
  refine ⟨fun z => done (fun _ => ?_), fun z => ?_⟩
  · have : ¬ nuB S2 = true := by
      unfold nuB
      rw [decide_eq_true_iff]
      exact fun y => z (e2.mpr y.2)
    unfold wvL at iw
    rw [if_neg this] at iw
    exact iw.symm
  · have t2 := e2.mp z
    have nu : nuB S2 = true := by unfold nuB; exact decide_eq_true ⟨e, t2⟩
    unfold wvL at iw
    rw [if_pos nu] at iw
    obtain ⟨q, q1, q2, q3⟩ := it.1.2.2.2.2.1 t2
    rw [q1]
    -- a flip that fails
    have bad : ∀ (i3 : TI) (S3 : PS), fI i i3 → TR i3 l c ln S3 → PX c ln S3 → er (takeN c ln 1 H S3) ≠ 0 → takeN c ln 1 H S3 = advF c ln (if last < peekV c 1 H S2 then peekF c 1 H S2 else failF 4 (peekF c 1 H S2)) → B_X9_inputRead_99 w i3 l Q (fun v2 v3 I L => L_X9_inputRead_53 Q n v2 v3 I L) := by
      intro i3 S3 o3 t3 v3 b1 b2
      have i37 : i3 436 7 = nI H := by rw [o3.2 7 (by omega)]; exact i7
      unfold B_X9_inputRead_99
      rw [i37]
      refine m_number (lo := 1) (hi := H) rfl rfl (by omega) (by omega) hc t3 v3 (fun J M aJ aM aT => ?_)
      refine m_good aT v3.takeN.1 (fun _ => ⟨fun _ => ?_, fun y => absurd rfl y⟩) (fun y => absurd y b1)
      refine ih _ _ _ _ ⟨m + 1, peekV c 1 H S2, w ^^^ win (peekV c 1 H S2) H, takeN c ln 1 H S3, by omega, (oi.tr o3).tr aJ, ol.tr aM, aT, v3.takeN, fun y => absurd y b1, ?_⟩ ?_
      · rw [show 61 - (m + 1) = m2 by omega, b2]
        exact iw
      · have g29 : J 436 29 ≠ 0 := by
          rw [aT.1.2.2.2.2.2.2.1]
          intro y
          have v4 := (v3.takeN (lo := 1) (hi := H) (ln := ln)).1.2.2
          exact b1 ((nI_eq (b := 0) (by omega) (by omega)).mp y)
        rw [if_neg g29, if_pos (e29 e), nI_clamp (by omega)]
        omega
    refine s_in (a := 1) (c := H + 1) rfl rfl (by congr 1; exact (nI_pred H).symm) (by omega) (by omega) (by omega) (fun y => ⟨fun z2 => absurd z2 (by decide), fun _ => ?_⟩) (fun y => ⟨fun _ => ?_, fun z2 => absurd rfl z2⟩)
    · obtain ⟨x, x1, x2, x3⟩ := y
      have qx : q = x := (nI_eq (by omega) (by omega)).mp x3
      have hin : 1 ≤ numF c S2 ∧ numF c S2 ≤ H ∧ q = numF c S2 := by omega
      have ef : peekF c 1 H S2 = S2 := by
        unfold peekF inB
        rw [if_pos nu, decide_eq_true ⟨hin.1, hin.2.1⟩, if_pos rfl]
      have ev : peekV c 1 H S2 = q := by
        unfold peekV
        rw [ef, if_pos e, hin.2.2]
      rw [ev, ef] at iw
      rw [ev, ef] at bad
      refine pk_lt last q (fun y2 => ?_) (fun y2 => ?_) rfl rfl (by omega) (by omega)
      · rw [if_pos y2] at iw
        unfold B_X9_inputRead_99
        rw [i7]
        refine m_number (lo := 1) (hi := H) rfl rfl (by omega) (by omega) hc it iv (fun J M aJ aM aT => ?_)
        have en : takeN c ln 1 H S2 = advF c ln S2 := by unfold takeN; rw [ef]
        rw [en] at aT
        rw [ev]
        have ee : er (advF c ln S2) = 0 := by rw [er_adv]; exact e
        have j7 : J 436 7 = nI H := by rw [aJ.2 7 (by omega)]; exact i7
        refine m_good aT iv.adv.1 (fun y3 => absurd ee y3) (fun _ => ⟨fun y3 => absurd y3 (by decide), fun _ => ?_⟩)
        rw [j7]
        refine s_times rfl rfl (by omega) (by omega) ?_
        refine ih _ _ _ _ ⟨m + 1, q, _, advF c ln S2, by omega, oi.tr aJ, ol.tr aM, aT, iv.adv, fun _ => ⟨rfl, rfl, by omega, by omega⟩, ?_⟩ ?_
        · rw [show 61 - (m + 1) = m2 by omega]
          exact iw
        · have g29 : J 436 29 = 0 := by rw [aT.1.2.2.2.2.2.2.1, ee]; rfl
          rw [if_pos g29, if_pos (e29 e), nI_clamp (by omega), nI_clamp (by omega)]
          omega
      · rw [if_neg (by omega)] at iw
        have f4 : er (failF 4 S2) ≠ 0 := failF_er (by decide)
        refine m_faults (code := 4) rfl it iv.1 (fun J aJ aT => bad J (failF 4 S2) aJ aT (iv.fail (by omega)) ?_ ?_)
        · rw [(takeN_er f4).1]
          exact f4
        · rw [(takeN_er f4).1, if_neg (by omega), advF_er f4]
    · have hout : ¬ (1 ≤ numF c S2 ∧ numF c S2 ≤ H) := fun x => y ⟨q, by omega, by omega, rfl⟩
      have ef : peekF c 1 H S2 = failF 2 S2 := by
        unfold peekF inB
        rw [if_pos nu, decide_eq_false hout, if_neg (by decide)]
      have f2 : er (failF 2 S2) ≠ 0 := failF_er (by decide)
      have en : takeN c ln 1 H S2 = failF 2 S2 := by unfold takeN; rw [ef, advF_er f2]
      refine bad i S2 (fI.rf i) it iv (by rw [en]; exact f2) ?_
      rw [en, ef, er_fail f2]
      split <;> rw [advF_er f2]
end RINPUT9
