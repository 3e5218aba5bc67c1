/-! the class reads head and inputs -/
section RWAVE
variable {I J : TI} {L M : TL}
theorem peekV_b {c : Nat → Nat} {lo hi : Nat} {S : PS} (h : lo ≤ hi) : lo ≤ peekV c lo hi S ∧ peekV c lo hi S ≤ hi := by
  unfold peekV
  split
  · rename_i e
    unfold peekF at e
    by_cases q : nuB S = true
    · rw [if_pos q] at e
      by_cases q2 : inB c lo hi S = true
      · unfold inB at q2
        exact of_decide_eq_true q2
      · rw [if_neg q2] at e
        exact absurd e (failF_er (by decide))
    · rw [if_neg q] at e
      exact absurd e (failF_er (by decide))
  · exact ⟨Nat.le_refl _, h⟩
theorem PX.takeN {c : Nat → Nat} {ln lo hi : Nat} {S : PS} (v : PX c ln S) : PX c ln (takeN c ln lo hi S) := (peekF_v v).adv
theorem PX.takeS {c : Nat → Nat} {ln b : Nat} {S : PS} (v : PX c ln S) : PX c ln (takeS c ln b S) := by
  unfold CGlitchCourtLaw_law_r2238_8e8914.takeS
  split
  · exact v.adv
  · exact (v.fail (by omega)).adv
theorem PX.takeW {c : Nat → Nat} {ln w : Nat} {S : PS} (v : PX c ln S) : PX c ln (takeW c ln w S) := by
  unfold CGlitchCourtLaw_law_r2238_8e8914.takeW
  split
  · exact v.adv
  · exact (v.fail (by omega)).adv
/-- the flips of a wave -/
def wvL (c : Nat → Nat) (ln H : Nat) : Nat → Int64 → Nat → PS → Int64 × PS
  | 0, w, _, S => (w, S)
  | n + 1, w, last, S => if nuB S = true then wvL c ln H n (w ^^^ win (peekV c 1 H S) H) (peekV c 1 H S) (advF c ln (if last < peekV c 1 H S then peekF c 1 H S else failF 4 (peekF c 1 H S))) else (w, S)
def wv0 (c : Nat → Nat) (H : Nat) (S : PS) : Int64 := if peekV c 0 1 S = 1 then win 0 H else 0
def rdWave (c : Nat → Nat) (ln H : Nat) (S : PS) : Int64 × PS := ((wvL c ln H 61 (wv0 c H S) 0 (takeN c ln 0 1 S)).1, takeS c ln 59 (wvL c ln H 61 (wv0 c H S) 0 (takeN c ln 0 1 S)).2)
theorem wvL_v {c : Nat → Nat} {ln H : Nat} (hH : H ≤ 60) : ∀ n w last S, PX c ln S → inH H w → PX c ln (wvL c ln H n w last S).2 ∧ inH H (wvL c ln H n w last S).1
  | 0, w, last, S, h, hw => ⟨h, hw⟩
  | n + 1, w, last, S, h, hw => by
    unfold wvL
    by_cases q : nuB S = true
    · rw [if_pos q]
      by_cases h1 : 1 ≤ H
      · have b := peekV_b (c := c) (lo := 1) (hi := H) (S := S) h1
        refine wvL_v hH n _ _ _ ?_ (inH_xor hw (inH_win (Nat.le_refl _) (by omega)))
        split
        · exact (peekF_v h).adv
        · exact ((peekF_v h).fail (by omega)).adv
      · refine wvL_v hH n _ _ _ ?_ (inH_xor hw (inH_win (Nat.le_refl _) ?_))
        · split
          · exact (peekF_v h).adv
          · exact ((peekF_v h).fail (by omega)).adv
        · have : peekV c 1 H S ≤ 1 := by
            unfold peekV
            split
            · rename_i e
              unfold peekF at e
              rw [if_pos q] at e
              by_cases q2 : inB c 1 H S = true
              · unfold inB at q2
                have := of_decide_eq_true q2
                omega
              · rw [if_neg q2] at e
                exact absurd e (failF_er (by decide))
            · exact Nat.le_refl _
          omega
    · rw [if_neg q]
      exact ⟨h, hw⟩
theorem wv0_in {c : Nat → Nat} {H : Nat} {S : PS} : inH H (wv0 c H S) := by
  unfold wv0
  split
  · exact inH_win (Nat.le_refl _) (by omega)
  · exact inH_0
theorem rdWave_v {c : Nat → Nat} {ln H : Nat} {S : PS} (hH : H ≤ 60) (h : PX c ln S) : PX c ln (rdWave c ln H S).2 ∧ inH H (rdWave c ln H S).1 := by
  have := wvL_v hH 61 (wv0 c H S) 0 (takeN c ln 0 1 S) h.takeN wv0_in
  exact ⟨this.1.takeS, this.2⟩
theorem c_readWave {Q : Int64 → TI → Prop} {c : Nat → Nat} {ln H : Nat} {S : PS} {x : Int32} (hx : x = nI H) (h1 : 1 ≤ H) (hH : H ≤ 60) (hc : txV c ln) (h : TC I c ln S) (v : PX c ln S) (k : ∀ J, (∀ q, q ≠ 344 → J q = I q) → TC J c ln (rdWave c ln H S).2 → Q (rdWave c ln H S).1 J) : W_X1_readWave x I L 350 Q := by
  subst hx
  unfold W_X1_readWave
  refine c_takeNumber (lo := 0) (hi := 1) rfl rfl (by omega) (by omega) hc h v (fun J hJ hT => ?_)
  have go : ∀ w0, w0 = wv0 c H S → B_X1_readWave_19 (nI H) w0 J L 350 Q := by
    rintro w0 rfl
    unfold B_X1_readWave_19
    refine lp4 (fun n w a m i => L_X1_readWave_26 (nI H) L 350 Q n w a m i) (fun w a m i => ∃ last j S2, m = nI j ∧ j ≤ 61 ∧ a = nI last ∧ last ≤ 60 ∧ (∀ q, q ≠ 344 → i q = I q) ∧ TC i c ln S2 ∧ PX c ln S2 ∧ wvL c ln H (61 - j) w last S2 = wvL c ln H 61 (wv0 c H S) 0 (takeN c ln 0 1 S)) (fun _ _ m _ => 62 - m.toNatClampNeg) ?_ _ _ _ _ ⟨0, 0, _, rfl, Nat.zero_le _, rfl, Nat.zero_le _, hJ, hT, v.takeN, rfl⟩
    rintro n w a m i ⟨last, j, S2, rfl, j1, rfl, l1, iq, it, iv, iw⟩ ih
    -- the end of the wave
    have done : wvL c ln H 61 (wv0 c H S) 0 (takeN c ln 0 1 S) = (w, S2) → B_X1_readWave_83 w i L 350 Q := by
      intro e
      unfold B_X1_readWave_83
      refine c_takeSign (b := 59) rfl (by omega) hc it iv (fun J2 a2 b2 => ?_)
      have := k J2 (fun q hq => by rw [a2 q hq, iq q hq]) (by unfold rdWave; rw [e]; exact b2)
      unfold rdWave at this
      rw [e] at this
      exact this
    refine pk_lt 60 j (fun q => ?_) (fun q => ?_) rfl rfl (by omega) (by omega)
    · have : j = 61 := by omega
      subst this
      exact done iw.symm
    · obtain ⟨m2, hm2⟩ : ∃ m2, 61 - j = m2 + 1 := ⟨60 - j, by omega⟩
      rw [hm2] at iw
      unfold wvL at iw
      refine c_isNumber it iv.1 (fun e => ⟨fun z => absurd z (by decide), fun _ => ?_⟩) (fun e => ⟨fun _ => done ?_, fun z => absurd rfl z⟩)
      · rw [if_pos e] at iw
        have pb := peekV_b (c := c) (lo := 1) (hi := H) (S := S2) h1
        refine c_peek (lo := 1) (hi := H) rfl rfl (by omega) (by omega) it iv (fun J2 a2 b2 => ?_)
        have nx : ∀ (J3 : TI) (S3 : PS), (∀ q, q ≠ 344 → J3 q = I q) → TC J3 c ln S3 → PX c ln S3 → S3 = (if last < peekV c 1 H S2 then peekF c 1 H S2 else failF 4 (peekF c 1 H S2)) → B_X1_readWave_60 (nI H) w (nI j) (nI (peekV c 1 H S2)) J3 L 350 Q (fun v2 v4 v5 I => L_X1_readWave_26 (nI H) L 350 Q n v2 v4 v5 I) := by
          intro J3 S3 c1 c2 c3 c4
          unfold B_X1_readWave_60
          refine c_adv hc c2 c3.1 (fun J4 a4 b4 => s_window rfl rfl (by omega) (by omega) ?_)
          refine ih _ _ _ _ ⟨peekV c 1 H S2, j + 1, advF c ln S3, nI_1 j, by omega, rfl, by omega, fun q hq => by rw [a4 q hq, c1 q hq], b4, c3.adv, ?_⟩ (by rw [nI_1, nI_clamp (by omega), nI_clamp (by omega)]; omega)
          rw [show 61 - (j + 1) = m2 by omega, c4]
          exact iw
        refine pk_lt last (peekV c 1 H S2) (fun y => ?_) (fun y => ?_) rfl rfl (by omega) (by omega)
        · exact nx J2 _ (fun q hq => by rw [a2 q hq, iq q hq]) b2 (peekF_v iv) (by rw [if_pos y])
        · exact c_fail (code := 4) b2 (peekF_v iv).1 rfl (fun J3 a3 b3 => nx J3 _ (fun q hq => by rw [a3 q hq, a2 q hq, iq q hq]) b3 ((peekF_v iv).fail (by omega)) (by rw [if_neg (by omega)]))
      · rw [if_neg (by rw [e]; decide)] at iw
        exact iw.symm
  have pb := peekV_b (c := c) (lo := 0) (hi := 1) (S := S) (by omega)
  have e1 : nI (peekV c 0 1 S) = 1 ↔ peekV c 0 1 S = 1 := nI_eq (b := 1) (by omega) (by omega)
  refine ⟨fun e => go 0 ?_, fun e => s_window (a := 0) (b := H) rfl rfl (by omega) (by omega) (go _ ?_)⟩
  · unfold wv0
    rw [if_neg (fun z => e (e1.mpr z))]
  · unfold wv0
    rw [if_pos (e1.mp e)]
end RWAVE
