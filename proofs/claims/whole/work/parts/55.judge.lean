/-! judge: pays and sets -/
section JUDGE
variable {I J : TI} {L M : TL} {b d B : Nat} {X : XT}
theorem upR_comm {r : RW} {i j : Nat} {x y : Int64} (h : i ≠ j) : upR (upR r i x) j y = upR (upR r j y) i x := by
  funext k
  unfold upR
  by_cases a : k = i
  · rw [if_pos a, if_pos a, if_neg (by omega)]
  · rw [if_neg a, if_neg a]
def payR (r : RW) (p a : Nat) : RW := upR (upR r (1 + p) (lN (un (r (1 + p)) - a))) 3 (lN (un (r 3) + a))
theorem payR_n {r : RW} {p a i : Nat} (h1 : i ≠ 1 + p) (h2 : i ≠ 3) : payR r p a i = r i := by
  unfold payR
  rw [upR_n h2, upR_n h1]
theorem c_pay {Q : TI → Prop} {p a u w : Nat} {x y : Int32} {e : Nat} (hx : x = nI p) (hp : p < 2) (hy : y = nI a) (hu : I (e + 9) p = nI u) (hw : I (e + 9) 2 = nI w) (ha : a ≤ u) (k : Q (up2 (up2 I (e + 9) p (nI (u - a))) (e + 9) 2 (nI (w + a)))) : W_X6_payCourt e x y I L Q := by
  subst hx; subst hy
  unfold W_X6_payCourt
  rw [pk_cl p rfl (by omega)]
  refine ⟨pk_in p 3 (by omega) rfl, pk_in p 3 (by omega) rfl, ?_⟩
  rintro _ rfl
  rw [up2_n (Or.inr (show (2 : Nat) ≠ p by omega)), hu, hw, pk_sub ha, nI_add]
  exact k
theorem m_pay {Q : TL → Prop} {p a u w : Nat} {x y : Int32} (hx : x = nI p) (hp : p < 2) (hy : y = nI a) (hu : L 437 (1 + p) = lN u) (hw : L 437 3 = lN w) (ha : a ≤ u) (ha2 : a < 2 ^ 31) (k : Q (up2 (up2 L 437 (1 + p) (lN (u - a))) 437 3 (lN (w + a)))) : W_X9_pays x y I L Q := by
  subst hx; subst hy
  have e1 : (1 : Int32) + nI p = nI (1 + p) := nI_add 1 p
  have v1 : vp_in ((1 : Int32) + nI p) 241 := pk_in (1 + p) 241 (by omega) e1
  unfold W_X9_pays
  rw [pk_cl (1 + p) e1 (by omega), hu, nI_l ha2, lN_sub ha]
  refine ⟨v1, v1, ?_⟩
  rintro _ rfl
  rw [up2_n (Or.inr (show (3 : Nat) ≠ 1 + p by omega)), hw, lN_add]
  exact k
theorem SC.pay {C : CQ} {r : RW} {a p f : Nat} (h : SC I L a C r) (hp : p < 2) (h1 : un (r (1 + p)) < 2 ^ 63) (h2 : un (r 3) + f < 2 ^ 63) : SC (up2 (up2 I (a + 9) p (nI (un (r (1 + p)) - f))) (a + 9) 2 (nI (un (r 3) + f))) L a C (payR r p f) :=
  (h.pur (p := p) (v := lN (un (r (1 + p)) - f)) (by omega) (by rw [un_lN (by omega)])).pur (p := 2) (v := lN (un (r 3) + f)) (by omega) (by rw [un_lN (by omega)])
theorem RV.pay {C : CQ} {r : RW} {p f B2 : Nat} (hC : CV C) (h : RV C B r) (hp : p < 2) (hB : B + f ≤ B2) (hB2 : B2 < 2 ^ 63) : RV C B2 (payR r p f) := by
  have h1 := h.2.1 p (by omega)
  have h2 := h.2.1 2 (by omega)
  rw [show 1 + 2 = 3 from rfl] at h2
  exact ((h.mono (show B ≤ B2 by omega)).pur hC (p := p) (by omega) (by rw [un_lN (by omega)]; omega)).pur hC (p := 2) (v := lN (un (r 3) + f)) (by omega) (by rw [un_lN (by omega)]; omega)
theorem SC.dsp {C : CQ} {r : RW} {a k f : Nat} {x : Int32} (hC : CV C) (h : SC I L a C r) (hf : f < 8) : SC (up2 I (a + 11 + k) f x) L a C (upR r (81 + 8 * k + f) x.toInt64) := by
  refine h.upd hC (fun q q1 q2 => upR_n (by omega)) (fun q q1 q2 => up2_row (by omega)) ?_ (fun p hp => ?_) ?_ (fun k2 hk2 f2 hf2 => ?_)
  · rw [up2_row (by omega), upR_n (by omega)]
    exact h.1
  · rw [up2_row (by omega), upR_n (by omega)]
    exact h.2.1 p hp
  · rw [up2_row (by omega), upR_n (by omega)]
    exact h.2.2.1
  · rw [upR_n (by omega)] at hk2
    by_cases q : k2 = k
    · subst q
      rw [up2_at]
      by_cases q2 : f2 = f
      · subst q2
        rw [if_pos rfl, upR_s]
      · rw [if_neg q2, upR_n (by omega)]
        exact h.2.2.2.2.2 k2 hk2 f2 hf2
    · rw [up2_row (by omega), upR_n (by omega)]
      exact h.2.2.2.2.2 k2 hk2 f2 hf2
theorem RV.dsp {C : CQ} {r : RW} {k f : Nat} {x : Int64} (hC : CV C) (h : RV C B r) (h1 : DPV C (upR r (81 + 8 * k + f) x) k) (hf : f < 8) : RV C B (upR r (81 + 8 * k + f) x) := by
  refine h.upd hC (fun q q1 q2 => upR_n (by omega)) (by rw [upR_n (by omega)]; exact h.1) (fun p hp => by rw [upR_n (by omega)]; exact h.2.1 p hp) (by rw [upR_n (by omega)]; exact h.2.2.1) (fun k2 hk2 => ?_)
  rw [upR_n (by omega)] at hk2
  by_cases q : k2 = k
  · subst q
    exact h1
  · exact (h.dp hk2).same (fun f2 hf2 => upR_n (by omega))
/-- a verdict is laid down -/
theorem RV.v7 {C : CQ} {r : RW} {k : Nat} {x : Int32} (hC : CV C) (h : RV C B r) (hk : k < un (r 4)) (hx : x = 0 ∨ x = 1) : RV C B (upR r (81 + 8 * k + 7) x.toInt64) := by
  refine h.dsp hC ?_ (by omega)
  have D := h.dp hk
  unfold DPV at *
  rw [upR_n (by omega), upR_n (by omega), upR_n (by omega), upR_n (by omega), upR_n (by omega), upR_n (by omega), upR_n (by omega), show 88 + 8 * k = 81 + 8 * k + 7 by omega, upR_s]
  refine ⟨D.1, D.2.1, D.2.2.1, D.2.2.2.1, D.2.2.2.2.1, D.2.2.2.2.2.1, Or.inr ?_⟩
  rcases hx with rfl | rfl
  · exact Or.inl rfl
  · exact Or.inr rfl
/-- a state of a dispute -/
theorem RV.v6 {C : CQ} {r : RW} {k s : Nat} {x : Int32} (hC : CV C) (h : RV C B r) (hk : k < un (r 4)) (hx : x = nI s) (hs : s ≤ 4) (h1 : s ≠ 1 ∨ r (88 + 8 * k) = 0 ∨ r (88 + 8 * k) = 1) : RV C B (upR r (81 + 8 * k + 6) x.toInt64) := by
  subst hx
  refine h.dsp hC ?_ (by omega)
  have D := h.dp hk
  unfold DPV at *
  rw [upR_n (by omega), upR_n (by omega), upR_n (by omega), upR_n (by omega), upR_n (by omega), upR_n (by omega), upR_n (show 88 + 8 * k ≠ 81 + 8 * k + 6 by omega), show 87 + 8 * k = 81 + 8 * k + 6 by omega, upR_s]
  refine ⟨D.1, D.2.1, D.2.2.1, D.2.2.2.1, D.2.2.2.2.1, ⟨s, hs, nI_l (by omega)⟩, ?_⟩
  rcases D.2.2.2.2.2.2 with ⟨q, _⟩ | q
  · rcases h1 with q2 | q2
    · refine Or.inl ⟨q, fun z => q2 ?_⟩
      rw [nI_l (by omega)] at z
      exact (lN_eq (a := s) (b := 1) (by omega) (by omega)).mp z
    · exact Or.inr q2
  · exact Or.inr q
theorem loF_01 (h : INV I L b d X B) {k : Nat} (hk : k < un (xr X 4)) {v : Int32} : ∃ p, p < 2 ∧ loF (xr X) k v = nI p := by
  obtain ⟨_, _, _, _, _, _, s7, _⟩ := h.r.ds h.C hk
  unfold loF
  split
  · rcases s7 with q | q <;> rw [q]
    · exact ⟨1, by omega, rfl⟩
    · exact ⟨0, by omega, rfl⟩
  · rcases s7 with q | q <;> rw [q]
    · exact ⟨0, by omega, rfl⟩
    · exact ⟨1, by omega, rfl⟩
theorem row_le {L : TL} {r : RW} {i a : Nat} {x : Int32} (hr : L 437 = r) (hx : x = nI a) (ha : a < 2 ^ 31) (h : un (r i) < 2 ^ 31) : x.toInt64 ≤ L 437 i ↔ a ≤ un (r i) := by
  subst hx
  rw [hr, nI_l ha]
  conv => lhs; rw [un_e (r i)]
  exact lN_le (by omega) (by omega)
theorem cv_01 {r : RW} {g len : Nat} {v : Bool} : cvF r g len v = 0 ∨ cvF r g len v = 1 := by
  unfold cvF
  generalize (if v = true then 0 else 1) = w
  split
  · exact Or.inl rfl
  · exact Or.inr rfl
theorem op_judge {p1 : Int32} {P : Int32 → Int32 → TI → TL → Prop} (h : INV I L b d X B) (hB : B < 2 ^ 30) (fin : ∀ k r J M X2, OKL k r.toInt64 J M b d X2 (B + 10000) → P k r J M) : W_L_judge p1 I L b d (fun k I1 L1 => W_X9_judge p1 I1 L1 (fun r J M => P k r J M)) := by
  have nb := h.nb
  have hc := h.r.2.2.1
  have hbl := bn_lt h.2.2.1.1
  have hm : INV I L b d X (B + 10000) := h.mono (by omega)
  unfold W_L_judge W_X8_judge
  by_cases hk : rg p1 0 (un (xr X 4))
  · obtain ⟨k, -, hk, rfl⟩ := hk
    obtain ⟨s1, s2, s3, s4, s5, s6, s7, s8, ⟨st, st1, st2⟩, s10⟩ := h.r.ds h.C hk
    have eg : dN (xr X) k = cI (xC X) + (dN (xr X) k - cI (xC X)) := by omega
    have hg : dN (xr X) k - cI (xC X) < cG (xC X) := by omega
    generalize dN (xr X) k - cI (xC X) = g at eg hg
    rw [eg] at s3
    have eln : dF (xr X) k 2 - dF (xr X) k 1 + 1 = nI (dE (xr X) k - dA (xr X) k + 1) := by rw [s4, s5, pk_sub s2.2.1, nI_1]
    obtain ⟨v, hv⟩ : ∃ v : Bool, dF (xr X) k 3 = bi v := by
      rcases s6 with q | q
      · exact ⟨false, q⟩
      · exact ⟨true, q⟩
    obtain ⟨cv, hcv⟩ : ∃ cv, cv = cvF (xr X) g (dE (xr X) k - dA (xr X) k + 1) v := ⟨_, rfl⟩
    have cv1 : cv = 0 ∨ cv = 1 := by rw [hcv]; exact cv_01
    obtain ⟨p, hp, hlo⟩ := loF_01 h hk (v := cv)
    have hu := h.r.2.1 p (by omega)
    have hw : un (xr X 3) ≤ B := h.r.2.1 2 (by omega)
    have hfee := h.C.2.2.2.2.1
    refine c_rd1 h rfl hk ⟨dis_l h (by omega), ?_⟩
    -- the reference, up to the purse
    have mgo : ∀ (K : TI → TL → Prop) (I1 : TI) (L1 : TL) (Q : Int32 → TI → TL → Prop), IM K I1 L1 X B → (dF (xr X) k 6 = 0 → B_X9_judge_90 (nI k) cv (nI p) (up2 I1 436 0 0) L1 Q) → (¬ dF (xr X) k 6 = 0 → Q (-2) (up2 I1 436 0 0) L1) → W_X9_judge (nI k) I1 L1 Q := by
      intro K I1 L1 Q hI k1 k2
      have hI2 : IM K (up2 I1 436 0 0) L1 X B := hI.thr
      unfold W_X9_judge
      refine n_noD1 hI rfl hk ⟨fun _ => s_of (f := 6) hI2.row rfl (by omega) rfl (by omega) ⟨fun e => ?_, fun e => k2 e⟩, fun e => absurd rfl e⟩
      have k1 := k1 e
      refine s_of (f := 2) hI2.row rfl (by omega) rfl (by omega) (s_of (f := 1) hI2.row rfl (by omega) rfl (by omega) (s_of (f := 0) hI2.row rfl (by omega) rfl (by omega) (s_of (f := 3) hI2.row rfl (by omega) rfl (by omega) ?_)))
      have fin62 : ∀ c, c = cv → B_X9_judge_62 (nI k) c (up2 I1 436 0 0) L1 Q := by
        rintro c rfl
        unfold B_X9_judge_62
        refine s_of (f := 5) hI2.row rfl (by omega) rfl (by omega) ⟨fun e2 => s_of (f := 4) hI2.row rfl (by omega) rfl (by omega) ?_, fun e2 => s_of (f := 4) hI2.row rfl (by omega) rfl (by omega) ?_⟩
        · have : loF (xr X) k c = dF (xr X) k 4 := by unfold loF; rw [if_neg e2]
          rw [← this, hlo]
          exact k1
        · have : loF (xr X) k c = 1 - dF (xr X) k 4 := by unfold loF; rw [if_pos e2]
          rw [← this, hlo]
          exact k1
      have dv := h.dv g hg (if v = true then 0 else 1) (by split <;> omega)
      refine n_delayFor hI2 s3 hg hv (pk_le _ _ (fun q => fin62 _ ?_) (fun q => fin62 _ ?_) eln rfl (by omega) (by omega))
      · rw [hcv]
        unfold cvF
        rw [if_pos q]
      · rw [hcv]
        unfold cvF
        rw [if_neg (by omega)]
    have iK : ∀ {x : Int64}, IM (fun J M => CI J M b d X) I (up2 L 456 0 x) X B := (IM.of h h.1 h.2.2 (fun _ _ => rfl) (fun _ _ => rfl)).out
    have bad : ∀ {K : TI → TL → Prop} {I1 : TI} {L1 : TL} (z : Int32), IM (fun J M => CI J M b d X) I1 L1 X B → I1 436 0 = 0 → L1 456 0 = z.toInt64 → P 0 z I1 L1 := fun z hI e1 e2 => fin _ _ _ _ _ (fin0 ⟨hm.1, hI.2.1, hI.k⟩ e1 e2)
    rw [h.ds hk (show 6 < 8 by omega)]
    refine ⟨fun e6 => ?_, fun e6 => mgo _ _ _ _ iK (fun e => absurd e e6) (fun _ => bad (K := fun _ _ => True) _ iK.thr up2_s up2_s)⟩
    unfold W_X3_times
    rw [h.ds hk (show 2 < 8 by omega), h.ds hk (show 1 < 8 by omega), h.ds hk (show 0 < 8 by omega), h.ds hk (show 3 < 8 by omega)]
    refine c_cheap h s3 hg eln (by omega) hv ?_
    rw [← hcv]
    refine c_loser h hk cv1 ?_
    rw [hlo, pk_cl p rfl (by omega), h.bc.2.1.2.1 p (by omega), h.bc.1.2.2.2.2.1]
    refine ⟨pk_in p 3 (by omega) rfl, pk_le _ _ (fun q => ?_) (fun q => ?_) rfl rfl (by omega) (by omega)⟩
    · refine c_record h.1 h.2.2 (fun J M hJ hi hm2 hb => ?_)
      have b15 := (hb (b + 15) (by omega) (by omega)).1
      have eu : J (b + 6 + 9) p = nI (un (xr X (1 + p))) := hJ.2.1.2.1.2.1 p (by omega)
      have ew : J (b + 6 + 9) 2 = nI (un (xr X 3)) := hJ.2.1.2.1.2.1 2 (by omega)
      refine c_pay rfl hp rfl eu ew q ?_
      obtain ⟨r2, hr2⟩ : ∃ r2, r2 = upR (upR (payR (xr X) p (cF (xC X))) (81 + 8 * k + 7) cv.toInt64) (81 + 8 * k + 6) (1 : Int32).toInt64 := ⟨_, rfl⟩
      have e4 : payR (xr X) p (cF (xC X)) 4 = xr X 4 := payR_n (by omega) (by omega)
      have hR : RV (xC X) (B + 10000) r2 := by
        rw [hr2]
        refine ((h.r.pay h.C hp (by omega) (by omega)).v7 h.C (by rw [e4]; exact hk) cv1).v6 h.C (s := 1) (by rw [upR_n (by omega), e4]; exact hk) rfl (by omega) (Or.inr ?_)
        rw [show 88 + 8 * k = 81 + 8 * k + 7 by omega, upR_s]
        rcases cv1 with q2 | q2 <;> rw [q2]
        · exact Or.inl rfl
        · exact Or.inr rfl
      have hS : SC (up2 (up2 (up2 (up2 J (b + 6 + 9) p (nI (un (xr X (1 + p)) - cF (xC X)))) (b + 6 + 9) 2 (nI (un (xr X 3) + cF (xC X)))) (b + 6 + 11 + k) 7 cv) (b + 6 + 11 + k) 6 1) M (b + 6) (xC X) r2 := by
        rw [hr2]
        have hS0 : SC J M (b + 6) (xC X) (xr X) := hJ.2.1.2.1
        exact ((hS0.pay hp (by omega) (by omega)).dsp h.C (by omega)).dsp h.C (by omega)
      rw [show b + 6 + 11 + k = b + 17 + k by omega] at hS
      have fr : ∀ q2, q2 ≠ b + 15 → q2 ≠ b + 17 + k → (up2 (up2 (up2 (up2 J (b + 6 + 9) p (nI (un (xr X (1 + p)) - cF (xC X)))) (b + 6 + 9) 2 (nI (un (xr X 3) + cF (xC X)))) (b + 17 + k) 7 cv) (b + 17 + k) 6 1) q2 = J q2 := fun q2 y1 y2 => by
        rw [up2_row y2, up2_row y2, up2_row (by omega), up2_row (by omega)]
      generalize up2 (up2 (up2 (up2 J (b + 6 + 9) p (nI (un (xr X (1 + p)) - cF (xC X)))) (b + 6 + 9) 2 (nI (un (xr X 3) + cF (xC X)))) (b + 17 + k) 7 cv) (b + 17 + k) 6 1 = J2 at hS fr
      have eR : ∀ q2, 5 ≤ q2 → q2 < 81 → r2 q2 = xr X q2 := fun q2 y1 y2 => by
        rw [hr2, upR_n (by omega), upR_n (by omega), payR_n (by omega) (by omega)]
      have hC2 : CI J2 M b d (setr (recX X) r2) := hJ.bench (recX_V h.1) (fun q2 y1 y2 => fr q2 (by omega) (by omega)) (fun _ _ _ => rfl) (hJ.2.1.st h.C eR hS (fun q2 y1 y2 y3 => ⟨fr q2 (by omega) (by omega), rfl⟩))
      have hV2 : XV (setr (recX X) r2) (B + 10000) := setr_V ((recX_V h.1).mono (by omega)) hR
      have hIM := IM.of h hV2 hC2 (fun q2 hq2 => by rw [fr q2 (by omega) (by omega), hi q2 hq2]) hm2
      refine mgo _ _ _ _ hIM.out (fun _ => ?_) (fun e => absurd e6 e)
      have hI3 := hIM.out (x := cv.toInt64) |>.thr (x := 0)
      have e1 : (1 : Int32) + nI p = nI (1 + p) := nI_add 1 p
      unfold B_X9_judge_90
      rw [pk_cl (1 + p) e1 (by omega)]
      refine ⟨pk_in (1 + p) 241 (by omega) e1, ek_if (row_le hI3.row hI3.mc.2.2.2.2.1 (by omega) (by omega)) (fun _ => ?_) (fun q2 => absurd q q2)⟩
      refine n_rec hI3 (fun J5 M5 hJ5 z5 e5 hs5 hf5 => ?_)
      have r5 : M5 437 = xr X := hJ5.row
      refine s_sets rfl (show k < 20 by omega) (f := 7) rfl (by omega) (s_sets rfl (show k < 20 by omega) (f := 6) rfl (by omega) ?_)
      refine m_pay (a := cF (xC X)) (u := un (xr X (1 + p))) (w := un (xr X 3)) rfl hp hJ5.mc.2.2.2.2.1 ?_ ?_ q (by omega) ?_
      · rw [up2_n (Or.inr (by omega)), up2_n (Or.inr (by omega)), r5]
        exact un_e _
      · rw [up2_n (Or.inr (by omega)), up2_n (Or.inr (by omega)), r5]
        exact un_e _
      · refine fin _ _ _ _ _ (fin0 (X := setr (recX X) r2) (n_end hJ5 hV2 ?_ (fun q2 y1 y2 y3 y4 y5 => ?_)) (by rw [z5, up2_s]) ?_)
        · rw [upR_row, upR_row, upR_row, upR_row, r5, hr2]
          unfold payR
          rw [upR_comm (show (81 + 8 * k + 6) ≠ 1 + p by omega), upR_comm (show (81 + 8 * k + 6) ≠ 3 by omega), upR_comm (show (81 + 8 * k + 7) ≠ 1 + p by omega), upR_comm (show (81 + 8 * k + 7) ≠ 3 by omega)]
        · rw [up2_row y1, up2_row y1, up2_row y1, up2_row y1]
        · rw [up2_row (by decide), up2_row (by decide), up2_row (by decide), up2_row (by decide), e5, up2_s]
    · refine mgo _ _ _ _ iK (fun _ => ?_) (fun e => absurd e6 e)
      have hI3 := iK (x := (-3 : Int32).toInt64) |>.thr (x := 0)
      have e1 : (1 : Int32) + nI p = nI (1 + p) := nI_add 1 p
      unfold B_X9_judge_90
      rw [pk_cl (1 + p) e1 (by omega)]
      exact ⟨pk_in (1 + p) 241 (by omega) e1, ek_if (row_le hI3.row hI3.mc.2.2.2.2.1 (by omega) (by omega)) (fun q2 => absurd q2 (by omega)) (fun _ => bad (K := fun _ _ => True) _ hI3 up2_s up2_s)⟩
  · refine c_rd0 h hk ⟨rfl, ?_⟩
    unfold W_X9_judge
    exact m_noD0 h hk ⟨fun e => absurd e (by decide), fun _ => fin _ _ _ _ _ (fin1 hm.thr up2_s (by decide))⟩
end JUDGE
