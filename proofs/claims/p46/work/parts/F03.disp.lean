/-! what the class's methods do: open, judge, appeal, accept -/
section JD
variable {I J : TI} {L M : TL} {b d B : Nat} {X : XT}
theorem j_open {Q : Int32 → TI → TL → Prop} {QX : String → TI → TL → Prop} {p1 p2 p3 p4 : Int32} {g t : Nat} (h : INV I L b d X B) (hp : puA (xC X) (xr X) p2 p3 g t) (hpt : p1 = 0 ∨ p1 = 1) (h4 : p4 = 0 ∨ p4 = 1)
    (k1 : ∀ k J M X2, k < un (xr X2 4) → k < 20 → INV J M b d X2 B → xC X2 = xC X → hiI I J → pS (xr X2) = pS (xr X) → Q (nI k) J M) (k2 : ∀ z, z = -2 ∨ z = -3 → Q z I L) : W_X8_open p1 p2 p3 p4 I L b d Q QX := by
  have nb := h.nb
  have hc := h.r.2.2.1
  have hbl := bn_lt h.2.2.1.1
  unfold W_X8_open
  obtain ⟨rfl, hg, a3, i, a4, rfl, a6⟩ := id hp
  obtain ⟨o1, o2, o3, o4⟩ := h.C.net hg
  have lt := pf_lt a3
  have le := pf_en a3
  have hn : cI (xC X) + g < cI (xC X) + cG (xC X) := by omega
  refine c_rp1 h hp ?_
  have e7 : I (b + 6) 7 = nI (un (xr X 4)) := h.bc.2.1.2.2.1
  have go : B_X8_open_28 p1 (nI (cI (xC X) + g)) p4 (nI t) I L b d Q QX := by
    unfold B_X8_open_28
    refine s_runEnd h.bc h.C rfl hn rfl (by omega) ?_
    have wEn : nI (enN (shF (xC X) (xr X) (cI (xC X) + g)) (cH (xC X)) t) = nI (en (xC X) (xr X) g t) := rfl
    rw [wEn]
    refine c_hasPending h rfl rfl rfl (fun hy => ⟨fun z => absurd z (by decide), fun _ => k2 _ (Or.inl rfl)⟩) (fun hno => ⟨fun _ => ?_, fun z => absurd rfl z⟩)
    rw [e7]
    refine pk_lt (un (xr X 4)) 20 (fun q => ?_) (fun q => k2 _ (Or.inr rfl)) rfl rfl (by omega) (by omega)
    refine c_record h.1 h.2.2 (fun J M hJ hi hm hb => ?_)
    have b37 := (hb (b + 37) (by omega) (by omega)).2
    have b6 := (hb (b + 6) (by omega) (by omega)).1
    refine ⟨pk_in (un (xr X 4)) 20 q rfl, pk_in _ 16 o4 rfl, ?_⟩
    rw [pk_cl (cI (xC X) + g) rfl (by omega), pk_cl (un (xr X 4)) rfl (by omega), b37, (h.bc.2.2 _ hn).1, b6, e7, nI_1]
    refine s_bitOf rfl (by omega) (s_start h4 (fun J2 hs v0 v1 v2 v3 v4 v5 v6 v7 => ?_))
    -- the values of the new dispute
    have hJa : J2 (b + 6) 7 = nI (un (xr X 4) + 1) := by rw [hs (b + 6) (nin1 (by omega)), up2_s]
    have hJ8 : J2 (b + 6) 8 = J (b + 6) 8 := by rw [hs (b + 6) (nin1 (by omega)), up2_n (Or.inr (by decide))]
    have hJo : ∀ q2, q2 ≠ b + 6 → q2 ≠ b + 17 + un (xr X 4) → J2 q2 = J q2 := fun q2 y1 y2 => by rw [hs q2 (nin1 y2), up2_row y1]
    obtain ⟨v, hv⟩ : ∃ v, v = opV (nI (cI (xC X) + g)) (nI t) (nI (en (xC X) (xr X) g t)) (bi (bw (shF (xC X) (xr X) (cI (xC X) + g)) t)) p1 p4 := ⟨_, rfl⟩
    have hvf : ∀ f, f < 8 → J2 (b + 17 + un (xr X 4)) f = v f := fun f hf => by
      rw [hv]
      match f, hf with
      | 0, _ => exact v0
      | 1, _ => exact v1
      | 2, _ => exact v2
      | 3, _ => exact v3
      | 4, _ => exact v4
      | 5, _ => exact v5
      | 6, _ => exact v6
      | 7, _ => exact v7
    have w0 : v 0 = nI (cI (xC X) + g) := by rw [hv]; rfl
    have w1 : v 1 = nI t := by rw [hv]; rfl
    have w2 : v 2 = nI (en (xC X) (xr X) g t) := by rw [hv]; rfl
    have w3 : v 3 = bi (bw (shF (xC X) (xr X) (cI (xC X) + g)) t) := by rw [hv]; rfl
    have w4 : v 4 = p1 := by rw [hv]; rfl
    have w5 : v 5 = p4 := by rw [hv]; rfl
    have w6 : v 6 = 0 := by rw [hv]; rfl
    have w7 : v 7 = -1 := by rw [hv]; rfl
    have hnw : ∀ k2, k2 < 81 → k2 ≠ 4 → nwR (xr X) (un (xr X 4)) v k2 = xr X k2 := fun k2 y1 y2 => by
      unfold nwR
      rw [if_neg y2, if_neg (by omega)]
    have hnd : ∀ f, f < 8 → nwR (xr X) (un (xr X 4)) v (81 + 8 * un (xr X 4) + f) = (v f).toInt64 := fun f hf => by
      unfold nwR
      rw [if_neg (by omega), if_pos (by omega), Nat.add_sub_cancel_left]
    have hno2 : ∀ k2 f, k2 ≠ un (xr X 4) → f < 8 → nwR (xr X) (un (xr X 4)) v (81 + 8 * k2 + f) = xr X (81 + 8 * k2 + f) := fun k2 f y1 y2 => by
      unfold nwR
      rw [if_neg (by omega), if_neg (by omega)]
    have hn4 : nwR (xr X) (un (xr X 4)) v 4 = lN (un (xr X 4) + 1) := by
      unfold nwR
      rw [if_pos rfl]
      conv => lhs; rw [un_e (xr X 4)]
      exact lN_1 _
    have hu4 : un (nwR (xr X) (un (xr X 4)) v 4) = un (xr X 4) + 1 := by rw [hn4, un_lN (by omega)]
    have hr2 : RV (xC X) B (nwR (xr X) (un (xr X 4)) v) := by
      refine h.r.upd h.C (fun k2 y1 y2 => hnw k2 y2 (by omega)) (by rw [hnw 0 (by omega) (by omega)]; exact h.r.1) (fun p hp2 => by rw [hnw (1 + p) (by omega) (by omega)]; exact h.r.2.1 p hp2) (by rw [hu4]; omega) (fun k2 hk2 => ?_)
      rw [hu4] at hk2
      by_cases y : k2 = un (xr X 4)
      · subst y
        have f1 := hnd 1 (by omega)
        have f2 := hnd 2 (by omega)
        have f3 := hnd 3 (by omega)
        have f4 := hnd 4 (by omega)
        have f5 := hnd 5 (by omega)
        have f6 := hnd 6 (by omega)
        have f7 := hnd 7 (by omega)
        rw [show 81 + 8 * un (xr X 4) + 1 = 82 + 8 * un (xr X 4) by omega] at f1
        rw [show 81 + 8 * un (xr X 4) + 2 = 83 + 8 * un (xr X 4) by omega] at f2
        rw [show 81 + 8 * un (xr X 4) + 3 = 84 + 8 * un (xr X 4) by omega] at f3
        rw [show 81 + 8 * un (xr X 4) + 4 = 85 + 8 * un (xr X 4) by omega] at f4
        rw [show 81 + 8 * un (xr X 4) + 5 = 86 + 8 * un (xr X 4) by omega] at f5
        rw [show 81 + 8 * un (xr X 4) + 6 = 87 + 8 * un (xr X 4) by omega] at f6
        rw [show 81 + 8 * un (xr X 4) + 7 = 88 + 8 * un (xr X 4) by omega] at f7
        refine DPV.of (g := g) (a := t) (e := en (xC X) (xr X) g t) (v3 := bi (bw (shF (xC X) (xr X) (cI (xC X) + g)) t)) (v4 := p1) (v5 := p4) (v6 := 0) (v7 := -1) h.C hg (by omega) le.1 le.2 ((hnd 0 (by omega)).trans (congrArg Int32.toInt64 w0)) (f1.trans (congrArg Int32.toInt64 w1)) (f2.trans (congrArg Int32.toInt64 w2)) (f3.trans (congrArg Int32.toInt64 w3)) (f4.trans (congrArg Int32.toInt64 w4)) (f5.trans (congrArg Int32.toInt64 w5)) (f6.trans (congrArg Int32.toInt64 w6)) (f7.trans (congrArg Int32.toInt64 w7)) (bi_01 _) hpt h4 ⟨0, by omega, rfl⟩ (Or.inl ⟨rfl, by decide⟩)
      · exact (h.r.dp (show k2 < un (xr X 4) by omega)).same (fun f hf => hno2 k2 f y hf)
    have hS2 : SC J2 M (b + 6) (xC X) (nwR (xr X) (un (xr X 4)) v) := by
      have hS := hJ.2.1.2.1
      refine hS.upd h.C (fun k2 y1 y2 => hnw k2 y2 (by omega)) (fun q2 y1 y2 => hJo q2 (by omega) (by omega)) ?_ (fun p hp2 => ?_) ?_ (fun k2 hk2 f hf => ?_)
      · rw [hJ8, hnw 0 (by omega) (by omega)]
        exact hS.1
      · rw [hJo (b + 6 + 9) (by omega) (by omega), hnw (1 + p) (by omega) (by omega)]
        exact hS.2.1 p hp2
      · rw [hJa, hu4]
      · rw [hu4] at hk2
        by_cases y : k2 = un (xr X 4)
        · subst y
          rw [hnd f hf, show b + 6 + 11 + un (xr X 4) = b + 17 + un (xr X 4) by omega, hvf f hf]
        · rw [hno2 k2 f y hf, hJo _ (by omega) (by omega)]
          exact hS.2.2.2.2.2 k2 (show k2 < un (xr X 4) by omega) f hf
    have hC2 : CI J2 M b d (setr (recX X) (nwR (xr X) (un (xr X 4)) v)) := by
      refine hJ.bench (recX_V h.1) (fun q2 y1 y2 => hJo q2 (by omega) (by omega)) (fun _ _ _ => rfl) (hJ.2.1.st h.C (fun q2 y1 y2 => hnw q2 y2 (by omega)) hS2 (fun q2 y1 y2 y3 => ⟨hJo q2 (by omega) (by omega), rfl⟩))
    have hV2 : XV (setr (recX X) (nwR (xr X) (un (xr X 4)) v)) B := setr_V (recX_V h.1) hr2
    refine k1 (un (xr X 4)) J2 M (setr (recX X) (nwR (xr X) (un (xr X 4)) v)) ?_ q ⟨hV2, trivial, hC2⟩ rfl (fun q2 hq2 => by rw [hJo q2 (by omega) (by omega), hi q2 hq2]) (pS_cg (fun i2 i1 i3 => hnw i2 (by omega) (by omega)))
    show un (xr X 4) < un (nwR (xr X) (un (xr X 4)) v 4)
    rw [hu4]
    omega
  exact ⟨fun _ => go, fun e1 => ⟨fun _ => go, fun e2 => absurd hpt (fun z => z.elim e1 e2)⟩⟩
theorem j_judge {Q : Int32 → TI → TL → Prop} {QX : String → TI → TL → Prop} {x : Int32} {k : Nat} (h : INV I L b d X B) (hB : B < 2 ^ 30) (hx : x = nI k) (hk : k < un (xr X 4))
    (k1 : ∀ v J M X2, v = 0 ∨ v = 1 → k < un (xr X2 4) → INV J M b d X2 (B + 10000) → xC X2 = xC X → hiI I J → pS (xr X2) = pS (xr X) → Q v J M) (k2 : ∀ z, z = -2 ∨ z = -3 → Q z I L) : W_X8_judge x I L b d Q QX := by
  have nb := h.nb
  have hc := h.r.2.2.1
  have hbl := bn_lt h.2.2.1.1
  subst hx
  unfold W_X8_judge
  obtain ⟨s1, s2, s3, s4, s5, s6, s7, s8, ⟨st, st1, st2⟩, s10⟩ := h.r.ds h.C hk
  have eg : dN (xr X) k = cI (xC X) + (dN (xr X) k - cI (xC X)) := by omega
  have hg : dN (xr X) k - cI (xC X) < cG (xC X) := by omega
  generalize dN (xr X) k - cI (xC X) = g at eg hg
  rw [eg] at s3
  have eln : dF (xr X) k 2 - dF (xr X) k 1 + 1 = nI (dE (xr X) k - dA (xr X) k + 1) := by rw [s4, s5, pk_sub s2.2.1, nI_1]
  obtain ⟨v, hv⟩ : ∃ v : Bool, dF (xr X) k 3 = bi v := by
    rcases s6 with q | q
    · exact ⟨false, q⟩
    · exact ⟨true, q⟩
  obtain ⟨cv, hcv⟩ : ∃ cv, cv = cvF (xr X) g (dE (xr X) k - dA (xr X) k + 1) v := ⟨_, rfl⟩
  have cv1 : cv = 0 ∨ cv = 1 := by rw [hcv]; exact cv_01
  obtain ⟨p, hp, hlo⟩ := loF_01 h hk (v := cv)
  have hu := h.r.2.1 p (by omega)
  have hw : un (xr X 3) ≤ B := h.r.2.1 2 (by omega)
  have hfee := h.C.2.2.2.2.1
  refine c_rd1 h rfl hk ⟨dis_l h (by omega), ?_⟩
  rw [h.ds hk (show 6 < 8 by omega)]
  refine ⟨fun e6 => ?_, fun e6 => k2 _ (Or.inl rfl)⟩
  unfold W_X3_times
  rw [h.ds hk (show 2 < 8 by omega), h.ds hk (show 1 < 8 by omega), h.ds hk (show 0 < 8 by omega), h.ds hk (show 3 < 8 by omega)]
  refine c_cheap h s3 hg eln (by omega) hv ?_
  rw [← hcv]
  refine c_loser h hk cv1 ?_
  rw [hlo, pk_cl p rfl (by omega), h.bc.2.1.2.1 p (by omega), h.bc.1.2.2.2.2.1]
  refine ⟨pk_in p 3 (by omega) rfl, pk_le _ _ (fun q => ?_) (fun q => k2 _ (Or.inr rfl)) rfl rfl (by omega) (by omega)⟩
  refine c_record h.1 h.2.2 (fun J M hJ hi hm2 hb => ?_)
  have b15 := (hb (b + 15) (by omega) (by omega)).1
  have eu : J (b + 6 + 9) p = nI (un (xr X (1 + p))) := hJ.2.1.2.1.2.1 p (by omega)
  have ew : J (b + 6 + 9) 2 = nI (un (xr X 3)) := hJ.2.1.2.1.2.1 2 (by omega)
  refine c_pay rfl hp rfl eu ew q ?_
  obtain ⟨r2, hr2⟩ : ∃ r2, r2 = upR (upR (payR (xr X) p (cF (xC X))) (81 + 8 * k + 7) cv.toInt64) (81 + 8 * k + 6) (1 : Int32).toInt64 := ⟨_, rfl⟩
  have e4 : payR (xr X) p (cF (xC X)) 4 = xr X 4 := payR_n (by omega) (by omega)
  have hR : RV (xC X) (B + 10000) r2 := by
    rw [hr2]
    refine ((h.r.pay h.C hp (by omega) (by omega)).v7 h.C (by rw [e4]; exact hk) cv1).v6 h.C (s := 1) (by rw [upR_n (by omega), e4]; exact hk) rfl (by omega) (Or.inr ?_)
    rw [show 88 + 8 * k = 81 + 8 * k + 7 by omega, upR_s]
    rcases cv1 with q2 | q2 <;> rw [q2]
    · exact Or.inl rfl
    · exact Or.inr rfl
  have hS : SC (up2 (up2 (up2 (up2 J (b + 6 + 9) p (nI (un (xr X (1 + p)) - cF (xC X)))) (b + 6 + 9) 2 (nI (un (xr X 3) + cF (xC X)))) (b + 6 + 11 + k) 7 cv) (b + 6 + 11 + k) 6 1) M (b + 6) (xC X) r2 := by
    rw [hr2]
    have hS0 : SC J M (b + 6) (xC X) (xr X) := hJ.2.1.2.1
    exact ((hS0.pay hp (by omega) (by omega)).dsp h.C (by omega)).dsp h.C (by omega)
  rw [show b + 6 + 11 + k = b + 17 + k by omega] at hS
  have fr : ∀ q2, q2 ≠ b + 15 → q2 ≠ b + 17 + k → (up2 (up2 (up2 (up2 J (b + 6 + 9) p (nI (un (xr X (1 + p)) - cF (xC X)))) (b + 6 + 9) 2 (nI (un (xr X 3) + cF (xC X)))) (b + 17 + k) 7 cv) (b + 17 + k) 6 1) q2 = J q2 := fun q2 y1 y2 => by
    rw [up2_row y2, up2_row y2, up2_row (by omega), up2_row (by omega)]
  generalize up2 (up2 (up2 (up2 J (b + 6 + 9) p (nI (un (xr X (1 + p)) - cF (xC X)))) (b + 6 + 9) 2 (nI (un (xr X 3) + cF (xC X)))) (b + 17 + k) 7 cv) (b + 17 + k) 6 1 = J2 at hS fr
  have eR : ∀ q2, 5 ≤ q2 → q2 < 81 → r2 q2 = xr X q2 := fun q2 y1 y2 => by
    rw [hr2, upR_n (by omega), upR_n (by omega), payR_n (by omega) (by omega)]
  have hC2 : CI J2 M b d (setr (recX X) r2) := hJ.bench (recX_V h.1) (fun q2 y1 y2 => fr q2 (by omega) (by omega)) (fun _ _ _ => rfl) (hJ.2.1.st h.C eR hS (fun q2 y1 y2 y3 => ⟨fr q2 (by omega) (by omega), rfl⟩))
  have hV2 : XV (setr (recX X) r2) (B + 10000) := setr_V ((recX_V h.1).mono (by omega)) hR
  refine k1 cv J2 M (setr (recX X) r2) cv1 ?_ ⟨hV2, trivial, hC2⟩ rfl (fun q2 hq2 => by rw [fr q2 (by omega) (by omega), hi q2 hq2]) ?_
  · show k < un (r2 4)
    rw [hr2, upR_n (by omega), upR_n (by omega), e4]
    exact hk
  · show pS r2 = pS (xr X)
    rw [hr2, ← pS_pay (r := xr X) (p := p) (a := cF (xC X)) hp q (by omega) (by omega)]
    exact pS_cg (fun i2 i1 i3 => by rw [upR_n (by omega), upR_n (by omega)])
theorem j_appeal {Q : Int32 → TI → TL → Prop} {QX : String → TI → TL → Prop} {x : Int32} {k : Nat} (h : INV I L b d X B) (hB : B < 2 ^ 30) (hx : x = nI k) (hk : k < un (xr X 4))
    (k1 : ∀ v J M X2, INV J M b d X2 (B + 10000) → xC X2 = xC X → hiI I J → pS (xr X2) = pS (xr X) → Q v J M) (k2 : ∀ z, Q z I L) : W_X8_appeal x I L b d Q QX := by
  have nb := h.nb
  have hc := h.r.2.2.1
  have hbl := bn_lt h.2.2.1.1
  subst hx
  unfold W_X8_appeal
  obtain ⟨s1, s2, s3, s4, s5, s6, s7, s8, ⟨st, st1, st2⟩, s10⟩ := h.r.ds h.C hk
  have eg : dN (xr X) k = cI (xC X) + (dN (xr X) k - cI (xC X)) := by omega
  have hg : dN (xr X) k - cI (xC X) < cG (xC X) := by omega
  have hn := s1.2
  generalize dN (xr X) k - cI (xC X) = g at eg hg
  have s3' := s3
  rw [eg] at s3'
  obtain ⟨a, ha, ea⟩ := prF_n h.C hn s2.2.1 (show dE (xr X) k ≤ 60 by omega)
  rw [← s4, ← s5] at ea
  have hw : un (xr X 3) ≤ B := h.r.2.1 2 (by omega)
  refine c_rd1 h rfl hk ⟨dis_l h (by omega), ?_⟩
  obtain ⟨p, hp, hlo⟩ := loF_01 h hk (v := dF (xr X) k 7)
  have hu := h.r.2.1 p (by omega)
  obtain ⟨v, hv⟩ : ∃ v, v = rpF (xC X) (xr X) k := ⟨_, rfl⟩
  have v1 : v = 0 ∨ v = 1 := by rw [hv]; exact rp_01
  rw [h.ds hk (show 6 < 8 by omega)]
  refine ⟨fun e6 => ?_, fun e6 => k2 _⟩
  have v71 : dF (xr X) k 7 = 0 ∨ dF (xr X) k 7 = 1 := by
    rcases s10 with ⟨_, q⟩ | q
    · exact absurd e6 q
    · exact q
  refine c_stake h hk ?_
  rw [ea, h.ds hk (show 7 < 8 by omega)]
  refine c_loser h hk v71 ?_
  rw [hlo, pk_cl p rfl (by omega), h.bc.2.1.2.1 p (by omega)]
  refine ⟨pk_in p 3 (by omega) rfl, pk_le _ _ (fun q => ?_) (fun q => k2 _) rfl rfl (by omega) (by omega)⟩
  obtain ⟨p2, hp2, hlo2⟩ := loF_01 h hk (v := v)
  have hu2 := h.r.2.1 p2 (by omega)
  have hff : min a (un (xr X (1 + p2))) ≤ un (xr X (1 + p2)) := Nat.min_le_right _ _
  have hfa : min a (un (xr X (1 + p2))) ≤ 10000 := Nat.le_trans (Nat.min_le_left _ _) ha
  obtain ⟨f, hf⟩ : ∃ f, f = min a (un (xr X (1 + p2))) := ⟨_, rfl⟩
  rw [← hf] at hff hfa
  refine c_record h.1 h.2.2 (fun J M hJ hi hm2 hb => ?_)
  refine c_dearG h.C h.r hJ.2.1 hk ?_
  rw [← hv]
  have hS0 : SC J M (b + 6) (xC X) (xr X) := hJ.2.1.2.1
  have hds : ∀ f, f < 8 → J (b + 17 + k) f = dF (xr X) k f := fun f hf => by
    have := hS0.ds hk hf
    rw [show b + 6 + 11 + k = b + 17 + k by omega] at this
    exact this
  have j7 : (up2 (up2 J (b + 17 + k) 7 v) (b + 17 + k) 6 2) (b + 17 + k) 7 = v := by rw [up2_n (Or.inr (by decide)), up2_s]
  have jo : ∀ f, f ≠ 7 → f ≠ 6 → (up2 (up2 J (b + 17 + k) 7 v) (b + 17 + k) 6 2) (b + 17 + k) f = J (b + 17 + k) f := fun f q1 q2 => by rw [up2_n (Or.inr q2), up2_n (Or.inr q1)]
  have jr : ∀ q, q ≠ b + 17 + k → (up2 (up2 J (b + 17 + k) 7 v) (b + 17 + k) 6 2) q = J q := fun q q1 => by rw [up2_row q1, up2_row q1]
  have hS1 : SC (up2 (up2 J (b + 17 + k) 7 v) (b + 17 + k) 6 2) M (b + 6) (xC X) (upR (upR (xr X) (81 + 8 * k + 7) v.toInt64) (81 + 8 * k + 6) (2 : Int32).toInt64) := by
    have := (hS0.dsp h.C (k := k) (f := 7) (x := v) (by omega)).dsp h.C (k := k) (f := 6) (x := 2) (by omega)
    rw [show b + 6 + 11 + k = b + 17 + k by omega] at this
    exact this
  generalize up2 (up2 J (b + 17 + k) 7 v) (b + 17 + k) 6 2 = J1 at j7 jo jr hS1
  rw [j7]
  refine c_loserG (r := xr X) (k := k) (by rw [jo 5 (by decide) (by decide), hds 5 (by omega)]) (by rw [jo 4 (by decide) (by decide), hds 4 (by omega)]) v1 ?_
  have eu : J1 (b + 15) p2 = nI (un (xr X (1 + p2))) := by rw [jr _ (by omega)]; exact hS0.2.1 p2 (by omega)
  have ew : J1 (b + 15) 2 = nI (un (xr X 3)) := by rw [jr _ (by omega)]; exact hS0.2.1 2 (by omega)
  rw [hlo2, pk_cl p2 rfl (by omega), eu, mn_n (by omega) (by omega), ← hf]
  refine ⟨pk_in p2 3 (by omega) rfl, c_pay rfl hp2 rfl (show J1 (b + 6 + 9) p2 = _ from eu) (show J1 (b + 6 + 9) 2 = _ from ew) hff ?_⟩
  have b1 : (upR (upR (xr X) (81 + 8 * k + 7) v.toInt64) (81 + 8 * k + 6) (2 : Int32).toInt64) (1 + p2) = xr X (1 + p2) := by rw [upR_n (by omega), upR_n (by omega)]
  have b3 : (upR (upR (xr X) (81 + 8 * k + 7) v.toInt64) (81 + 8 * k + 6) (2 : Int32).toInt64) 3 = xr X 3 := by rw [upR_n (by omega), upR_n (by omega)]
  have b4 : (upR (upR (xr X) (81 + 8 * k + 7) v.toInt64) (81 + 8 * k + 6) (2 : Int32).toInt64) 4 = xr X 4 := by rw [upR_n (by omega), upR_n (by omega)]
  have hR1 : RV (xC X) B (upR (upR (xr X) (81 + 8 * k + 7) v.toInt64) (81 + 8 * k + 6) (2 : Int32).toInt64) := (h.r.v7 h.C hk v1).v6 h.C (s := 2) (by rw [upR_n (by omega)]; exact hk) rfl (by omega) (Or.inl (by decide))
  have hS2 := hS1.pay (p := p2) (f := f) hp2 (by rw [b1]; omega) (by rw [b3]; omega)
  rw [b1, b3] at hS2
  have hR2 := hR1.pay h.C (p := p2) (f := f) (B2 := B + 10000) hp2 (by omega) (by omega)
  have i0 : ∀ q, q ≠ b + 15 → (up2 (up2 J1 (b + 6 + 9) p2 (nI (un (xr X (1 + p2)) - f))) (b + 6 + 9) 2 (nI (un (xr X 3) + f))) q = J1 q := fun q q1 => by rw [up2_row (by omega), up2_row (by omega)]
  generalize up2 (up2 J1 (b + 6 + 9) p2 (nI (un (xr X (1 + p2)) - f))) (b + 6 + 9) 2 (nI (un (xr X 3) + f)) = J2 at hS2 i0
  have f0 : J2 (b + 17 + k) 0 = nI (cI (xC X) + g) := by rw [i0 _ (by omega), jo 0 (by decide) (by decide), hds 0 (by omega), s3']
  have f1 : J2 (b + 17 + k) 1 = nI (dA (xr X) k) := by rw [i0 _ (by omega), jo 1 (by decide) (by decide), hds 1 (by omega), s4]
  have f2 : J2 (b + 17 + k) 2 = nI (dE (xr X) k) := by rw [i0 _ (by omega), jo 2 (by decide) (by decide), hds 2 (by omega), s5]
  have f7 : J2 (b + 17 + k) 7 = v := by rw [i0 _ (by omega), j7]
  have hc2 : CC J2 (b + 1) (xC X) := CC.fr hJ.2.1.1 (fun q2 y1 y2 => by rw [i0 _ (by omega), jr _ (by omega)])
  refine c_settle h.2.2.1.1 h.C hR2 hc2 hS2 f0 hg f1 f2 s2.2.1 (by omega) (fun J3 M3 hJ3 hM3 hR3 hBC => ?_)
  rw [hJ3 (b + 17 + k) (by omega), f7]
  obtain ⟨r2, hr2⟩ : ∃ r2, r2 = stR (payR (upR (upR (xr X) (81 + 8 * k + 7) v.toInt64) (81 + 8 * k + 6) (2 : Int32).toInt64) p2 f) g (win (dA (xr X) k) (dE (xr X) k)) := ⟨_, rfl⟩
  rw [← hr2] at hR3 hBC
  have hC2 : CI J3 M3 b d (setr (recX X) r2) := hJ.bench (recX_V h.1) (fun q2 y1 y2 => by rw [hJ3 q2 (by omega), i0 _ (by omega), jr _ (by omega)]) (fun q2 y1 y2 => hM3 q2 (by omega) (by omega) (by omega) (by omega)) hBC
  have hV2 : XV (setr (recX X) r2) (B + 10000) := setr_V ((recX_V h.1).mono (by omega)) hR3
  refine k1 _ J3 M3 (setr (recX X) r2) ⟨hV2, trivial, hC2⟩ rfl (fun q2 hq2 => by rw [hJ3 q2 (by omega), i0 _ (by omega), jr _ (by omega), hi q2 hq2]) ?_
  show pS r2 = pS (xr X)
  rw [hr2, stR_pS, pS_pay hp2 (by rw [b1]; exact hff) (by rw [b1]; omega) (by rw [b3]; omega)]
  exact pS_cg (fun i2 i1 i3 => by rw [upR_n (by omega), upR_n (by omega)])
theorem j_accept {Q : Int32 → TI → TL → Prop} {QX : String → TI → TL → Prop} {x : Int32} {k : Nat} (h : INV I L b d X B) (hx : x = nI k) (hk : k < un (xr X 4))
    (k1 : ∀ v J M X2, INV J M b d X2 B → xC X2 = xC X → hiI I J → pS (xr X2) = pS (xr X) → Q v J M) (k2 : ∀ z, Q z I L) : W_X8_accept x I L b d Q QX := by
  have nb := h.nb
  have hc := h.r.2.2.1
  have hbl := bn_lt h.2.2.1.1
  subst hx
  unfold W_X8_accept
  obtain ⟨s1, s2, s3, s4, s5, s6, s7, s8, ⟨st, st1, st2⟩, s10⟩ := h.r.ds h.C hk
  have eg : dN (xr X) k = cI (xC X) + (dN (xr X) k - cI (xC X)) := by omega
  have hg : dN (xr X) k - cI (xC X) < cG (xC X) := by omega
  have hn := s1.2
  generalize dN (xr X) k - cI (xC X) = g at eg hg
  have s3' := s3
  rw [eg] at s3'
  obtain ⟨m, hm⟩ : ∃ m, m = win (dA (xr X) k) (dE (xr X) k) := ⟨_, rfl⟩
  have inm : inH (cH (xC X)) m := by rw [hm]; exact inH_win (by omega) (by omega)
  refine c_rd1 h rfl hk ⟨dis_l h (by omega), ?_⟩
  rw [h.ds hk (show 6 < 8 by omega)]
  refine ⟨fun e6 => ?_, fun e6 => k2 _⟩
  have v71 : dF (xr X) k 7 = 0 ∨ dF (xr X) k 7 = 1 := by
    rcases s10 with ⟨_, q⟩ | q
    · exact absurd e6 q
    · exact q
  refine c_record h.1 h.2.2 (fun J M hJ hi hm2 hb => ?_)
  have hS0 : SC J M (b + 6) (xC X) (xr X) := hJ.2.1.2.1
  have hds : ∀ f, f < 8 → J (b + 17 + k) f = dF (xr X) k f := fun f hf => by
    have := hS0.ds hk hf
    rw [show b + 6 + 11 + k = b + 17 + k by omega] at this
    exact this
  have hS1 : SC (up2 J (b + 17 + k) 6 3) M (b + 6) (xC X) (upR (xr X) (81 + 8 * k + 6) (3 : Int32).toInt64) := by
    have := hS0.dsp h.C (k := k) (f := 6) (x := 3) (by omega)
    rw [show b + 6 + 11 + k = b + 17 + k by omega] at this
    exact this
  have hR1 : RV (xC X) B (upR (xr X) (81 + 8 * k + 6) (3 : Int32).toInt64) := h.r.v6 h.C (s := 3) hk rfl (by omega) (Or.inl (by decide))
  have jo : ∀ f, f < 8 → f ≠ 6 → (up2 J (b + 17 + k) 6 3) (b + 17 + k) f = dF (xr X) k f := fun f q1 q2 => by rw [up2_n (Or.inr q2), hds f q1]
  have jr : ∀ q, q ≠ b + 17 + k → (up2 J (b + 17 + k) 6 3) q = J q := fun q q1 => up2_row q1
  generalize up2 J (b + 17 + k) 6 3 = J1 at hS1 jo jr
  have l13 : M (b + 13) (cI (xC X) + g) = xr X (21 + g) := (hS0.2.2.2.2.1 g hg).2.1
  have l12 : M (b + 12) (cI (xC X) + g) = xr X (9 + g) := (hS0.2.2.2.2.1 g hg).1
  have l14 : M (b + 14) (cI (xC X) + g) = xr X (33 + g) := (hS0.2.2.2.2.1 g hg).2.2.1
  have vn : vp_in (nI (cI (xC X) + g)) 16 := pk_in _ 16 (by omega) rfl
  obtain ⟨r1, hr1⟩ : ∃ r1, r1 = upR (xr X) (81 + 8 * k + 6) (3 : Int32).toInt64 := ⟨_, rfl⟩
  rw [← hr1] at hS1 hR1
  have q21 : r1 (21 + g) = xr X (21 + g) := by rw [hr1, upR_n (by omega)]
  have q33 : r1 (33 + g) = xr X (33 + g) := by rw [hr1, upR_n (by omega)]
  unfold W_X0_rule
  rw [jo 1 (by omega) (by decide), jo 2 (by omega) (by decide), jo 0 (by omega) (by decide), s3', s4, s5, pk_cl (cI (xC X) + g) rfl (by omega), l13, l12, jo 7 (by omega) (by decide)]
  refine s_window rfl rfl (by omega) (by omega) ⟨vn, vn, ?_⟩
  rw [← hm]
  rintro _ rfl
  -- behind the ruling
  have endC : ∀ s : Bool, s = rlB (xr X) k → W_X0_refresh b J1 (up2 (up2 M (b + 13) (cI (xC X) + g) (xr X (21 + g) ||| m)) (b + 14) (cI (xC X) + g) (rlV (xr X (33 + g)) m s)) (fun (I338 : TI) (L339 : TL) => W_J13_bitCount_95d88 ((m &&& (xr X (21 + g) ^^^ (-1))) &&& (xr X (9 + g) ^^^ (-1))) I338 L339 (fun (r340 : Int32) => Q r340 I338 L339)) := by
    rintro s hs
    have hS2 := hS1.rl h.C (m := m) (s := s) hg
    rw [q21, q33] at hS2
    have hR2 := hR1.rl h.C (m := m) (s := s) hg inm
    have hc2 : CC J1 (b + 1) (xC X) := CC.fr hJ.2.1.1 (fun q2 y1 y2 => jr _ (by omega))
    refine c_refresh h.2.2.1.1 h.C hR2 hc2 hS2 (fun J3 M3 hJ3 hM3 hBC => s_bcL ?_)
    have gJ : ∀ q2, q2 ≠ b + 41 → q2 ≠ b + 17 + k → J3 q2 = J q2 := fun q2 y1 y2 => by rw [hJ3 q2 y1, jr q2 y2]
    have gM : ∀ q2, q2 ≠ b + 13 → q2 ≠ b + 14 → q2 ≠ b + 37 → q2 ≠ b + 38 → q2 ≠ b + 39 → M3 q2 = M q2 := fun q2 y1 y2 y3 y4 y5 => by rw [hM3 q2 y3 y4 y5, up2_row (show q2 ≠ b + 6 + 8 by omega), up2_row (show q2 ≠ b + 6 + 7 by omega)]
    have hC2 : CI J3 M3 b d (setr (recX X) (rlR r1 g m s)) := hJ.bench (recX_V h.1) (fun q2 y1 y2 => gJ q2 (by omega) (by omega)) (fun q2 y1 y2 => gM q2 (by omega) (by omega) (by omega) (by omega) (by omega)) hBC
    have hV2 : XV (setr (recX X) (rlR r1 g m s)) B := setr_V (recX_V h.1) hR2
    refine k1 _ J3 M3 (setr (recX X) (rlR r1 g m s)) ⟨hV2, trivial, hC2⟩ rfl (fun q2 hq2 => by rw [gJ q2 (by omega) (by omega), hi q2 hq2]) ?_
    show pS (rlR r1 g m s) = pS (xr X)
    rw [rlR_pS, hr1]
    exact pS_cg (fun i2 i1 i3 => upR_n (by omega))
  have c82 : ∀ s0 : Int32, (s0 = 0 → rlB (xr X) k = false) → (¬ s0 = 0 → rlB (xr X) k = true) → B_X0_rule_82 b (b + 17 + k) (nI (cI (xC X) + g)) m ((m &&& (xr X (21 + g) ^^^ (-1))) &&& (xr X (9 + g) ^^^ (-1))) s0 J1 M Q := by
    intro s0 z0 z1
    unfold B_X0_rule_82
    rw [pk_cl (cI (xC X) + g) rfl (by omega), l13]
    refine ⟨vn, vn, ?_⟩
    rintro _ rfl
    have e14 : (up2 M (b + 13) (cI (xC X) + g) (xr X (21 + g) ||| m)) (b + 14) (cI (xC X) + g) = xr X (33 + g) := by rw [up2_row (by omega), l14]
    rw [e14]
    have c139 : ∀ w : Int64, w = rlV (xr X (33 + g)) m (rlB (xr X) k) → B_X0_rule_139 b (b + 17 + k) ((m &&& (xr X (21 + g) ^^^ (-1))) &&& (xr X (9 + g) ^^^ (-1))) (nI (cI (xC X) + g)) w J1 (up2 M (b + 13) (cI (xC X) + g) (xr X (21 + g) ||| m)) Q := by
      rintro w rfl
      unfold B_X0_rule_139
      rw [pk_cl (cI (xC X) + g) rfl (by omega)]
      exact ⟨vn, endC _ rfl⟩
    refine ⟨fun e => ⟨vn, c139 _ ?_⟩, fun e => ⟨vn, c139 _ ?_⟩⟩
    · rw [z0 e]
      rfl
    · rw [z1 e]
      rfl
  have c61 : ∀ x : Int32, (x = if dF (xr X) k 7 = 1 then 1 else 0) → B_X0_rule_61 b (b + 17 + k) (nI (cI (xC X) + g)) m ((m &&& (xr X (21 + g) ^^^ (-1))) &&& (xr X (9 + g) ^^^ (-1))) x J1 M Q := by
    intro x hx
    unfold B_X0_rule_61
    rw [jo 3 (by omega) (by decide)]
    have go2 : ∀ y : Int32, (y = if dF (xr X) k 3 = 1 then 1 else 0) → B_X0_rule_74 b (b + 17 + k) (nI (cI (xC X) + g)) m ((m &&& (xr X (21 + g) ^^^ (-1))) &&& (xr X (9 + g) ^^^ (-1))) x y J1 M Q := by
      intro y hy
      have key := rlB_n hx hy
      refine ⟨fun e => c82 0 (fun _ => ?_) (fun z => absurd rfl z), fun e => c82 1 (fun z => absurd z (by decide)) (fun _ => key.mp e)⟩
      cases hq : rlB (xr X) k with
      | true => exact absurd (key.mpr hq) e
      | false => rfl
    exact ⟨fun e => go2 0 (by rw [if_neg e]), fun e => go2 1 (by rw [if_pos e])⟩
  exact ⟨fun e => c61 0 (by rw [if_neg e]), fun e => c61 1 (by rw [if_pos e])⟩
end JD
