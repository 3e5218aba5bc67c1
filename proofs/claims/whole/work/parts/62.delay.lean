/-! setDelay, toggle -/
section DELAY
variable {I J : TI} {L M : TL} {b d B : Nat} {X : XT}
theorem upR_id {r : RW} {i : Nat} {x : Int64} (h : x = r i) : upR r i x = r := by
  funext k
  unfold upR
  by_cases e : k = i
  · rw [if_pos e, h, e]
  · rw [if_neg e]
theorem SC.del {C : CQ} {r : RW} {a g w : Nat} {v : Nat} (hC : CV C) (h : SC I L a C r) (hg : g < cG C) (hw : w < 3) (hv : v < 2 ^ 31) : SC (up2 I (a + 2 + w) (cI C + g) (nI v)) L a C (upR r (45 + 3 * g + w) (lN v)) := by
  have hI := hC.1
  have hG := hC.2.1
  refine ⟨by rw [up2_row (by omega), upR_n (by omega)]; exact h.1, fun p hp => by rw [up2_row (by omega), upR_n (by omega)]; exact h.2.1 p hp, by rw [up2_row (by omega), upR_n (by omega)]; exact h.2.2.1, fun n hn => by rw [upR_n (by omega)]; exact h.2.2.2.1 n hn, fun g2 hg2 => ?_, fun k hk f hf => ?_⟩
  · obtain ⟨q1, q2, q3, q4⟩ := h.2.2.2.2.1 g2 hg2
    rw [upR_n (show 9 + g2 ≠ 45 + 3 * g + w by omega), upR_n (show 21 + g2 ≠ 45 + 3 * g + w by omega), upR_n (show 33 + g2 ≠ 45 + 3 * g + w by omega)]
    refine ⟨q1, q2, q3, fun w2 hw2 => ?_⟩
    unfold dl
    by_cases e : g2 = g ∧ w2 = w
    · obtain ⟨rfl, rfl⟩ := e
      rw [up2_s, upR_s, un_lN (by omega)]
    · rw [upR_n (by omega)]
      by_cases e2 : w2 = w
      · subst e2
        rw [up2_n (Or.inr (by omega))]
        exact q4 w2 hw2
      · rw [up2_row (by omega)]
        exact q4 w2 hw2
  · rw [upR_n (by omega)] at hk
    rw [up2_row (by omega), upR_n (by omega)]
    exact h.2.2.2.2.2 k hk f hf
theorem RV.del {C : CQ} {r : RW} {g w v : Nat} (hC : CV C) (h : RV C B r) (hg : g < cG C) (hw : w < 3) (h1 : 1 ≤ v) (h9 : v ≤ 9) : RV C B (upR r (45 + 3 * g + w) (lN v)) := by
  have hI := hC.1
  have hG := hC.2.1
  refine ⟨by rw [upR_n (by omega)]; exact h.1, fun p hp => by rw [upR_n (by omega)]; exact h.2.1 p hp, by rw [upR_n (by omega)]; exact h.2.2.1, fun n hn => by rw [upR_n (by omega)]; exact h.2.2.2.1 n hn, fun g2 hg2 => ?_, fun k hk => ?_⟩
  · obtain ⟨q1, q2, q3, q4⟩ := h.2.2.2.2.1 g2 hg2
    rw [upR_n (show 9 + g2 ≠ 45 + 3 * g + w by omega), upR_n (show 21 + g2 ≠ 45 + 3 * g + w by omega), upR_n (show 33 + g2 ≠ 45 + 3 * g + w by omega)]
    refine ⟨q1, q2, q3, fun w2 hw2 => ?_⟩
    unfold dl
    by_cases e : g2 = g ∧ w2 = w
    · obtain ⟨rfl, rfl⟩ := e
      rw [upR_s, un_lN (by omega)]
      exact ⟨h1, h9⟩
    · rw [upR_n (by omega)]
      exact q4 w2 hw2
  · rw [upR_n (by omega)] at hk
    exact (h.dp hk).same (fun f hf => upR_n (by omega))
theorem op_setDelay {p1 p2 p3 : Int32} {P : Int32 → Int32 → TI → TL → Prop} (h : INV I L b d X B) (fin : ∀ k r J M X2, OKL k r.toInt64 J M b d X2 B → P k r J M) : W_L_setDelay p1 p2 p3 I L b d (fun k I1 L1 => W_X9_setDelay p1 p2 p3 I1 L1 (fun r J M => P k r J M)) := by
  have nb := h.nb
  have hbl := bn_lt h.2.2.1.1
  unfold W_L_setDelay W_X8_setDelay
  by_cases hg : rg p1 (cI (xC X)) (cI (xC X) + cG (xC X))
  · obtain ⟨n, n1, hn, rfl⟩ := hg
    obtain ⟨g, rfl⟩ : ∃ g, n = cI (xC X) + g := ⟨n - cI (xC X), by omega⟩
    have hg : g < cG (xC X) := by omega
    refine c_gate1 h rfl hg ?_
    have k2 := rg_iff (x := p2) (a := 0) (c := 3) (by omega) (by omega)
    have k3 := rg_iff (x := p3) (a := 1) (c := 10) (by omega) (by omega)
    by_cases hs : rg p2 0 3 ∧ rg p3 1 10
    · obtain ⟨⟨w, -, hw, rfl⟩, ⟨v, v1, v9, rfl⟩⟩ := hs
      refine ⟨fun e => absurd e (nI_pos (by omega)), fun _ => ⟨fun e => absurd e (nI_ge (b := 3) hw (by omega)), fun _ => ⟨fun e => absurd e (nI_nlt (b := 1) v1 (by omega)), fun _ => ⟨fun _ => ?_, fun e => absurd (nI_le (show v ≤ 9 by omega) (by omega)) e⟩⟩⟩⟩
      refine c_record h.1 h.2.2 (fun J M hJ hi hm hb => ?_)
      have vw : vp_in (nI w) 3 := pk_in w 3 hw rfl
      have vn : vp_in (nI (cI (xC X) + g)) 16 := pk_in _ 16 (by omega) rfl
      have hS0 : SC J M (b + 6) (xC X) (xr X) := hJ.2.1.2.1
      have hdl := h.dv g hg w hw
      have e8 : J (b + 8 + w) (cI (xC X) + g) = nI (dl (xr X) g w) := by
        have := (hS0.2.2.2.2.1 g hg).2.2.2 w hw
        rw [show b + 6 + 2 + w = b + 8 + w by omega] at this
        exact this
      rw [pk_cl w rfl (by omega), pk_cl (cI (xC X) + g) rfl (by omega), e8]
      refine ⟨vw, vn, ?_⟩
      rintro _ rfl
      -- the reference
      have mgo : ∀ (K : TI → TL → Prop) (I1 : TI) (L1 : TL) (Q : Int32 → TI → TL → Prop), IM K I1 L1 X B → (∀ J M, IM K J M (recX X) B → J 436 0 = 0 → M 456 = L1 456 → M 437 = xr X → (¬ nI (dl (xr X) g w) = nI v → W_X9_forgets (nI (cI (xC X) + g)) J (up2 M 437 (45 + 3 * g + w) (lN v)) (fun r L => Q (nI (dl (xr X) g w)) J L)) ∧ (nI (dl (xr X) g w) = nI v → Q (nI (dl (xr X) g w)) J (up2 M 437 (45 + 3 * g + w) (lN v)))) → W_X9_setDelay (nI (cI (xC X) + g)) (nI w) (nI v) I1 L1 Q := by
        intro K I1 L1 Q hI k1
        unfold W_X9_setDelay
        refine n_noGate1 hI rfl hg ⟨fun e => absurd rfl e, fun _ => ?_⟩
        refine s_in (a := 0) (c := 3) rfl rfl rfl (by omega) (by omega) (by omega) (fun _ => ⟨fun e => absurd e (by decide), fun _ => ?_⟩) (fun e => absurd (rgi (Nat.zero_le _) hw) e)
        refine s_in (a := 1) (c := 10) rfl rfl rfl (by omega) (by omega) (by omega) (fun _ => ⟨fun e => absurd e (by decide), fun _ => ?_⟩) (fun e => absurd (rgi v1 v9) e)
        unfold B_X9_setDelay_38
        refine s_fails1 ⟨fun _ => ?_, fun e => absurd rfl e⟩
        refine n_rec hI.thr (fun J5 M5 hJ5 z5 e5 hs5 hf5 => ?_)
        have r5 : M5 437 = xr X := hJ5.row
        refine s_delayOf (C := xC X) (w := w) hJ5.mc h.C r5 rfl hg rfl hw ?_
        have ei : ((45 : Int32) + ((3 : Int32) * (nI (cI (xC X) + g) - (J5 436 10)))) + nI w = nI (45 + 3 * g + w) := by
          rw [hJ5.mc.1]
          show ((45 : Int32) + ((3 : Int32) * (nI (cI (xC X) + g) - nI (cI (xC X))))) + nI w = _
          rw [pk_sub (Nat.le_add_right _ _), Nat.add_sub_cancel_left, show (3 : Int32) = nI 3 from rfl, show (45 : Int32) = nI 45 from rfl, pk_mul, nI_add, nI_add]
        rw [pk_cl _ ei (by omega), nI_l (show v < 2 ^ 31 by omega)]
        refine ⟨pk_in _ 241 (by omega) ei, ?_⟩
        rintro _ rfl
        exact k1 J5 M5 hJ5 (by rw [z5, up2_s]) e5 r5
      refine ⟨fun e => ?_, fun e => ?_⟩
      · have ev := (nI_eq (by omega) (by omega)).mp e
        have hr0 : upR (xr X) (45 + 3 * g + w) (lN v) = xr X := upR_id (by
          rw [← ev]
          exact (un_e _).symm)
        have hV2 : XV (setr (recX X) (xr X)) B := setr_V (recX_V h.1) h.r
        have hIM := IM.of h hV2 hJ hi hm
        refine mgo _ _ _ _ hIM.out (fun J5 M5 hJ5 z5 e5 r5 => ⟨fun q => absurd e q, fun _ => ?_⟩)
        refine fin _ _ _ _ _ (fin0 (X := setr (recX X) (xr X)) (n_end hJ5 hV2 (by rw [upR_row, r5, hr0]) (fun q2 y1 y2 y3 y4 y5 => up2_row y1)) z5 ?_)
        rw [up2_row (by decide), e5, up2_s]
      · refine ⟨vw, vn, ?_⟩
        rintro _ rfl
        have hS1 : SC (up2 J (b + 8 + w) (cI (xC X) + g) (nI v)) M (b + 6) (xC X) (upR (xr X) (45 + 3 * g + w) (lN v)) := by
          have := hS0.del h.C hg hw (v := v) (by omega)
          rw [show b + 6 + 2 + w = b + 8 + w by omega] at this
          exact this
        have hR1 : RV (xC X) B (upR (xr X) (45 + 3 * g + w) (lN v)) := h.r.del h.C hg hw v1 (by omega)
        have hc1 : CC (up2 J (b + 8 + w) (cI (xC X) + g) (nI v)) (b + 1) (xC X) := CC.fr hJ.2.1.1 (fun q2 y1 y2 => up2_row (by omega))
        refine c_unsettle h.2.2.1.1 h.C hR1 hc1 hS1 rfl hn (fun J2 M2 hJ2 hM2 hR2 hBC => ?_)
        have gJ : ∀ q2, (q2 < b ∨ b + 41 < q2) → J2 q2 = J q2 := fun q2 y1 => by rw [hJ2 q2 (by omega) (by omega), up2_row (by omega)]
        have gM : ∀ q2, (q2 < b ∨ b + 41 < q2) → M2 q2 = M q2 := fun q2 y1 => hM2 q2 (by omega) (by omega) (by omega) (by omega) (by omega) (by omega)
        have hC2 : CI J2 M2 b d (setr (recX X) (fgF (xC X) (upR (xr X) (45 + 3 * g + w) (lN v)) (cI (xC X) + g))) := hJ.bench (recX_V h.1) (fun q2 y1 y2 => gJ q2 y2) (fun q2 y1 y2 => gM q2 y2) hBC
        have hV2 : XV (setr (recX X) (fgF (xC X) (upR (xr X) (45 + 3 * g + w) (lN v)) (cI (xC X) + g))) B := setr_V (recX_V h.1) hR2
        have hIM := IM.of h hV2 hC2 (fun q2 hq2 => by rw [gJ q2 (by omega), hi q2 hq2]) (fun q2 hq2 => by rw [gM q2 (by omega), hm q2 hq2])
        refine mgo _ _ _ _ hIM.out (fun J5 M5 hJ5 z5 e5 r5 => ⟨fun _ => ?_, fun q => absurd q e⟩)
        refine m_forgets (C := xC X) hJ5.mc h.C hR1 (by rw [upR_row, r5]) rfl hn (fun M6 h6 r6 => ?_)
        refine fin _ _ _ _ _ (fin0 (n_end hJ5 hV2 r6 (fun q2 y1 y2 y3 y4 y5 => by rw [h6 q2 (nin1 y1), up2_row y1])) z5 ?_)
        rw [h6 456 (by decide), up2_row (by decide), e5, up2_s]
    · have bad : W_X9_setDelay (nI (cI (xC X) + g)) p2 p3 I L (fun r J M => P 2 r J M) := by
        unfold W_X9_setDelay
        refine m_noGate1 h rfl hg ⟨fun e => absurd rfl e, fun _ => ?_⟩
        have last : B_X9_setDelay_37 (nI (cI (xC X) + g)) p2 p3 (up2 I 436 0 0) L (fun r J M => P 2 r J M) := by
          show B_X9_setDelay_38 (nI (cI (xC X) + g)) p2 p3 0 (up2 I 436 0 0) L (fun r J M => P 2 r J M)
          unfold B_X9_setDelay_38
          refine s_fails0 ⟨fun e => absurd e (by decide), fun _ => ?_⟩
          rw [up2_u]
          exact fin _ _ _ _ _ (fin1 h.thr up2_s (by decide))
        refine s_in (a := 0) (c := 3) rfl rfl rfl (by omega) (by omega) (by omega) (fun q1 => ⟨fun e => absurd e (by decide), fun _ => ?_⟩) (fun _ => ⟨fun _ => last, fun e => absurd rfl e⟩)
        exact s_in (a := 1) (c := 10) rfl rfl rfl (by omega) (by omega) (by omega) (fun q2 => absurd ⟨q1, q2⟩ hs) (fun _ => ⟨fun _ => last, fun e => absurd rfl e⟩)
      have out : (NSE = NSE ∧ False) ∨ (IAE = "java/lang/IllegalArgumentException" ∧ W_X9_setDelay (nI (cI (xC X) + g)) p2 p3 I L (fun r J M => P 2 r J M)) := Or.inr ⟨rfl, bad⟩
      refine ⟨fun _ => Or.inr ⟨rfl, bad⟩, fun a1 => ⟨fun _ => Or.inr ⟨rfl, bad⟩, fun a2 => ⟨fun _ => Or.inr ⟨rfl, bad⟩, fun a3 => ⟨fun a4 => ?_, fun _ => Or.inr ⟨rfl, bad⟩⟩⟩⟩⟩
      refine absurd ⟨k2.mpr ⟨lt_nle.mp a1, le_nlt.mp a2⟩, k3.mpr ⟨lt_nle.mp a3, ?_⟩⟩ hs
      rw [Int32.lt_iff_toInt_lt, nI_toInt (by omega)]
      rw [Int32.le_iff_toInt_le, show (9 : Int32).toInt = 9 from rfl] at a4
      omega
  · refine c_gate0 h hg (Or.inl ⟨rfl, ?_⟩)
    unfold W_X9_setDelay
    exact m_noGate0 h hg ⟨fun _ => fin _ _ _ _ _ (fin1 h.thr up2_s (by decide)), fun e => absurd e (by decide)⟩
end DELAY
