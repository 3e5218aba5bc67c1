/-! toggle -/
section TOGGLE
variable {I J : TI} {L M : TL} {b d B : Nat} {X : XT}
theorem SC.inp {C : CQ} {r : RW} {a n : Nat} {v : Int64} (hC : CV C) (h : SC I L a C r) (hn : n < cI C) : SC I (up2 L (a + 5) n v) a C (upR r (5 + n) v) := by
  have hI := hC.1
  have hG := hC.2.1
  refine ⟨by rw [upR_n (by omega)]; exact h.1, fun p hp => by rw [upR_n (by omega)]; exact h.2.1 p hp, by rw [upR_n (by omega)]; exact h.2.2.1, fun m hm => ?_, fun g hg => ?_, fun k hk f hf => ?_⟩
  · obtain ⟨q1, q2, q3⟩ := h.2.2.2.1 m hm
    rw [up2_row (show a + 6 ≠ a + 5 by omega), up2_row (show a + 7 ≠ a + 5 by omega)]
    refine ⟨?_, q2, q3⟩
    by_cases e : m = n
    · subst e
      rw [up2_s, upR_s]
    · rw [up2_n (Or.inr e), upR_n (by omega)]
      exact q1
  · obtain ⟨q1, q2, q3, q4⟩ := h.2.2.2.2.1 g hg
    rw [up2_row (show a + 6 ≠ a + 5 by omega), up2_row (show a + 7 ≠ a + 5 by omega), up2_row (show a + 8 ≠ a + 5 by omega), upR_n (by omega), upR_n (by omega), upR_n (by omega)]
    refine ⟨q1, q2, q3, fun w hw => ?_⟩
    unfold dl
    rw [upR_n (by omega)]
    exact q4 w hw
  · rw [upR_n (by omega)] at hk
    rw [upR_n (by omega)]
    exact h.2.2.2.2.2 k hk f hf
theorem RV.inp {C : CQ} {r : RW} {n : Nat} {v : Int64} (hC : CV C) (h : RV C B r) (hn : n < cI C) (hv : inH (cH C) v) : RV C B (upR r (5 + n) v) := by
  have hI := hC.1
  have hG := hC.2.1
  refine ⟨by rw [upR_n (by omega)]; exact h.1, fun p hp => by rw [upR_n (by omega)]; exact h.2.1 p hp, by rw [upR_n (by omega)]; exact h.2.2.1, fun m hm => ?_, fun g hg => ?_, fun k hk => ?_⟩
  · by_cases e : m = n
    · subst e
      rw [upR_s]
      exact hv
    · rw [upR_n (by omega)]
      exact h.2.2.2.1 m hm
  · obtain ⟨q1, q2, q3, q4⟩ := h.2.2.2.2.1 g hg
    rw [upR_n (by omega), upR_n (by omega), upR_n (by omega)]
    refine ⟨q1, q2, q3, fun w hw => ?_⟩
    unfold dl
    rw [upR_n (by omega)]
    exact q4 w hw
  · rw [upR_n (by omega)] at hk
    exact (h.dp hk).same (fun f hf => upR_n (by omega))
theorem op_toggle {p1 p2 : Int32} {P : Int32 → Int32 → TI → TL → Prop} (h : INV I L b d X B) (fin : ∀ k r J M X2, OKL k r.toInt64 J M b d X2 B → P k r J M) : W_L_toggle p1 p2 I L b d (fun k I1 L1 => W_X9_toggle p1 p2 I1 L1 (fun r J M => P k r J M)) := by
  have nb := h.nb
  have hbl := bn_lt h.2.2.1.1
  have e4 : I (b + 1) 4 = nI (cI (xC X)) := h.bc.1.1
  have k1 := rg_iff (x := p1) (a := 0) (c := cI (xC X)) (by omega) (by omega)
  have cIe : ∀ (J : TI), J 436 10 = nI (cI (xC X)) → (((up2 J 436 0 0) 436 10) - 1).toInt64 = (nI (cI (xC X)) - 1).toInt64 := fun J e => by rw [up2_n (Or.inr (by decide)), e]
  unfold W_L_toggle W_X8_toggle
  rw [e4]
  by_cases hp : rg p1 0 (cI (xC X))
  · have k1 := k1.mp hp
    obtain ⟨n, -, hn, rfl⟩ := hp
    refine ⟨fun e => absurd e (nI_pos (by omega)), fun _ => ⟨fun _ => ?_, fun e => absurd k1.2 e⟩⟩
    by_cases ht : rg p2 0 (cH (xC X) + 1)
    · obtain ⟨t, -, ht, rfl⟩ := ht
      refine c_time1 h rfl ht ⟨fun _ => ?_, fun e => absurd e (by decide)⟩
      refine c_record h.1 h.2.2 (fun J M hJ hi hm hb => ?_)
      have hS0 : SC J M (b + 6) (xC X) (xr X) := hJ.2.1.2.1
      have e6 : J (b + 1) 6 = nI (cH (xC X)) := hJ.2.1.1.2.2.1
      have v4 : vp_in (nI n) 4 := pk_in n 4 (by omega) rfl
      have e11 : M (b + 11) n = xr X (5 + n) := (hS0.2.2.2.1 n hn).1
      rw [e6, pk_cl n rfl (by omega), e11]
      refine ⟨v4, s_window rfl rfl (by omega) (by omega) ⟨v4, ?_⟩⟩
      rintro _ rfl
      obtain ⟨w, hw⟩ : ∃ w, w = xr X (5 + n) ^^^ win t (cH (xC X)) := ⟨_, rfl⟩
      rw [← hw]
      have inw : inH (cH (xC X)) w := by
        rw [hw]
        exact inH_xor (h.r.2.2.2.1 n hn) (inH_win (Nat.le_refl _) (by omega))
      have hS1 : SC J (up2 M (b + 11) n w) (b + 6) (xC X) (upR (xr X) (5 + n) w) := hS0.inp h.C hn
      have hR1 : RV (xC X) B (upR (xr X) (5 + n) w) := h.r.inp h.C hn inw
      refine c_unsettle h.2.2.1.1 h.C hR1 hJ.2.1.1 hS1 rfl (Nat.lt_of_lt_of_le hn (Nat.le_add_right _ _)) (fun J2 M2 hJ2 hM2 hR2 hBC => ?_)
      have gJ : ∀ q2, (q2 < b ∨ b + 41 < q2) → J2 q2 = J q2 := fun q2 y1 => by rw [hJ2 q2 (by omega) (by omega)]
      have gM : ∀ q2, (q2 < b ∨ b + 41 < q2) → M2 q2 = M q2 := fun q2 y1 => by rw [hM2 q2 (by omega) (by omega) (by omega) (by omega) (by omega) (by omega), up2_row (by omega)]
      have hC2 : CI J2 M2 b d (setr (recX X) (fgF (xC X) (upR (xr X) (5 + n) w) n)) := hJ.bench (recX_V h.1) (fun q2 y1 y2 => gJ q2 y2) (fun q2 y1 y2 => gM q2 y2) hBC
      have hV2 : XV (setr (recX X) (fgF (xC X) (upR (xr X) (5 + n) w) n)) B := setr_V (recX_V h.1) hR2
      have hIM := IM.of h hV2 hC2 (fun q2 hq2 => by rw [gJ q2 (by omega), hi q2 hq2]) (fun q2 hq2 => by rw [gM q2 (by omega), hm q2 hq2])
      have hI2 := hIM.out (x := (nI (fgN (xC X) (upR (xr X) (5 + n) w) n)).toInt64)
      unfold W_X9_toggle
      refine s_in (a := 0) (c := cI (xC X)) rfl rfl (by rw [cIe _ hI2.mc.1]) (by omega) (by omega) (by omega) (fun _ => s_fails1 ⟨fun e => absurd rfl e, fun _ => ?_⟩) (fun e => absurd (rgi (Nat.zero_le _) hn) e)
      refine s_in (a := 0) (c := cH (xC X) + 1) rfl rfl (by rw [hI2.thr.mc.2.2.1]; congr 1; exact (nI_pred _).symm) (by omega) (by omega) (by omega) (fun _ => s_fails1 ⟨fun _ => ?_, fun e => absurd rfl e⟩) (fun e => absurd (rgi (Nat.zero_le _) ht) e)
      refine n_rec hI2.thr (fun J5 M5 hJ5 z5 e5 hs5 hf5 => ?_)
      have r5 : M5 437 = xr X := hJ5.row
      have e5n : (5 : Int32) + nI n = nI (5 + n) := nI_add 5 n
      have v5 : vp_in ((5 : Int32) + nI n) 241 := pk_in _ 241 (by omega) e5n
      rw [pk_cl _ e5n (by omega), r5]
      refine ⟨v5, s_times (b := cH (xC X)) rfl hJ5.mc.2.2.1 (by omega) (by omega) ⟨v5, ?_⟩⟩
      rw [← hw]
      rintro _ rfl
      refine m_forgets (C := xC X) hJ5.mc h.C hR1 (by rw [upR_row, r5]) rfl (Nat.lt_of_lt_of_le hn (Nat.le_add_right _ _)) (fun M6 h6 r6 => ?_)
      refine fin _ _ _ _ _ (fin0 (n_end hJ5 hV2 r6 (fun q2 y1 y2 y3 y4 y5 => by rw [h6 q2 (nin1 y1), up2_row y1])) (by rw [z5, up2_s]) ?_)
      rw [h6 456 (by decide), up2_row (by decide), e5, up2_s]
    · refine c_time0 h ht ⟨fun e => absurd rfl e, fun _ => Or.inr ⟨rfl, ?_⟩⟩
      unfold W_X9_toggle
      refine s_in (a := 0) (c := cI (xC X)) rfl rfl (by rw [cIe _ h.mc.1]) (by omega) (by omega) (by omega) (fun _ => s_fails1 ⟨fun e => absurd rfl e, fun _ => ?_⟩) (fun e => absurd (rgi (Nat.zero_le _) hn) e)
      refine s_in (a := 0) (c := cH (xC X) + 1) rfl rfl (by rw [h.thr.mc.2.2.1]; congr 1; exact (nI_pred _).symm) (by omega) (by omega) (by omega) (fun e => absurd e ht) (fun _ => s_fails0 ⟨fun e => absurd e (by decide), fun _ => ?_⟩)
      rw [up2_u]
      exact fin _ _ _ _ _ (fin1 h.thr up2_s (by decide))
  · have bad : W_X9_toggle p1 p2 I L (fun r J M => P 1 r J M) := by
      unfold W_X9_toggle
      refine s_in (a := 0) (c := cI (xC X)) rfl rfl (by rw [cIe _ h.mc.1]) (by omega) (by omega) (by omega) (fun e => absurd e hp) (fun _ => s_fails0 ⟨fun _ => ?_, fun e => absurd e (by decide)⟩)
      rw [up2_u]
      exact fin _ _ _ _ _ (fin1 h.thr up2_s (by decide))
    exact ⟨fun _ => Or.inl ⟨rfl, bad⟩, fun a1 => ⟨fun a2 => absurd (k1.mpr ⟨lt_nle.mp a1, a2⟩) hp, fun _ => Or.inl ⟨rfl, bad⟩⟩⟩
end TOGGLE
