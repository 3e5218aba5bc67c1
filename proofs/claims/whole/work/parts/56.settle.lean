/-! settle: replay -/
section SETTLE
variable {I J : TI} {L M : TL} {b d B : Nat} {X : XT}
theorem or_andnot {x y : Int64} : x ||| (y &&& (x ^^^ (-1))) = x ||| y := by
  apply bw_ext
  intro t ht
  rw [bw_or, bw_or, bw_and, bw_not _ ht]
  cases bw x t <;> cases bw y t <;> rfl
theorem SC.updL {C : CQ} {r s : RW} {a : Nat} (hC : CV C) (h : SC I L a C r) (eR : ∀ k, (k < 9 ∨ 45 ≤ k) → s k = r k) (e5 : M (a + 5) = L (a + 5)) (e6 : ∀ n, n < cI C → M (a + 6) n = L (a + 6) n ∧ M (a + 7) n = L (a + 7) n) (eg : ∀ g, g < cG C → M (a + 6) (cI C + g) = s (9 + g) ∧ M (a + 7) (cI C + g) = s (21 + g) ∧ M (a + 8) (cI C + g) = s (33 + g)) : SC I M a C s := by
  have hI := hC.1
  have hG := hC.2.1
  refine ⟨by rw [eR 0 (by omega)]; exact h.1, fun p hp => by rw [eR (1 + p) (by omega)]; exact h.2.1 p hp, by rw [eR 4 (by omega)]; exact h.2.2.1, fun n hn => by rw [eR (5 + n) (by omega), e5, (e6 n hn).1, (e6 n hn).2]; exact h.2.2.2.1 n hn, fun g hg => ⟨(eg g hg).1, (eg g hg).2.1, (eg g hg).2.2, fun w hw => ?_⟩, fun k hk f hf => ?_⟩
  · have := (h.2.2.2.2.1 g hg).2.2.2 w hw
    unfold dl at *
    rw [eR (45 + 3 * g + w) (by omega)]
    exact this
  · rw [eR 4 (by omega)] at hk
    rw [eR (81 + 8 * k + f) (by omega)]
    exact h.2.2.2.2.2 k hk f hf
theorem RV.updL {C : CQ} {r s : RW} (hC : CV C) (h : RV C B r) (eR : ∀ k, (k < 9 ∨ 45 ≤ k) → s k = r k) (eg : ∀ g, g < cG C → inH (cH C) (s (9 + g)) ∧ inH (cH C) (s (21 + g)) ∧ (s (33 + g) &&& s (21 + g)) = s (33 + g)) : RV C B s := by
  have hI := hC.1
  have hG := hC.2.1
  refine ⟨by rw [eR 0 (by omega)]; exact h.1, fun p hp => by rw [eR (1 + p) (by omega)]; exact h.2.1 p hp, by rw [eR 4 (by omega)]; exact h.2.2.1, fun n hn => by rw [eR (5 + n) (by omega)]; exact h.2.2.2.1 n hn, fun g hg => ⟨(eg g hg).1, (eg g hg).2.1, (eg g hg).2.2, fun w hw => ?_⟩, fun k hk => ?_⟩
  · have := (h.2.2.2.2.1 g hg).2.2.2 w hw
    unfold dl at *
    rw [eR (45 + 3 * g + w) (by omega)]
    exact this
  · rw [eR 4 (by omega)] at hk
    exact (h.dp hk).same (fun f hf => eR _ (by omega))
theorem RV.st {C : CQ} {r : RW} {g : Nat} {m : Int64} (hC : CV C) (h : RV C B r) (hg : g < cG C) (hm : inH (cH C) m) : RV C B (stR r g m) := by
  have hG := hC.2.1
  refine h.updL hC (fun k hk => upR_n (by omega)) (fun g2 hg2 => ?_)
  obtain ⟨q1, q2, q3, -⟩ := h.2.2.2.2.1 g2 hg2
  unfold stR
  rw [upR_n (show 21 + g2 ≠ 9 + g by omega), upR_n (show 33 + g2 ≠ 9 + g by omega)]
  refine ⟨?_, q2, q3⟩
  by_cases e : g2 = g
  · subst e
    rw [upR_s]
    exact inH_or q1 hm
  · rw [upR_n (by omega)]
    exact q1
theorem SC.st {C : CQ} {r : RW} {a g : Nat} {m : Int64} (hC : CV C) (h : SC I L a C r) (hg : g < cG C) : SC I (up2 L (a + 6) (cI C + g) (r (9 + g) ||| m)) a C (stR r g m) := by
  have hG := hC.2.1
  refine h.updL hC (fun k hk => upR_n (by omega)) (up2_row (by omega)) (fun n hn => ⟨up2_n (Or.inr (by omega)), by rw [up2_row (show a + 7 ≠ a + 6 by omega)]⟩) (fun g2 hg2 => ?_)
  obtain ⟨q1, q2, q3, -⟩ := h.2.2.2.2.1 g2 hg2
  unfold stR
  rw [upR_n (show 21 + g2 ≠ 9 + g by omega), upR_n (show 33 + g2 ≠ 9 + g by omega), up2_row (show a + 7 ≠ a + 6 by omega), up2_row (show a + 8 ≠ a + 6 by omega), up2_at]
  refine ⟨?_, q2, q3⟩
  by_cases e : g2 = g
  · subst e
    rw [upR_s, if_pos rfl]
  · rw [upR_n (by omega), if_neg (by omega)]
    exact q1
theorem c_settle {Q : Int32 → TI → TL → Prop} {C : CQ} {r : RW} {x y z : Int32} {g f t : Nat} (hb : bnOK b) (hC : CV C) (hr : RV C B r) (h : CC I (b + 1) C) (hS : SC I L (b + 6) C r) (hx : x = nI (cI C + g)) (hg : g < cG C) (hy : y = nI f) (hz : z = nI t) (h1 : f ≤ t) (h2 : t ≤ cH C) (k : ∀ J M, (∀ q, q ≠ b + 41 → J q = I q) → (∀ q, q ≠ b + 12 → q ≠ b + 37 → q ≠ b + 38 → q ≠ b + 39 → M q = L q) → RV C B (stR r g (win f t)) → BC J M b C (stR r g (win f t)) → Q (nI (pc (win f t &&& (r (9 + g) ^^^ (-1))))) J M) : W_X0_settle b x y z I L Q := by
  have hG := hC.2.1
  have hI := hC.1
  have hH := hC.2.2.1
  subst hx
  have v : vp_in (nI (cI C + g)) 16 := pk_in _ 16 (by omega) rfl
  have e12 : L (b + 12) (cI C + g) = r (9 + g) := (hS.2.2.2.2.1 g hg).1
  unfold W_X0_settle
  refine s_window hy hz (by omega) (by omega) ⟨v, ?_⟩
  rw [pk_cl (cI C + g) rfl (by omega), e12]
  rintro _ rfl
  refine ⟨v, v, ?_⟩
  rintro _ rfl
  rw [or_andnot]
  have hr2 := hr.st hC hg (inH_win (a := f) h2 (by omega))
  refine c_refresh hb hC hr2 h (hS.st hC hg) (fun J M hJ hM hB => s_bcL (k J M hJ (fun q q1 q2 q3 q4 => ?_) hr2 hB))
  rw [hM q q2 q3 q4, up2_row q1]
theorem fb_ct_id : ∀ {p : Nat → Bool} {m n : Nat}, (∀ k, m ≤ k → p k = false) → m ≤ n → fb_ct p n ≤ m := by
  intro p m n h hm
  obtain ⟨c, rfl⟩ : ∃ c, n = m + c := ⟨n - m, by omega⟩
  have z : fb_ct (fun k => p (m + k)) c = 0 := fb_ct_zero.mpr (fun k _ => h _ (by omega))
  rw [fb_ct_split, z]
  exact fb_ct_le _ _
/-- a price is small -/
theorem prF_n {C : CQ} (hC : CV C) {n f t : Nat} (hn : n < cI C + cG C) (h1 : f ≤ t) (h2 : t ≤ 60) : ∃ a, a ≤ 10000 ∧ prF C n (nI f) (nI t) = nI a := by
  have hR := hC.2.2.2.1
  have hct : fb_ct (cD C n).testBit 32 ≤ 16 := fb_ct_id (fun k hk => Nat.testBit_lt_two_pow (Nat.lt_of_lt_of_le (cD_lt hC hn) (Nat.pow_le_pow_right (by decide) hk))) (by omega)
  refine ⟨cR C * (t - f + 1) * fb_ct (cD C n).testBit 32, ?_, ?_⟩
  · have a1 : cR C * (t - f + 1) ≤ 9 * 61 := Nat.mul_le_mul hR (by omega)
    have a2 : cR C * (t - f + 1) * fb_ct (cD C n).testBit 32 ≤ 9 * 61 * 16 := Nat.mul_le_mul a1 hct
    omega
  · unfold prF
    rw [pk_sub h1, nI_1, pk_mul, pk_mul]
theorem op_replay {p1 p2 p3 : Int32} {P : Int32 → Int32 → TI → TL → Prop} (h : INV I L b d X B) (hB : B < 2 ^ 30) (fin : ∀ k r J M X2, OKL k r.toInt64 J M b d X2 (B + 10000) → P k r J M) : W_L_replay p1 p2 p3 I L b d (fun k I1 L1 => W_X9_replay p1 p2 p3 I1 L1 (fun r J M => P k r J M)) := by
  have nb := h.nb
  have hbl := bn_lt h.2.2.1.1
  have hm : INV I L b d X (B + 10000) := h.mono (by omega)
  unfold W_L_replay W_X8_replay
  by_cases hg : rg p1 (cI (xC X)) (cI (xC X) + cG (xC X))
  · obtain ⟨n, n1, hn, rfl⟩ := hg
    obtain ⟨g, rfl⟩ : ∃ g, n = cI (xC X) + g := ⟨n - cI (xC X), by omega⟩
    have hg : g < cG (xC X) := by omega
    refine c_gate1 h rfl hg ?_
    by_cases ht : tmO p2 p3 (cH (xC X))
    · obtain ⟨f, t, rfl, rfl, h1, h2⟩ := ht
      obtain ⟨a, ha, ea⟩ := prF_n h.C hn h1 (by omega)
      have hw : un (xr X 3) ≤ B := h.r.2.1 2 (by omega)
      have e15 : I (b + 15) 2 = nI (un (xr X 3)) := h.bc.2.1.2.1 2 (by omega)
      refine c_times1 h rfl rfl h1 h2 (s_price h.bc.1 h.C rfl hn ?_)
      rw [ea]
      have mgo : ∀ (K : TI → TL → Prop) (I1 : TI) (L1 : TL) (Q : Int32 → TI → TL → Prop), IM K I1 L1 X B → (a ≤ un (xr X 3) → W_X9_records (up2 I1 436 0 0) L1 (fun (I3140 : TI) (L3141 : TL) => W_X9_times (nI f) (nI t) I3140 L3141 (fun (r3142 : Int64) => vp_in ((9 : Int32) + (nI (cI (xC X) + g) - (I3140 436 10))) 241 ∧ (W_X9_ones (r3142 &&& ((L3141 437 (((9 : Int32) + (nI (cI (xC X) + g) - (I3140 436 10))).toNatClampNeg)) ^^^ (-1))) I3140 L3141 (fun (r3144 : Int32) => vp_in ((9 : Int32) + (nI (cI (xC X) + g) - (I3140 436 10))) 241 ∧ (W_X9_times (nI f) (nI t) I3140 (up2 L3141 437 3 ((L3141 437 3) - ((nI a).toInt64))) (fun (r3146 : Int64) => vp_in ((9 : Int32) + (nI (cI (xC X) + g) - (I3140 436 10))) 241 ∧ (∀ L3148 : TL, L3148 = (up2 (up2 L3141 437 3 ((L3141 437 3) - ((nI a).toInt64))) 437 (((9 : Int32) + (nI (cI (xC X) + g) - (I3140 436 10))).toNatClampNeg) (((up2 L3141 437 3 ((L3141 437 3) - ((nI a).toInt64))) 437 (((9 : Int32) + (nI (cI (xC X) + g) - (I3140 436 10))).toNatClampNeg)) ||| r3146)) → (Q r3144 I3140 L3148))))))))) → (¬ a ≤ un (xr X 3) → Q (-3) (up2 I1 436 0 0) L1) → W_X9_replay (nI (cI (xC X) + g)) (nI f) (nI t) I1 L1 Q := by
        intro K I1 L1 Q hI k1 k2
        have hI2 : IM K (up2 I1 436 0 0) L1 X B := hI.thr
        unfold W_X9_replay
        refine n_noTimes1 hI rfl hg rfl rfl h1 h2 ⟨fun _ => s_costOf hI2.mc h.C rfl hn ?_, fun e => absurd rfl e⟩
        rw [ea]
        exact ek_if (row_le hI2.row rfl (by omega) (by omega)) k1 k2
      refine pk_le _ _ (fun q => ?_) (fun q => ?_) rfl e15 (by omega) (by omega)
      · refine c_record h.1 h.2.2 (fun J M hJ hi hm2 hb => ?_)
        have ew : J (b + 15) 2 = nI (un (xr X 3)) := hJ.2.1.2.1.2.1 2 (by omega)
        rw [ew, pk_sub q]
        have hS1 : SC (up2 J (b + 15) 2 (nI (un (xr X 3) - a))) M (b + 6) (xC X) (upR (xr X) (1 + 2) (lN (un (xr X 3) - a))) := by
          have hS0 : SC J M (b + 6) (xC X) (xr X) := hJ.2.1.2.1
          exact hS0.pur (p := 2) (by omega) (by rw [un_lN (by omega)])
        have hr1 : RV (xC X) B (upR (xr X) (1 + 2) (lN (un (xr X 3) - a))) := h.r.pur h.C (by omega) (by rw [un_lN (by omega)]; omega)
        have hc1 : CC (up2 J (b + 15) 2 (nI (un (xr X 3) - a))) (b + 1) (xC X) := CC.fr hJ.2.1.1 (fun q2 y1 y2 => up2_row (by omega))
        refine c_settle h.2.2.1.1 h.C hr1 hc1 hS1 rfl hg rfl rfl h1 h2 (fun J2 M2 hJ2 hM2 hR hBC => ?_)
        have hC2 : CI J2 M2 b d (setr (recX X) (stR (upR (xr X) (1 + 2) (lN (un (xr X 3) - a))) g (win f t))) := hJ.bench (recX_V h.1) (fun q2 y1 y2 => by rw [hJ2 q2 (by omega), up2_row (by omega)]) (fun q2 y1 y2 => hM2 q2 (by omega) (by omega) (by omega) (by omega)) hBC
        have hV2 : XV (setr (recX X) (stR (upR (xr X) (1 + 2) (lN (un (xr X 3) - a))) g (win f t))) B := setr_V (recX_V h.1) hR
        have hIM := IM.of h hV2 hC2 (fun q2 hq2 => by rw [hJ2 q2 (by omega), up2_row (by omega), hi q2 hq2]) (fun q2 hq2 => by rw [hM2 q2 (by omega) (by omega) (by omega) (by omega), hm2 q2 hq2])
        refine mgo _ _ _ _ hIM.out (fun _ => ?_) (fun e => absurd q e)
        refine n_rec (hIM.out.thr) (fun J5 M5 hJ5 z5 e5 hs5 hf5 => ?_)
        have r5 : M5 437 = xr X := hJ5.row
        have e9 : (9 : Int32) + (nI (cI (xC X) + g) - (J5 436 10)) = nI (9 + g) := by
          rw [hJ5.mc.1, show nI (cI (xC X) + g) - nI (cI (xC (recX X))) = nI (cI (xC X) + g - cI (xC X)) from pk_sub (Nat.le_add_right _ _), show (9 : Int32) + nI (cI (xC X) + g - cI (xC X)) = nI (9 + (cI (xC X) + g - cI (xC X))) from nI_add 9 _]
          congr 1
          omega
        have v9 : vp_in ((9 : Int32) + (nI (cI (xC X) + g) - (J5 436 10))) 241 := pk_in _ 241 (by omega) e9
        rw [pk_cl _ e9 (by omega)]
        refine s_times rfl rfl (by omega) (by omega) ⟨v9, s_ones ⟨v9, s_times rfl rfl (by omega) (by omega) ⟨v9, ?_⟩⟩⟩
        rintro _ rfl
        have e3 : M5 437 3 - (nI a).toInt64 = lN (un (xr X 3) - a) := by
          rw [r5, nI_l (by omega)]
          conv => lhs; rw [un_e (xr X 3)]
          exact lN_sub q
        rw [e3]
        have e0 : pc (win f t &&& (upR (xr X) (1 + 2) (lN (un (xr X 3) - a)) (9 + g) ^^^ (-1))) = pc (win f t &&& (M5 437 (9 + g) ^^^ (-1))) := by rw [upR_n (by omega), r5]
        rw [← e0]
        refine fin _ _ _ _ _ ((fin0 (X := setr (recX X) (stR (upR (xr X) (1 + 2) (lN (un (xr X 3) - a))) g (win f t))) (n_end hJ5 hV2 ?_ (fun q2 y1 y2 y3 y4 y5 => ?_)) (by rw [z5, up2_s]) ?_).mono (by omega))
        · rw [upR_row, upR_row, r5]
          rfl
        · rw [up2_row y1, up2_row y1]
        · rw [up2_row (by decide), up2_row (by decide), e5, up2_s]
      · have iK := (IM.of h h.1 h.2.2 (fun _ _ => rfl) (fun _ _ => rfl)).out (x := (-3 : Int32).toInt64)
        refine mgo _ _ _ _ iK (fun e => absurd e (by omega)) (fun _ => fin _ _ _ _ _ (fin0 ⟨hm.1, iK.thr.2.1, iK.thr.k⟩ up2_s up2_s))
    · refine c_times0 h ht (Or.inr ⟨rfl, ?_⟩)
      unfold W_X9_replay
      exact m_noTimesT h rfl hg ht ⟨fun e => absurd e (by decide), fun _ => fin _ _ _ _ _ (fin1 hm.thr up2_s (by decide))⟩
  · refine c_gate0 h hg (Or.inl ⟨rfl, ?_⟩)
    unfold W_X9_replay
    exact m_noTimesG h hg ⟨fun e => absurd e (by decide), fun _ => fin _ _ _ _ _ (fin1 hm.thr up2_s (by decide))⟩
end SETTLE
