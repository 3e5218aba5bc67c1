/-! accept -/
section ACCEPT
variable {I J : TI} {L M : TL} {b d B : Nat} {X : XT}
/-- what a ruling lays down -/
def rlV (v m : Int64) (s : Bool) : Int64 := if s = true then v ||| m else v &&& (m ^^^ (-1))
def rlR (r : RW) (g : Nat) (m : Int64) (s : Bool) : RW := upR (upR r (21 + g) (r (21 + g) ||| m)) (33 + g) (rlV (r (33 + g)) m s)
theorem rl_sub {v w m : Int64} {s : Bool} (h : (v &&& w) = v) : (rlV v m s &&& (w ||| m)) = rlV v m s := by
  unfold rlV
  apply bw_ext
  intro t ht
  have e : (bw v t && bw w t) = bw v t := by rw [← bw_and, h]
  cases s with
  | true =>
    rw [if_pos rfl, bw_and, bw_or, bw_or]
    cases hv : bw v t <;> cases hw : bw w t <;> cases hm : bw m t <;> rw [hv, hw] at e <;> first | rfl | exact absurd e (by decide)
  | false =>
    rw [if_neg (by decide), bw_and, bw_and, bw_or, bw_not _ ht]
    cases hv : bw v t <;> cases hw : bw w t <;> cases hm : bw m t <;> rw [hv, hw] at e <;> first | rfl | exact absurd e (by decide)
theorem RV.rl {C : CQ} {r : RW} {g : Nat} {m : Int64} {s : Bool} (hC : CV C) (h : RV C B r) (hg : g < cG C) (hm : inH (cH C) m) : RV C B (rlR r g m s) := by
  have hG := hC.2.1
  refine h.updL hC (fun k hk => by unfold rlR; rw [upR_n (by omega), upR_n (by omega)]) (fun g2 hg2 => ?_)
  obtain ⟨q1, q2, q3, -⟩ := h.2.2.2.2.1 g2 hg2
  unfold rlR
  rw [upR_n (show 9 + g2 ≠ 33 + g by omega), upR_n (show 9 + g2 ≠ 21 + g by omega), upR_n (show 21 + g2 ≠ 33 + g by omega)]
  refine ⟨q1, ?_⟩
  by_cases e : g2 = g
  · subst e
    rw [upR_s, upR_s]
    exact ⟨inH_or q2 hm, rl_sub q3⟩
  · rw [upR_n (show 21 + g2 ≠ 21 + g by omega), upR_n (show 33 + g2 ≠ 33 + g by omega), upR_n (show 33 + g2 ≠ 21 + g by omega)]
    exact ⟨q2, q3⟩
theorem SC.rl {C : CQ} {r : RW} {a g : Nat} {m : Int64} {s : Bool} (hC : CV C) (h : SC I L a C r) (hg : g < cG C) : SC I (up2 (up2 L (a + 7) (cI C + g) (r (21 + g) ||| m)) (a + 8) (cI C + g) (rlV (r (33 + g)) m s)) a C (rlR r g m s) := by
  have hG := hC.2.1
  refine h.updL hC (fun k hk => by unfold rlR; rw [upR_n (by omega), upR_n (by omega)]) (by rw [up2_row (by omega), up2_row (by omega)]) (fun n hn => ⟨by rw [up2_row (show a + 6 ≠ a + 8 by omega), up2_row (show a + 6 ≠ a + 7 by omega)], by rw [up2_row (show a + 7 ≠ a + 8 by omega), up2_n (Or.inr (by omega))]⟩) (fun g2 hg2 => ?_)
  obtain ⟨q1, q2, q3, -⟩ := h.2.2.2.2.1 g2 hg2
  unfold rlR
  rw [upR_n (show 9 + g2 ≠ 33 + g by omega), upR_n (show 9 + g2 ≠ 21 + g by omega), upR_n (show 21 + g2 ≠ 33 + g by omega), up2_row (show a + 6 ≠ a + 8 by omega), up2_row (show a + 6 ≠ a + 7 by omega), up2_row (show a + 7 ≠ a + 8 by omega)]
  refine ⟨q1, ?_⟩
  by_cases e : g2 = g
  · subst e
    rw [upR_s, upR_s, up2_s, up2_s]
    exact ⟨rfl, rfl⟩
  · rw [upR_n (show 21 + g2 ≠ 21 + g by omega), upR_n (show 33 + g2 ≠ 33 + g by omega), upR_n (show 33 + g2 ≠ 21 + g by omega), up2_n (Or.inr (show cI C + g2 ≠ cI C + g by omega)), up2_n (Or.inr (show cI C + g2 ≠ cI C + g by omega)), up2_row (show a + 8 ≠ a + 7 by omega)]
    exact ⟨q2, q3⟩
def rlB (r : RW) (k : Nat) : Bool := decide (dF r k 7 = 1) == decide (dF r k 3 = 1)
theorem rlB_n {r : RW} {k : Nat} {x y : Int32} (hx : x = if dF r k 7 = 1 then 1 else 0) (hy : y = if dF r k 3 = 1 then 1 else 0) : x = y ↔ rlB r k = true := by
  subst hx; subst hy
  unfold rlB
  by_cases p : dF r k 7 = 1 <;> by_cases q : dF r k 3 = 1 <;> simp [p, q]
theorem cnt_eq {m x y : Int64} : ((m &&& (x ^^^ (-1))) &&& (y ^^^ (-1))) = (m &&& ((x ||| y) ^^^ (-1))) := by
  apply bw_ext
  intro t ht
  rw [bw_and, bw_and, bw_not _ ht, bw_not _ ht, bw_and, bw_not _ ht, bw_or]
  cases bw m t <;> cases bw x t <;> cases bw y t <;> rfl
theorem op_accept {p1 : Int32} {P : Int32 → Int32 → TI → TL → Prop} (h : INV I L b d X B) (fin : ∀ k r J M X2, OKL k r.toInt64 J M b d X2 B → P k r J M) : W_L_accept p1 I L b d (fun k I1 L1 => W_X9_accept p1 I1 L1 (fun r J M => P k r J M)) := by
  have nb := h.nb
  have hc := h.r.2.2.1
  have hbl := bn_lt h.2.2.1.1
  unfold W_L_accept W_X8_accept
  by_cases hk : rg p1 0 (un (xr X 4))
  · obtain ⟨k, -, hk, rfl⟩ := hk
    obtain ⟨s1, s2, s3, s4, s5, s6, s7, s8, ⟨st, st1, st2⟩, s10⟩ := h.r.ds h.C hk
    have eg : dN (xr X) k = cI (xC X) + (dN (xr X) k - cI (xC X)) := by omega
    have hg : dN (xr X) k - cI (xC X) < cG (xC X) := by omega
    have hn := s1.2
    generalize dN (xr X) k - cI (xC X) = g at eg hg
    have s3' := s3
    rw [eg] at s3'
    obtain ⟨m, hm⟩ : ∃ m, m = win (dA (xr X) k) (dE (xr X) k) := ⟨_, rfl⟩
    have inm : inH (cH (xC X)) m := by rw [hm]; exact inH_win (by omega) (by omega)
    refine c_rd1 h rfl hk ⟨dis_l h (by omega), ?_⟩
    rw [h.ds hk (show 6 < 8 by omega)]
    refine ⟨fun e6 => ?_, fun e6 => ?_⟩
    · have v71 : dF (xr X) k 7 = 0 ∨ dF (xr X) k 7 = 1 := by
        rcases s10 with ⟨_, q⟩ | q
        · exact absurd e6 q
        · exact q
      refine c_record h.1 h.2.2 (fun J M hJ hi hm2 hb => ?_)
      have hS0 : SC J M (b + 6) (xC X) (xr X) := hJ.2.1.2.1
      have hds : ∀ f, f < 8 → J (b + 17 + k) f = dF (xr X) k f := fun f hf => by
        have := hS0.ds hk hf
        rw [show b + 6 + 11 + k = b + 17 + k by omega] at this
        exact this
      have hS1 : SC (up2 J (b + 17 + k) 6 3) M (b + 6) (xC X) (upR (xr X) (81 + 8 * k + 6) (3 : Int32).toInt64) := by
        have := hS0.dsp h.C (k := k) (f := 6) (x := 3) (by omega)
        rw [show b + 6 + 11 + k = b + 17 + k by omega] at this
        exact this
      have hR1 : RV (xC X) B (upR (xr X) (81 + 8 * k + 6) (3 : Int32).toInt64) := h.r.v6 h.C (s := 3) hk rfl (by omega) (Or.inl (by decide))
      have jo : ∀ f, f < 8 → f ≠ 6 → (up2 J (b + 17 + k) 6 3) (b + 17 + k) f = dF (xr X) k f := fun f q1 q2 => by rw [up2_n (Or.inr q2), hds f q1]
      have jr : ∀ q, q ≠ b + 17 + k → (up2 J (b + 17 + k) 6 3) q = J q := fun q q1 => up2_row q1
      generalize up2 J (b + 17 + k) 6 3 = J1 at hS1 jo jr
      have l13 : M (b + 13) (cI (xC X) + g) = xr X (21 + g) := (hS0.2.2.2.2.1 g hg).2.1
      have l12 : M (b + 12) (cI (xC X) + g) = xr X (9 + g) := (hS0.2.2.2.2.1 g hg).1
      have l14 : M (b + 14) (cI (xC X) + g) = xr X (33 + g) := (hS0.2.2.2.2.1 g hg).2.2.1
      have vn : vp_in (nI (cI (xC X) + g)) 16 := pk_in _ 16 (by omega) rfl
      obtain ⟨r1, hr1⟩ : ∃ r1, r1 = upR (xr X) (81 + 8 * k + 6) (3 : Int32).toInt64 := ⟨_, rfl⟩
      rw [← hr1] at hS1 hR1
      have q21 : r1 (21 + g) = xr X (21 + g) := by rw [hr1, upR_n (by omega)]
      have q33 : r1 (33 + g) = xr X (33 + g) := by rw [hr1, upR_n (by omega)]
      unfold W_X0_rule
      rw [jo 1 (by omega) (by decide), jo 2 (by omega) (by decide), jo 0 (by omega) (by decide), s3', s4, s5, pk_cl (cI (xC X) + g) rfl (by omega), l13, l12, jo 7 (by omega) (by decide)]
      refine s_window rfl rfl (by omega) (by omega) ⟨vn, vn, ?_⟩
      rw [← hm]
      rintro _ rfl
      -- behind the ruling
      have endC : ∀ s : Bool, s = rlB (xr X) k → W_X0_refresh b J1 (up2 (up2 M (b + 13) (cI (xC X) + g) (xr X (21 + g) ||| m)) (b + 14) (cI (xC X) + g) (rlV (xr X (33 + g)) m s)) (fun (I338 : TI) (L339 : TL) => W_J13_bitCount_95d88 ((m &&& (xr X (21 + g) ^^^ (-1))) &&& (xr X (9 + g) ^^^ (-1))) I338 L339 (fun (r340 : Int32) => W_X9_accept (nI k) I338 (up2 L339 456 0 (r340.toInt64)) (fun r J M => P 0 r J M))) := by
        rintro s hs
        have hS2 := hS1.rl h.C (m := m) (s := s) hg
        rw [q21, q33] at hS2
        have hR2 := hR1.rl h.C (m := m) (s := s) hg inm
        have hc2 : CC J1 (b + 1) (xC X) := CC.fr hJ.2.1.1 (fun q2 y1 y2 => jr _ (by omega))
        refine c_refresh h.2.2.1.1 h.C hR2 hc2 hS2 (fun J3 M3 hJ3 hM3 hBC => s_bcL ?_)
        have gJ : ∀ q2, q2 ≠ b + 41 → q2 ≠ b + 17 + k → J3 q2 = J q2 := fun q2 y1 y2 => by rw [hJ3 q2 y1, jr q2 y2]
        have gM : ∀ q2, q2 ≠ b + 13 → q2 ≠ b + 14 → q2 ≠ b + 37 → q2 ≠ b + 38 → q2 ≠ b + 39 → M3 q2 = M q2 := fun q2 y1 y2 y3 y4 y5 => by rw [hM3 q2 y3 y4 y5, up2_row (show q2 ≠ b + 6 + 8 by omega), up2_row (show q2 ≠ b + 6 + 7 by omega)]
        have hC2 : CI J3 M3 b d (setr (recX X) (rlR r1 g m s)) := hJ.bench (recX_V h.1) (fun q2 y1 y2 => gJ q2 (by omega) (by omega)) (fun q2 y1 y2 => gM q2 (by omega) (by omega) (by omega) (by omega) (by omega)) hBC
        have hV2 : XV (setr (recX X) (rlR r1 g m s)) B := setr_V (recX_V h.1) hR2
        have hIM := IM.of h hV2 hC2 (fun q2 hq2 => by rw [gJ q2 (by omega) (by omega), hi q2 hq2]) (fun q2 hq2 => by rw [gM q2 (by omega) (by omega) (by omega) (by omega) (by omega), hm2 q2 hq2])
        have hI2 := hIM.out (x := (nI (pc ((m &&& (xr X (21 + g) ^^^ (-1))) &&& (xr X (9 + g) ^^^ (-1))))).toInt64)
        have hI3 := hI2.thr (x := 0)
        unfold W_X9_accept
        refine n_noD1 hI2 rfl hk ⟨fun _ => s_of (f := 6) hI3.row rfl (by omega) rfl (by omega) ⟨fun _ => ?_, fun e => absurd e6 e⟩, fun e => absurd rfl e⟩
        refine n_rec hI3 (fun J5 M5 hJ5 z5 e5 hs5 hf5 => ?_)
        have r5 : M5 437 = xr X := hJ5.row
        have eg0 : nI (cI (xC X) + g) - (J5 436 10) = nI g := by
          rw [hJ5.mc.1]
          show nI (cI (xC X) + g) - nI (cI (xC X)) = _
          rw [pk_sub (Nat.le_add_right _ _), Nat.add_sub_cancel_left]
        have e21 : (21 : Int32) + nI g = nI (21 + g) := nI_add 21 g
        have e9 : (9 : Int32) + nI g = nI (9 + g) := nI_add 9 g
        have e33 : (33 : Int32) + nI g = nI (33 + g) := nI_add 33 g
        have v21 : vp_in ((21 : Int32) + nI g) 241 := pk_in _ 241 (by omega) e21
        have v33 : vp_in ((33 : Int32) + nI g) 241 := pk_in _ 241 (by omega) e33
        refine s_of (f := 0) r5 rfl (by omega) rfl (by omega) ?_
        rw [s3', eg0, pk_cl _ e21 (by omega), pk_cl _ e9 (by omega)]
        unfold W_X9_windowOf
        refine s_of (f := 1) r5 rfl (by omega) rfl (by omega) (s_of (f := 2) r5 rfl (by omega) rfl (by omega) (s_times s4 s5 (by omega) (by omega) ⟨v21, pk_in _ 241 (by omega) e9, ?_⟩))
        rw [← hm, r5, ← cnt_eq]
        refine s_ones (s_of (f := 7) r5 rfl (by omega) rfl (by omega) ?_)
        generalize hcnt : pc ((m &&& (xr X (21 + g) ^^^ (-1))) &&& (xr X (9 + g) ^^^ (-1))) = cnt
        have last : ∀ s0 : Int32, (s0 = 0 → s = false) → (¬ s0 = 0 → s = true) → B_X9_accept_115 (nI k) (nI g) m (nI cnt) s0 J5 M5 (fun r J M => P 0 r J M) := by
          intro s0 z0 z1
          unfold B_X9_accept_115
          rw [pk_cl _ e21 (by omega), pk_cl _ e33 (by omega), r5]
          refine ⟨v21, v21, ?_⟩
          rintro _ rfl
          have e33v : (up2 M5 437 (21 + g) (xr X (21 + g) ||| m)) 437 (33 + g) = xr X (33 + g) := by rw [up2_n (Or.inr (by omega)), r5]
          rw [e33v]
          have fin172 : ∀ w : Int64, w = rlV (xr X (33 + g)) m s → B_X9_accept_172 (nI k) (nI cnt) ((33 : Int32) + nI g) w J5 (up2 M5 437 (21 + g) (xr X (21 + g) ||| m)) (fun r J M => P 0 r J M) := by
            rintro w rfl
            unfold B_X9_accept_172
            rw [pk_cl _ e33 (by omega)]
            refine ⟨v33, s_sets rfl (show k < 20 by omega) (f := 6) rfl (by omega) ?_⟩
            refine fin _ _ _ _ _ (fin0 (X := setr (recX X) (rlR r1 g m s)) (n_end hJ5 hV2 ?_ (fun q2 y1 y2 y3 y4 y5 => ?_)) (by rw [z5, up2_s]) ?_)
            · rw [upR_row, upR_row, upR_row, r5]
              unfold rlR
              rw [q21, q33, hr1, upR_comm (show 81 + 8 * k + 6 ≠ 21 + g by omega), upR_comm (show 81 + 8 * k + 6 ≠ 33 + g by omega)]
            · rw [up2_row y1, up2_row y1, up2_row y1]
            · rw [up2_row (by decide), up2_row (by decide), up2_row (by decide), e5, up2_s, hcnt]
          refine ⟨fun e => ⟨v33, fin172 _ ?_⟩, fun e => ⟨v33, fin172 _ ?_⟩⟩
          · rw [z0 e]
            rfl
          · rw [z1 e]
            rfl
        have go : ∀ x : Int32, (x = if dF (xr X) k 7 = 1 then 1 else 0) → B_X9_accept_92 (nI k) (nI g) m (nI cnt) x J5 M5 (fun r J M => P 0 r J M) := by
          intro x hx
          unfold B_X9_accept_92
          have go2 : ∀ y : Int32, (y = if dF (xr X) k 3 = 1 then 1 else 0) → B_X9_accept_107 (nI k) (nI g) m (nI cnt) x y J5 M5 (fun r J M => P 0 r J M) := by
            intro y hy
            have key := rlB_n hx hy
            rw [← hs] at key
            refine ⟨fun e => last 0 (fun _ => ?_) (fun z => absurd rfl z), fun e => last 1 (fun z => absurd z (by decide)) (fun _ => key.mp e)⟩
            cases s with
            | true => exact absurd (key.mpr rfl) e
            | false => rfl
          refine s_of (f := 3) r5 rfl (by omega) rfl (by omega) ⟨fun e => go2 0 (by rw [if_neg e]), fun e => go2 1 (by rw [if_pos e])⟩
        exact ⟨fun e => go 0 (by rw [if_neg e]), fun e => go 1 (by rw [if_pos e])⟩
      have c82 : ∀ s0 : Int32, (s0 = 0 → rlB (xr X) k = false) → (¬ s0 = 0 → rlB (xr X) k = true) → B_X0_rule_82 b (b + 17 + k) (nI (cI (xC X) + g)) m ((m &&& (xr X (21 + g) ^^^ (-1))) &&& (xr X (9 + g) ^^^ (-1))) s0 J1 M (fun (r3777 : Int32) (I3778 : TI) (L3779 : TL) => W_X9_accept (nI k) I3778 (up2 L3779 456 0 (r3777.toInt64)) (fun r J M => P 0 r J M)) := by
        intro s0 z0 z1
        unfold B_X0_rule_82
        rw [pk_cl (cI (xC X) + g) rfl (by omega), l13]
        refine ⟨vn, vn, ?_⟩
        rintro _ rfl
        have e14 : (up2 M (b + 13) (cI (xC X) + g) (xr X (21 + g) ||| m)) (b + 14) (cI (xC X) + g) = xr X (33 + g) := by rw [up2_row (by omega), l14]
        rw [e14]
        have c139 : ∀ w : Int64, w = rlV (xr X (33 + g)) m (rlB (xr X) k) → B_X0_rule_139 b (b + 17 + k) ((m &&& (xr X (21 + g) ^^^ (-1))) &&& (xr X (9 + g) ^^^ (-1))) (nI (cI (xC X) + g)) w J1 (up2 M (b + 13) (cI (xC X) + g) (xr X (21 + g) ||| m)) (fun (r3777 : Int32) (I3778 : TI) (L3779 : TL) => W_X9_accept (nI k) I3778 (up2 L3779 456 0 (r3777.toInt64)) (fun r J M => P 0 r J M)) := by
          rintro w rfl
          unfold B_X0_rule_139
          rw [pk_cl (cI (xC X) + g) rfl (by omega)]
          exact ⟨vn, endC _ rfl⟩
        refine ⟨fun e => ⟨vn, c139 _ ?_⟩, fun e => ⟨vn, c139 _ ?_⟩⟩
        · rw [z0 e]
          rfl
        · rw [z1 e]
          rfl
      have c61 : ∀ x : Int32, (x = if dF (xr X) k 7 = 1 then 1 else 0) → B_X0_rule_61 b (b + 17 + k) (nI (cI (xC X) + g)) m ((m &&& (xr X (21 + g) ^^^ (-1))) &&& (xr X (9 + g) ^^^ (-1))) x J1 M (fun (r3777 : Int32) (I3778 : TI) (L3779 : TL) => W_X9_accept (nI k) I3778 (up2 L3779 456 0 (r3777.toInt64)) (fun r J M => P 0 r J M)) := by
        intro x hx
        unfold B_X0_rule_61
        rw [jo 3 (by omega) (by decide)]
        have go2 : ∀ y : Int32, (y = if dF (xr X) k 3 = 1 then 1 else 0) → B_X0_rule_74 b (b + 17 + k) (nI (cI (xC X) + g)) m ((m &&& (xr X (21 + g) ^^^ (-1))) &&& (xr X (9 + g) ^^^ (-1))) x y J1 M (fun (r3777 : Int32) (I3778 : TI) (L3779 : TL) => W_X9_accept (nI k) I3778 (up2 L3779 456 0 (r3777.toInt64)) (fun r J M => P 0 r J M)) := by
          intro y hy
          have key := rlB_n hx hy
          refine ⟨fun e => c82 0 (fun _ => ?_) (fun z => absurd rfl z), fun e => c82 1 (fun z => absurd z (by decide)) (fun _ => key.mp e)⟩
          cases hq : rlB (xr X) k with
          | true => exact absurd (key.mpr hq) e
          | false => rfl
        exact ⟨fun e => go2 0 (by rw [if_neg e]), fun e => go2 1 (by rw [if_pos e])⟩
      exact ⟨fun e => c61 0 (by rw [if_neg e]), fun e => c61 1 (by rw [if_pos e])⟩
    · unfold W_X9_accept
      refine m_noD1 h.out rfl hk ⟨fun _ => s_of (f := 6) h.out.row rfl (by omega) rfl (by omega) ⟨fun e => absurd e e6, fun _ => fin _ _ _ _ _ (fin0 h.out.thr up2_s up2_s)⟩, fun e => absurd rfl e⟩
  · refine c_rd0 h hk ⟨rfl, ?_⟩
    unfold W_X9_accept
    exact m_noD0 h hk ⟨fun e => absurd e (by decide), fun _ => fin _ _ _ _ _ (fin1 h.thr up2_s (by decide))⟩
end ACCEPT
