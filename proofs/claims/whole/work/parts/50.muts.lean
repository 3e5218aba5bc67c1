/-! calls that change: what they keep; setLimit, deposit, undo, snapshot -/
section MUTS
variable {I J : TI} {L M : TL} {b d B : Nat} {X : XT}
theorem WF_cong {C : CQ} {r s : RW} (hC : CV C) (e : ∀ k, 5 ≤ k → k < 81 → s k = r k) : ∀ n, n < cI C + cG C → shF C s n = shF C r n ∧ chF C s n = chF C r n ∧ deF C s n = deF C r n ∧ paF C s n = paF C r n := by
  have hI := hC.1
  have hG := hC.2.1
  have w := WF_ok hC s
  have dle : ∀ g, g < cG C → ∀ v, v < 3 → dl s g v = dl r g v := fun g hg v hv => by
    unfold dl
    rw [e _ (by omega) (by omega)]
  have w2 : WEq C r (shF C s) (chF C s) (deF C s) := by
    refine ⟨fun n hn => by rw [← e (5 + n) (by omega) (by omega)]; exact w.1 n hn, fun g hg => ?_⟩
    obtain ⟨a, c, f⟩ := w.2 g hg
    unfold latC at *
    rw [dle g hg 0 (by omega), dle g hg 1 (by omega)] at a
    rw [dle g hg 2 (by omega)] at c f
    rw [e (21 + g) (by omega) (by omega), e (33 + g) (by omega) (by omega), e (9 + g) (by omega) (by omega)] at f
    exact ⟨a, c, f⟩
  have p2 : PEqn C r (cG C) (paF C s) := by
    have p := paF_ok hC s
    refine ⟨p.1, fun g hg => ?_⟩
    rw [p.2 g hg, dle g hg 0 (by omega), dle g hg 1 (by omega)]
  intro n hn
  obtain ⟨a, c, f⟩ := w2.is hC hn
  exact ⟨a, c, f, PEqn.one hC _ (Nat.le_refl _) (paF_ok hC r) p2 n hn⟩
theorem BC.st {C : CQ} {r s : RW} (hC : CV C) (h : BC I L b C r) (eR : ∀ k, 5 ≤ k → k < 81 → s k = r k) (hS : SC J M (b + 6) C s) (e : ∀ k, b ≤ k → k ≤ b + 41 → (k < b + 6 ∨ b + 36 < k) → J k = I k ∧ M k = L k) : BC J M b C s := by
  refine ⟨h.1.fr (fun k a c => (e k (by omega) (by omega) (by omega)).1), hS, fun n hn => ?_⟩
  obtain ⟨a, c, f, g⟩ := WF_cong hC eR n hn
  rw [(e (b + 37) (by omega) (by omega) (by omega)).2, (e (b + 38) (by omega) (by omega) (by omega)).2, (e (b + 39) (by omega) (by omega) (by omega)).2, (e (b + 41) (by omega) (by omega) (by omega)).1, a, c, f, g]
  exact h.2.2 n hn
theorem CI.bench {Y : XT} {r : RW} (h : CI I L b d Y) (hV : XV Y B) (e : ∀ k, k < 436 → (k < b ∨ b + 41 < k) → J k = I k) (e2 : ∀ k, k < 436 → (k < b ∨ b + 41 < k) → M k = L k) (hB : BC J M b (xC Y) r) : CI J M b d (setr Y r) := by
  obtain ⟨h1, h2, ⟨h3, nx, h4, h5, h6⟩, h7, h8, h9, h10⟩ := h
  have hb := bn_lt h1.1
  refine ⟨h1, hB, ⟨by rw [e 1 (by omega) (by omega)]; exact h3, nx, h4, by rw [e 1 (by omega) (by omega)]; exact h5, fun j hj => ?_⟩, ⟨fun q => by rw [e 1 (by omega) (by omega)]; exact h7.1 q, fun s hs => ?_⟩, ?_, by rw [e 0 (by omega) (by omega)]; exact h9, ?_⟩
  · have hm : (nx + 10 - xk Y + j) % 10 < 10 := Nat.mod_lt _ (by omega)
    exact (h6 j hj).fr (hV.2.2.1.2 j hj).2.2.1 (fun k a c => e k (by omega) (by omega)) (fun k a c => e2 k (by omega) (by omega))
  · rw [e 1 (by omega) (by omega)]
    exact ⟨(h7.2 s hs).1, (h7.2 s hs).2.fr (hV.2.2.2.1 s hs).2.2.1 (fun k a c => e k (by omega) (by omega)) (fun k a c => e2 k (by omega) (by omega))⟩
  · rw [e 0 (by omega) (by omega), e 350 (by omega) (by omega)]
    exact h8
  · rw [e 0 (by omega) (by omega), e 351 (by omega) (by omega)]
    exact h10
theorem MI.row {Y : XT} {r : RW} (h : MI I L Y) (e : hiI I J) (hr : M 437 = r) (e2 : ∀ k, 436 ≤ k → k ≠ 437 → k ≠ 456 → M k = L k) : MI J M (setr Y r) := by
  obtain ⟨h1, h2, h3, h4, h5, h6, h7⟩ := h
  refine ⟨?_, hr, ?_, ?_, ?_, ?_, ?_⟩
  · unfold MC
    rw [e 436 (by omega), e 441 (by omega), e 442 (by omega), e 443 (by omega)]
    exact h1
  · rw [e 436 (by omega), e2 440 (by omega) (by omega) (by omega)]
    exact h3
  · rw [e 436 (by omega), e2 439 (by omega) (by omega) (by omega)]
    exact h4
  · rw [e 436 (by omega), e 447 (by omega)]
    exact h5
  · rw [e 436 (by omega)]
    exact h6
  · rw [e 436 (by omega), e 452 (by omega)]
    exact h7
theorem RV.mono {C : CQ} {B2 : Nat} {r : RW} (h : RV C B r) (hB : B ≤ B2) : RV C B2 r := ⟨h.1, fun p hp => Nat.le_trans (h.2.1 p hp) hB, h.2.2⟩
theorem XV.mono {B2 : Nat} (h : XV X B) (hB : B ≤ B2) : XV X B2 := ⟨h.1, h.2.1.mono hB, ⟨h.2.2.1.1, fun j hj => (h.2.2.1.2 j hj).mono hB⟩, fun s hs => (h.2.2.2.1 s hs).mono hB, h.2.2.2.2⟩
theorem INV.mono {B2 : Nat} (h : INV I L b d X B) (hB : B ≤ B2) : INV I L b d X B2 := ⟨h.1.mono hB, h.2⟩
theorem OKL.mono {B2 : Nat} {k : Int32} {r : Int64} (h : OKL k r I L b d X B) (hB : B ≤ B2) : OKL k r I L b d X B2 := ⟨h.1, h.2.1, h.2.2.mono hB⟩
theorem upR_s {r : RW} {k : Nat} {v : Int64} : upR r k v k = v := if_pos rfl
theorem upR_n {r : RW} {k i : Nat} {v : Int64} (h : i ≠ k) : upR r k v i = r i := if_neg h
theorem SC.lim {C : CQ} {r : RW} {a : Nat} {v : Int64} {x : Int32} (h : SC I L a C r) (hx : x = nI (un v)) : SC (up2 I a 8 x) L a C (upR r 0 v) := by
  obtain ⟨h1, h2, h3, h4, h5, h6⟩ := h
  refine ⟨by rw [up2_s, upR_s, hx], fun p hp => by rw [up2_row (by omega), upR_n (by omega)]; exact h2 p hp, by rw [up2_n (Or.inr (by decide)), upR_n (by omega)]; exact h3, fun n hn => by rw [upR_n (by omega)]; exact h4 n hn, fun g hg => ?_, fun k hk f hf => ?_⟩
  · rw [upR_n (by omega), upR_n (by omega), upR_n (by omega)]
    obtain ⟨q1, q2, q3, q4⟩ := h5 g hg
    refine ⟨q1, q2, q3, fun w hw => ?_⟩
    rw [up2_row (by omega), upR_dl (by omega)]
    exact q4 w hw
  · rw [upR_n (by omega)] at hk
    rw [up2_row (by omega), upR_n (by omega)]
    exact h6 k hk f hf
theorem SC.pur {C : CQ} {r : RW} {a p : Nat} {v : Int64} {x : Int32} (h : SC I L a C r) (hp : p < 3) (hx : x = nI (un v)) : SC (up2 I (a + 9) p x) L a C (upR r (1 + p) v) := by
  obtain ⟨h1, h2, h3, h4, h5, h6⟩ := h
  refine ⟨by rw [up2_row (by omega), upR_n (by omega)]; exact h1, fun q hq => ?_, by rw [up2_row (by omega), upR_n (by omega)]; exact h3, fun n hn => by rw [upR_n (by omega)]; exact h4 n hn, fun g hg => ?_, fun k hk f hf => ?_⟩
  · rw [up2_at]
    by_cases e : q = p
    · subst e
      rw [if_pos rfl, upR_s, hx]
    · rw [if_neg e, upR_n (by omega)]
      exact h2 q hq
  · rw [upR_n (by omega), upR_n (by omega), upR_n (by omega)]
    obtain ⟨q1, q2, q3, q4⟩ := h5 g hg
    refine ⟨q1, q2, q3, fun w hw => ?_⟩
    rw [up2_row (by omega), upR_dl (by omega)]
    exact q4 w hw
  · rw [upR_n (by omega)] at hk
    rw [up2_row (by omega), upR_n (by omega)]
    exact h6 k hk f hf
theorem RV.lim {C : CQ} {r : RW} {v : Int64} (hC : CV C) (h : RV C B r) (hv : 1 ≤ un v ∧ un v ≤ 20) : RV C B (upR r 0 v) := by
  obtain ⟨h1, h2, h3, h4, h5, h6⟩ := h
  refine ⟨by rw [upR_s]; exact hv, fun p hp => by rw [upR_n (by omega)]; exact h2 p hp, by rw [upR_n (by omega)]; exact h3, fun n hn => by rw [upR_n (by omega)]; exact h4 n hn, fun g hg => ?_, fun k hk => ?_⟩
  · rw [upR_n (by omega), upR_n (by omega), upR_n (by omega)]
    obtain ⟨q1, q2, q3, q4⟩ := h5 g hg
    exact ⟨q1, q2, q3, fun w hw => by rw [upR_dl (by omega)]; exact q4 w hw⟩
  · rw [upR_n (by omega)] at hk
    rw [upR_n (by omega), upR_n (by omega), upR_n (by omega), upR_n (by omega), upR_n (by omega), upR_n (by omega), upR_n (by omega), upR_n (by omega)]
    exact h6 k hk
theorem RV.pur {C : CQ} {r : RW} {p : Nat} {v : Int64} (hC : CV C) (h : RV C B r) (hp : p < 3) (hv : un v ≤ B) : RV C B (upR r (1 + p) v) := by
  obtain ⟨h1, h2, h3, h4, h5, h6⟩ := h
  refine ⟨by rw [upR_n (by omega)]; exact h1, fun q hq => ?_, by rw [upR_n (by omega)]; exact h3, fun n hn => by rw [upR_n (by omega)]; exact h4 n hn, fun g hg => ?_, fun k hk => ?_⟩
  · by_cases e : q = p
    · subst e
      rw [upR_s]
      exact hv
    · rw [upR_n (by omega)]
      exact h2 q hq
  · rw [upR_n (by omega), upR_n (by omega), upR_n (by omega)]
    obtain ⟨q1, q2, q3, q4⟩ := h5 g hg
    exact ⟨q1, q2, q3, fun w hw => by rw [upR_dl (by omega)]; exact q4 w hw⟩
  · rw [upR_n (by omega)] at hk
    rw [upR_n (by omega), upR_n (by omega), upR_n (by omega), upR_n (by omega), upR_n (by omega), upR_n (by omega), upR_n (by omega), upR_n (by omega)]
    exact h6 k hk
/-- the reference's record, in the words of INV: class first, then the reference -/
theorem m_rec {Q : TI → TL → Prop} (hV : XV X B) (h : MI I L X) (k : ∀ J M, MI J M (recX X) → lowI I J → lowL L M → J 436 0 = I 436 0 → M 456 = L 456 → Q J M) : W_X9_records I L Q :=
  m_records hV h (fun J M hM hl hs hz _ _ => k J M hM hl (fun q hq => hs q (nin1 (by omega))) hz (hs 456 (by decide)))
theorem m_thr {x : Int32} (h : MI I L X) : MI (up2 I 436 0 x) L X := by
  obtain ⟨h1, h2, h3, h4, h5, h6, h7⟩ := h
  refine ⟨h1.up (by omega), h2, ?_, ?_, ?_, ?_, ?_⟩
  · rw [up2_n (Or.inr (by decide))]
    exact h3
  · rw [up2_n (Or.inr (by decide))]
    exact h4
  · rw [up2_n (Or.inr (by decide)), up2_row (by decide)]
    exact h5
  · rw [up2_n (Or.inr (by decide))]
    exact h6
  · rw [up2_n (Or.inr (by decide)), up2_row (by decide)]
    exact h7
theorem MI.hi2 (h : MI I L X) (e : hiI I J) (e2 : hi2 L M) : MI J M X := h.hi e (fun k hk _ => e2 k hk)
theorem MI.out (h : MI I L X) {x : Int64} : MI I (up2 L 456 0 x) X := h.hi (fun _ _ => rfl) (fun k _ hk => up2_row hk)
theorem un_i32 {n : Nat} (h : n < 2 ^ 31) : un (nI n).toInt64 = n := by rw [nI_l h, un_lN (by omega)]
theorem op_setLimit {p1 : Int32} {P : Int32 → Int32 → TI → TL → Prop} (h : INV I L b d X B) (fin : ∀ k r J M X2, OKL k r.toInt64 J M b d X2 B → P k r J M) : W_L_setLimit p1 I L b d (fun k I1 L1 => W_X9_setLimit p1 I1 L1 (fun r J M => P k r J M)) := by
  have key := rg_iff (x := p1) (a := 1) (c := 21) (by omega) (by omega)
  unfold W_L_setLimit W_X8_setLimit
  by_cases hs : rg p1 1 21
  · have k2 := key.mp hs
    obtain ⟨n, n1, n2, rfl⟩ := hs
    refine ⟨fun e => absurd k2.1 (lt_le_f e), fun _ => ⟨fun _ => ?_, fun e => absurd (nI_le (show n ≤ 20 by omega) (by omega)) e⟩⟩
    refine c_record h.1 h.2.2 (fun J M hJ hi hm hb => ?_)
    have b6 := (hb (b + 6) (by omega) (by omega)).1
    have hbl := bn_lt h.2.2.1.1
    have hr2 : RV (xC X) B (upR (xr X) 0 (nI n).toInt64) := h.r.lim h.C (by rw [un_i32 (by omega)]; omega)
    have hC2 : CI (up2 J (b + 6) 8 (nI n)) M b d (setr (recX X) (upR (xr X) 0 (nI n).toInt64)) := by
      refine hJ.bench (recX_V h.1) (fun q q1 q2 => up2_row (by omega)) (fun _ _ _ => rfl) (hJ.2.1.st h.C (fun q q1 q2 => upR_n (by omega)) (hJ.2.1.2.1.lim (by rw [un_i32 (by omega)])) (fun q q1 q2 q3 => ⟨up2_row (by omega), rfl⟩))
    have hM2 : MI (up2 J (b + 6) 8 (nI n)) (up2 M 456 0 (J (b + 6) 8).toInt64) X := (h.2.1.hi2 hi hm).hi (fun q hq => up2_row (by omega)) (fun q q1 q2 => up2_row q2)
    have e8 : J (b + 6) 8 = nI (un (xr X 0)) := hJ.2.1.2.1.1
    unfold W_X9_setLimit
    refine s_in (a := 1) (c := 21) rfl rfl rfl (by omega) (by omega) (by omega) (fun _ => s_fails1 ⟨fun _ => ?_, fun e => absurd rfl e⟩) (fun e => absurd (rgi n1 n2) e)
    refine m_rec h.1 (m_thr hM2) (fun J2 M2 hR hl hlL hz h456 => ?_)
    have e0 : (M2 437 0).toInt32 = J (b + 6) 8 := by rw [hR.2.1, e8]; exact un_i _
    rw [e0]
    refine fin _ _ _ _ _ (fin0 (X := setr (recX X) (upR (xr X) 0 (nI n).toInt64)) ⟨setr_V (recX_V h.1) hr2, hR.row (fun _ _ => rfl) (by rw [upR_row, hR.2.1]; rfl) (fun q q1 q2 q3 => up2_row q2), ?_⟩ (by rw [hz, up2_s]) ?_)
    · refine hC2.low (setr_V (recX_V h.1) hr2) (fun q hq => ?_) (fun q hq => ?_)
      · rw [hl q hq, up2_row (by omega)]
      · rw [up2_row (by omega), hlL q hq, up2_row (by omega)]
    · rw [up2_row (by decide), h456, up2_s]
  · have bad : W_X9_setLimit p1 I L (fun r J M => P 1 r J M) := by
      unfold W_X9_setLimit
      refine s_in (a := 1) (c := 21) rfl rfl rfl (by omega) (by omega) (by omega) (fun e => absurd e hs) (fun _ => s_fails0 ⟨fun e => absurd e (by decide), fun _ => ?_⟩)
      rw [up2_u]
      exact fin _ _ _ _ _ (fin1 h.thr up2_s (by decide))
    refine ⟨fun _ => ⟨rfl, bad⟩, fun e => ⟨fun e2 => ?_, fun _ => ⟨rfl, bad⟩⟩⟩
    refine absurd (key.mpr ⟨lt_nle.mp e, ?_⟩) hs
    rw [Int32.lt_iff_toInt_lt, nI_toInt (by omega)]
    rw [Int32.le_iff_toInt_le, show (20 : Int32).toInt = 20 from rfl] at e2
    omega
theorem op_deposit {p1 p2 : Int32} {P : Int32 → Int32 → TI → TL → Prop} (h : INV I L b d X B) (hB : 1000000 ≤ B) (hB2 : B < 2 ^ 30) (fin : ∀ k r J M X2, OKL k r.toInt64 J M b d X2 B → P k r J M) : W_L_deposit p1 p2 I L b d (fun k I1 L1 => W_X9_deposit p1 p2 I1 L1 (fun r J M => P k r J M)) := by
  have hbl := bn_lt h.2.2.1.1
  unfold W_L_deposit W_X8_deposit
  by_cases hs : rg p1 0 3 ∧ rg p2 0 100000
  · obtain ⟨⟨p, -, hp, rfl⟩, ⟨a, -, ha, rfl⟩⟩ := hs
    have hu := h.r.2.1 p hp
    have e15 : I (b + 15) p = nI (un (xr X (1 + p))) := h.bc.2.1.2.1 p hp
    have e1 : (1 : Int32) + nI p = nI (1 + p) := nI_add 1 p
    rw [pk_cl p rfl (by omega), e15, nI_add]
    have vp : vp_in (nI p) 3 := pk_in p 3 hp rfl
    refine ⟨fun e => absurd e (nI_pos (by omega)), fun _ => ⟨fun e => absurd e (nI_ge (b := 3) hp (by omega)), fun _ => ⟨fun e => absurd e (nI_pos (by omega)), fun _ => ⟨fun _ => ⟨vp, ?_⟩, fun e => absurd (nI_le (show a ≤ 99999 by omega) (by omega)) e⟩⟩⟩⟩
    rintro _ rfl
    have mle : ∀ (L2 : TL), L2 437 = xr X → (((L2 437 (1 + p)) + (nI a).toInt64 ≤ 1000000) ↔ un (xr X (1 + p)) + a ≤ 1000000) := by
      intro L2 h2
      rw [h2, nI_l (by omega)]
      conv => lhs; rw [un_e (xr X (1 + p))]
      rw [lN_add]
      exact lN_le (b := 1000000) (by omega) (by omega)
    have inn : ∀ (J : TI) (L2 : TL) (Q : Int32 → TI → TL → Prop), B_X9_deposit_35 (nI p) (nI a) 1 (up2 J 436 0 0) L2 Q → W_X9_deposit (nI p) (nI a) J L2 Q := by
      intro J L2 Q q
      unfold W_X9_deposit
      refine s_in (a := 0) (c := 3) rfl rfl rfl (by omega) (by omega) (by omega) (fun _ => ⟨fun e => absurd e (by decide), fun _ => ?_⟩) (fun e => absurd (rgi (Nat.zero_le _) hp) e)
      exact s_in (a := 0) (c := 100000) rfl rfl rfl (by omega) (by omega) (by omega) (fun _ => ⟨fun e => absurd e (by decide), fun _ => q⟩) (fun e => absurd (rgi (Nat.zero_le _) ha) e)
    refine pk_le (un (xr X (1 + p)) + a) 1000000 (fun q => ?_) (fun q => ?_) rfl rfl (by omega) (by omega)
    · refine c_record h.1 h.2.2 (fun J M hJ hi hm hb => ⟨vp, ?_⟩)
      have hr2 : RV (xC X) B (upR (xr X) (1 + p) (lN (un (xr X (1 + p)) + a))) := h.r.pur h.C hp (by rw [un_lN (by omega)]; omega)
      have hC2 : CI (up2 J (b + 15) p (nI (un (xr X (1 + p)) + a))) M b d (setr (recX X) (upR (xr X) (1 + p) (lN (un (xr X (1 + p)) + a)))) := by
        refine hJ.bench (recX_V h.1) (fun q q1 q2 => up2_row (by omega)) (fun _ _ _ => rfl) (hJ.2.1.st h.C (fun q q1 q2 => upR_n (by omega)) (hJ.2.1.2.1.pur hp (by rw [un_lN (by omega)])) (fun q q1 q2 q3 => ⟨up2_row (by omega), rfl⟩))
      have hM2 : MI (up2 J (b + 15) p (nI (un (xr X (1 + p)) + a))) (up2 M 456 0 (nI (un (xr X (1 + p)) + a)).toInt64) X := (h.2.1.hi2 hi hm).hi (fun q hq => up2_row (by omega)) (fun q q1 q2 => up2_row q2)
      refine inn _ _ _ (s_fails1 ⟨fun _ => ?_, fun e => absurd rfl e⟩)
      have v1 : vp_in ((1 : Int32) + nI p) 241 := pk_in (1 + p) 241 (by omega) e1
      rw [pk_cl (1 + p) e1 (by omega)]
      refine ⟨v1, ek_if (mle _ hM2.2.1) (fun _ => ?_) (fun e => absurd q e)⟩
      refine m_rec h.1 (m_thr hM2) (fun J2 M2 hR hl hlL hz h456 => ⟨v1, v1, ?_⟩)
      rintro _ rfl
      refine ⟨v1, ?_⟩
      have r437 : M2 437 = xr X := hR.2.1
      have ev : M2 437 (1 + p) + (nI a).toInt64 = lN (un (xr X (1 + p)) + a) := by
        rw [r437, nI_l (by omega)]
        conv => lhs; rw [un_e (xr X (1 + p))]
        exact lN_add _ _
      rw [ev, up2_s, lN_i]
      refine fin _ _ _ _ _ (fin0 (X := setr (recX X) (upR (xr X) (1 + p) (lN (un (xr X (1 + p)) + a)))) ⟨setr_V (recX_V h.1) hr2, hR.row (fun _ _ => rfl) (by rw [upR_row, r437]) (fun q q1 q2 q3 => up2_row q2), ?_⟩ (by rw [hz, up2_s]) ?_)
      · refine hC2.low (setr_V (recX_V h.1) hr2) (fun q hq => ?_) (fun q hq => ?_)
        · rw [hl q hq, up2_row (by omega)]
        · rw [up2_row (by omega), hlL q hq, up2_row (by omega)]
      · rw [up2_row (by decide), h456, up2_s]
    · refine inn _ _ _ (s_fails1 ⟨fun _ => ?_, fun e => absurd rfl e⟩)
      rw [pk_cl (1 + p) e1 (by omega)]
      refine ⟨pk_in (1 + p) 241 (by omega) e1, ek_if (mle _ h.out.row) (fun e => by omega) (fun _ => ?_)⟩
      exact fin _ _ _ _ _ (fin0 h.out.thr up2_s up2_s)
  · have bad : W_X9_deposit p1 p2 I L (fun r J M => P 1 r J M) := by
      unfold W_X9_deposit
      have last : B_X9_deposit_34 p1 p2 (up2 I 436 0 0) L (fun r J M => P 1 r J M) := by
        show B_X9_deposit_35 p1 p2 0 (up2 I 436 0 0) L (fun r J M => P 1 r J M)
        refine s_fails0 ⟨fun e => absurd e (by decide), fun _ => ?_⟩
        rw [up2_u]
        exact fin _ _ _ _ _ (fin1 h.thr up2_s (by decide))
      refine s_in (a := 0) (c := 3) rfl rfl rfl (by omega) (by omega) (by omega) (fun e => ⟨fun z => absurd z (by decide), fun _ => ?_⟩) (fun _ => ⟨fun _ => last, fun z => absurd rfl z⟩)
      exact s_in (a := 0) (c := 100000) rfl rfl rfl (by omega) (by omega) (by omega) (fun e2 => absurd ⟨e, e2⟩ hs) (fun _ => ⟨fun _ => last, fun z => absurd rfl z⟩)
    refine ⟨fun _ => ⟨rfl, bad⟩, fun e => ⟨fun _ => ⟨rfl, bad⟩, fun e2 => ⟨fun _ => ⟨rfl, bad⟩, fun e3 => ⟨fun e4 => ?_, fun _ => ⟨rfl, bad⟩⟩⟩⟩⟩
    exfalso
    apply hs
    refine ⟨(rg_iff (by omega) (by omega)).mpr ⟨lt_nle.mp e, le_nlt.mp e2⟩, (rg_iff (by omega) (by omega)).mpr ⟨lt_nle.mp e3, ?_⟩⟩
    rw [Int32.lt_iff_toInt_lt, nI_toInt (by omega)]
    rw [Int32.le_iff_toInt_le, show (99999 : Int32).toInt = 99999 from rfl] at e4
    omega
end MUTS
