/-! THE LAW'S BODY: the loop, the beginning -/
section LL
variable {G : GT} {Q : Option Value → MU → Prop} {QX : String → MU → Prop}
def PI : List (Nat × Instr × Nat) := [(0, .new 8, 3), (3, .dup, 1), (4, .invokespecial 108, 3), (7, .astore_n 1, 1), (8, .new 109, 3), (11, .dup, 1), (12, .invokespecial 111, 3), (15, .astore_n 2, 1), (16, .iconst 1, 1), (17, .newarray .long, 2), (19, .astore_n 3, 1), (20, .iconst 0, 1), (21, .istore 4, 2)]
theorem isL_I : PI.all (okI code) = true := by decide +kernel
def PH : List (Nat × Instr × Nat) := [(23, .iload 4, 2), (25, .aload_n 0, 1), (26, .arraylength, 1), (27, .bipush 6, 2), (29, .isub, 1), (30, .if_icmp .gt 2496, 3), (33, .aload_n 0, 1), (34, .iload 4, 2), (36, .iaload, 1), (37, .bipush 63, 2), (39, .iand, 1), (40, .tableswitch 2480 0 42 #[188, 261, 317, 330, 386, 454, 534, 602, 669, 737, 805, 873, 929, 985, 998, 1011, 1067, 1123, 1179, 1259, 1327, 1383, 1463, 1543, 1556, 1569, 1610, 1653, 1761, 1817, 1873, 1929, 2009, 2089, 2157, 2225, 2281, 2349, 2374, 2387, 2400, 2411, 2424], 188), (2520, .iinc 4 6, 3), (2523, .goto (-2500), 3), (2526, .iconst 1, 1), (2527, .ireturn, 1)]
theorem isL_H : PH.all (okI code) = true := by decide +kernel
theorem gt_in {g n : Nat} (hg : g ≤ 3072) (hn : 6 * n ≤ 3072) (h : ¬ nI g - 6 < nI (6 * n)) : 6 * n + 6 ≤ g := by
  have e1 : (nI g).toInt = g := nI_toInt (by omega)
  have e2 : (nI (6 * n)).toInt = ((6 * n : Nat) : Int) := nI_toInt (by omega)
  have e6 : (6 : Int32).toInt = 6 := rfl
  rw [Int32.lt_iff_toInt_lt, fb_subI (by rw [e1, e6]; omega) (by rw [e1, e6]; omega), e1, e2, e6] at h
  omega
def TGL : List Nat := [228, 301, 357, 370, 426, 494, 574, 642, 709, 777, 845, 913, 969, 1025, 1038, 1051, 1107, 1163, 1219, 1299, 1367, 1423, 1503, 1583, 1596, 1609, 1650, 1693, 1801, 1857, 1913, 1969, 2049, 2129, 2197, 2265, 2321, 2389, 2414, 2427, 2440, 2451, 2464]
theorem law_sw {B : Nat} {X : XT} {I : TI} {L : TL} {b d t n c0 s0 : Nat} (h6 : 6 * n + 6 ≤ gL G) (hL : gL G ≤ 3072) (hB : 1000000 ≤ B) (hB2 : B < 2 ^ 30) (hc : c0 + 3 ≤ 601024) (hs : s0 + 18 ≤ 7293034) (ht : txOK t) (hI : INV I L b d X B) (kk : LE9 G n B (c0 + 3) (s0 + 18) Q QX) : ∀ j t9 : Nat, TGL[j]? = some t9 → j < 43 → V G (YL PH) t9 (Lk n) [] (I, L, RT b d t, 457) c0 s0 Q QX := by
  intro j t9 h9 hj
  match j, h9, hj with
  | 0, h9, _ => cases h9; exact vw isL_0 (lc_0 h6 hL hB hB2 hc hs ht hI kk)
  | 1, h9, _ => cases h9; exact vw isL_1 (lc_1 h6 hL hB hB2 hc hs ht hI kk)
  | 2, h9, _ => cases h9; exact vw isL_2 (lc_2 h6 hL hB hB2 hc hs ht hI kk)
  | 3, h9, _ => cases h9; exact vw isL_3 (lc_3 h6 hL hB hB2 hc hs ht hI kk)
  | 4, h9, _ => cases h9; exact vw isL_4 (lc_4 h6 hL hB hB2 hc hs ht hI kk)
  | 5, h9, _ => cases h9; exact vw isL_5 (lc_5 h6 hL hB hB2 hc hs ht hI kk)
  | 6, h9, _ => cases h9; exact vw isL_6 (lc_6 h6 hL hB hB2 hc hs ht hI kk)
  | 7, h9, _ => cases h9; exact vw isL_7 (lc_7 h6 hL hB hB2 hc hs ht hI kk)
  | 8, h9, _ => cases h9; exact vw isL_8 (lc_8 h6 hL hB hB2 hc hs ht hI kk)
  | 9, h9, _ => cases h9; exact vw isL_9 (lc_9 h6 hL hB hB2 hc hs ht hI kk)
  | 10, h9, _ => cases h9; exact vw isL_10 (lc_10 h6 hL hB hB2 hc hs ht hI kk)
  | 11, h9, _ => cases h9; exact vw isL_11 (lc_11 h6 hL hB hB2 hc hs ht hI kk)
  | 12, h9, _ => cases h9; exact vw isL_12 (lc_12 h6 hL hB hB2 hc hs ht hI kk)
  | 13, h9, _ => cases h9; exact vw isL_13 (lc_13 h6 hL hB hB2 hc hs ht hI kk)
  | 14, h9, _ => cases h9; exact vw isL_14 (lc_14 h6 hL hB hB2 hc hs ht hI kk)
  | 15, h9, _ => cases h9; exact vw isL_15 (lc_15 h6 hL hB hB2 hc hs ht hI kk)
  | 16, h9, _ => cases h9; exact vw isL_16 (lc_16 h6 hL hB hB2 hc hs ht hI kk)
  | 17, h9, _ => cases h9; exact vw isL_17 (lc_17 h6 hL hB hB2 hc hs ht hI kk)
  | 18, h9, _ => cases h9; exact vw isL_18 (lc_18 h6 hL hB hB2 hc hs ht hI kk)
  | 19, h9, _ => cases h9; exact vw isL_19 (lc_19 h6 hL hB hB2 hc hs ht hI kk)
  | 20, h9, _ => cases h9; exact vw isL_20 (lc_20 h6 hL hB hB2 hc hs ht hI kk)
  | 21, h9, _ => cases h9; exact vw isL_21 (lc_21 h6 hL hB hB2 hc hs ht hI kk)
  | 22, h9, _ => cases h9; exact vw isL_22 (lc_22 h6 hL hB hB2 hc hs ht hI kk)
  | 23, h9, _ => cases h9; exact vw isL_23 (lc_23 h6 hL hB hB2 hc hs ht hI kk)
  | 24, h9, _ => cases h9; exact vw isL_24 (lc_24 h6 hL hB hB2 hc hs ht hI kk)
  | 25, h9, _ => cases h9; exact vw isL_25 (lc_25 h6 hL hB hB2 hc hs ht hI kk)
  | 26, h9, _ => cases h9; exact vw isL_26 (lc_26 h6 hL hB hB2 hc hs ht hI kk)
  | 27, h9, _ => cases h9; exact vw isL_27 (lc_27 h6 hL hB hB2 hc hs ht hI kk)
  | 28, h9, _ => cases h9; exact vw isL_28 (lc_28 h6 hL hB hB2 hc hs ht hI kk)
  | 29, h9, _ => cases h9; exact vw isL_29 (lc_29 h6 hL hB hB2 hc hs ht hI kk)
  | 30, h9, _ => cases h9; exact vw isL_30 (lc_30 h6 hL hB hB2 hc hs ht hI kk)
  | 31, h9, _ => cases h9; exact vw isL_31 (lc_31 h6 hL hB hB2 hc hs ht hI kk)
  | 32, h9, _ => cases h9; exact vw isL_32 (lc_32 h6 hL hB hB2 hc hs ht hI kk)
  | 33, h9, _ => cases h9; exact vw isL_33 (lc_33 h6 hL hB hB2 hc hs ht hI kk)
  | 34, h9, _ => cases h9; exact vw isL_34 (lc_34 h6 hL hB hB2 hc hs ht hI kk)
  | 35, h9, _ => cases h9; exact vw isL_35 (lc_35 h6 hL hB hB2 hc hs ht hI kk)
  | 36, h9, _ => cases h9; exact vw isL_36 (lc_36 h6 hL hB hB2 hc hs ht hI kk)
  | 37, h9, _ => cases h9; exact vw isL_37 (lc_37 h6 hL hB hB2 hc hs ht hI kk)
  | 38, h9, _ => cases h9; exact vw isL_38 (lc_38 h6 hL hB hB2 hc hs ht hI kk)
  | 39, h9, _ => cases h9; exact vw isL_39 (lc_39 h6 hL hB hB2 hc hs ht hI kk)
  | 40, h9, _ => cases h9; exact vw isL_40 (lc_40 h6 hL hB hB2 hc hs ht hI kk)
  | 41, h9, _ => cases h9; exact vw isL_41 (lc_41 h6 hL hB hB2 hc hs ht hI kk)
  | 42, h9, _ => cases h9; exact vw isL_42 (lc_42 h6 hL hB hB2 hc hs ht hI kk)
  | j + 43, _, hj => exact absurd hj (by omega)
theorem law_loop (hL : gL G ≤ 3072) (hq : ∀ u, Q (some (.int 1)) u) : ∀ k n : Nat, n + k = 513 → 6 * n ≤ gL G → ∀ (I : TI) (L : TL) (b d t : Nat) (X : XT), txOK t → INV I L b d X (1000000 + 10000 * n) → V G (YL PH) 23 (Lk n) [] (I, L, RT b d t, 457) (457 + 3 * n) (9448 + 18 * n) Q QX := by
  intro k
  induction k with
  | zero => intro n hk hn; exact absurd hn (by omega)
  | succ k ih =>
    intro n hk hn I L b d t X ht hI
    refine v_iload (pc' := 25) 0 0 rfl rfl rfl ?_
    refine v_aload_n (pc' := 26) 1 4 rfl rfl rfl rfl ?_
    refine v_slen (pc' := 27) 2 rfl rfl ?_
    refine v_bipush (v := 6) (pc' := 29) 3 rfl rfl (by decide) ?_
    refine v_isub (pc' := 30) 4 rfl rfl ?_
    refine v_icmp_gt (tgt := 2526) (pc' := 33) 5 rfl rfl (by decide) (fun _ => ?_) (fun hc => ?_)
    · refine v_iconst (v := 1) (pc' := 2527) 14 rfl rfl (by decide) ?_
      exact v_bret 15 rfl rfl (Or.inr rfl) (show 457 + 3 * n ≤ 601024 by omega) (show 9448 + 18 * n ≤ 7293034 by omega) (hq _)
    have h6 := gt_in hL (by omega) hc
    refine v_aload_n (pc' := 34) 6 4 rfl rfl rfl rfl ?_
    refine v_iload (pc' := 36) 7 0 rfl rfl rfl ?_
    refine v_sld (pc' := 37) 8 rfl rfl (pk_in (6 * n) _ (by omega) rfl) ?_
    refine v_bipush (v := 63) (pc' := 39) 9 rfl rfl (by decide) ?_
    refine v_iand (pc' := 40) 10 rfl rfl ?_
    have kk : LE9 G n (1000000 + 10000 * n) (457 + 3 * n + 3) (9448 + 18 * n + 18) Q QX := by
      intro J M b2 d2 t2 X2 ht2 hI2
      refine vw isL_H ?_
      refine v_iinc (pc' := 2523) (v := nI (6 * (n + 1))) (ls' := Lk (n + 1)) 12 0 rfl rfl rfl (by rw [show Int32.ofInt 6 = nI 6 from by decide, nI_add, show 6 * n + 6 = 6 * (n + 1) from by omega]) (by decide) rfl ?_
      refine v_goto (tgt := 23) 13 rfl (by decide) ?_
      have e1 : 457 + 3 * n + 3 = 457 + 3 * (n + 1) := by omega
      have e2 : 9448 + 18 * n + 18 = 9448 + 18 * (n + 1) := by omega
      have e3 : 1000000 + 10000 * n + 10000 = 1000000 + 10000 * (n + 1) := by omega
      rw [e1, e2]
      rw [e3] at hI2
      exact ih (n + 1) (by omega) (by omega) J M b2 d2 t2 X2 ht2 hI2
    refine v_ts (clo := 0) (chi := 42) (dt := 2520) 11 43 TGL rfl (by decide) (by decide) (by decide) (by decide +kernel) (by decide) (fun j t9 h9 hj _ => ?_) (fun _ => ?_)
    · exact law_sw h6 hL (by omega) (by omega) (by omega) (by omega) ht hI kk j t9 h9 hj
    · exact V.widen (c1 := 457 + 3 * n + 3) (s1 := 9448 + 18 * n + 18) (by omega) (by omega) (fun q => absurd q (Nat.lt_irrefl _)) (vw (P' := []) rfl (kk _ _ _ _ _ _ ht (hI.mono (by omega))))
/-- the first state -/
def X00 (r : RW) : XT := (((1, 0, 4, 1, 1), (fun _ => 0), (fun _ => 0), (fun _ => 0), (fun _ => 0)), r, (0, fun _ => r), none, (0, fun _ => 0), -1, (0, fun _ => 0))
theorem INV0 {I : TI} {L : TL} (g1 : I 1 2 = 0 ∧ I 1 3 = 0 ∧ I 1 4 = 0) (g2 : I 0 7 = 0 ∧ I 0 8 = 0 ∧ I 0 9 = -1) (g3 : I 353 4 = 1 ∧ I 353 5 = 0 ∧ I 353 6 = 4 ∧ I 353 7 = 1 ∧ I 353 8 = 1 ∧ ∀ n, I 357 n = 0)
    (g4 : I 358 7 = 0 ∧ I 358 8 = 1 ∧ (∀ p, I 367 p = 0) ∧ ∀ p, L 363 p = 0 ∧ L 364 p = 0 ∧ L 365 p = 0 ∧ L 366 p = 0) (g5 : ∀ n, L 389 n = 0 ∧ L 390 n = 0 ∧ L 391 n = 0) (g6 : ∀ n, I 393 n = 0)
    (m1 : I 436 10 = 1 ∧ I 436 11 = 0 ∧ I 436 7 = 4 ∧ I 436 8 = 1 ∧ I 436 9 = 1) (m2 : I 436 30 = -1) (m3 : ∀ i, i < 241 → L 437 i = upR (fun _ => 0) 0 (lN 1) i) (m4 : I 436 5 = 0 ∧ I 436 6 = 0 ∧ I 436 22 = 0 ∧ I 436 36 = 0) : INV I L 352 394 (X00 (L 437)) 1000000 := by
  have r0 : un (L 437 0) = 1 := by rw [m3 0 (by decide)]; rfl
  have rz : ∀ i, 0 < i → i < 241 → L 437 i = 0 := fun i h1 h2 => by
    rw [m3 i h2]
    unfold upR
    rw [if_neg (by omega)]
  have uz : ∀ i, 0 < i → i < 241 → un (L 437 i) = 0 := fun i h1 h2 => by rw [rz i h1 h2]; rfl
  have hc : CV (xC (X00 (L 437))) := ⟨⟨Nat.le_of_ble_eq_true rfl, Nat.le_of_ble_eq_true rfl⟩, Nat.le_of_ble_eq_true rfl, ⟨Nat.le_of_ble_eq_true rfl, Nat.le_of_ble_eq_true rfl⟩, Nat.le_of_ble_eq_true rfl, Nat.le_of_ble_eq_true rfl, fun g hg => absurd hg (Nat.not_lt_zero _), fun n hn => rfl, fun g hg => absurd hg (Nat.not_lt_zero _)⟩
  have hr : RV (xC (X00 (L 437))) 1000000 (L 437) := by
    refine ⟨by rw [r0]; exact ⟨by decide, by decide⟩, fun p hp => ?_, ?_, fun n hn => ?_, fun g hg => absurd hg (Nat.not_lt_zero _), fun d hd => ?_⟩
    · rw [uz (1 + p) (by omega) (by omega)]; exact Nat.zero_le _
    · rw [uz 4 (by decide) (by decide)]; exact Nat.zero_le _
    · have hn1 : n < 1 := hn
      rw [rz (5 + n) (by omega) (by omega)]; exact inH_0
    · rw [uz 4 (by decide) (by decide)] at hd
      exact absurd hd (Nat.not_lt_zero _)
  refine ⟨⟨hc, hr, ⟨Nat.zero_le _, fun j hj => absurd hj (Nat.not_lt_zero _)⟩, (fun s hs => by cases (show (none : Option RW) = some s from hs)), ⟨Nat.zero_le _, fun i hi => absurd hi (Nat.not_lt_zero _)⟩, Nat.zero_le _⟩, ?_, ?_⟩
  · exact ⟨⟨m1.1, m1.2.1, m1.2.2.1, m1.2.2.2.1, m1.2.2.2.2, fun g hg => absurd hg (Nat.not_lt_zero _)⟩, rfl, ⟨m4.2.1, fun j hj => absurd hj (Nat.not_lt_zero _)⟩, ⟨fun _ => m4.1, (fun s hs => by cases (show (none : Option RW) = some s from hs))⟩, ⟨m4.2.2.1, fun i hi => absurd hi (Nat.not_lt_zero _)⟩, m2, ⟨m4.2.2.2, fun i hi => absurd hi (Nat.not_lt_zero _)⟩⟩
  · refine ⟨⟨Or.inl rfl, Or.inr rfl, by decide⟩, ⟨⟨g3.1, g3.2.1, g3.2.2.1, g3.2.2.2.1, g3.2.2.2.2.1, fun g hg => absurd hg (Nat.not_lt_zero _), fun n _ => g3.2.2.2.2.2 n⟩, ⟨?_, fun p hp => ?_, ?_, fun n hn => ?_, fun g hg => absurd hg (Nat.not_lt_zero _), fun d hd => ?_⟩, fun n hn => ?_⟩, ⟨g1.2.1, 0, by decide, g1.2.2, fun j hj => absurd hj (Nat.not_lt_zero _)⟩, ⟨fun _ => g1.1, (fun s hs => by cases (show (none : Option RW) = some s from hs))⟩, ⟨g2.1, fun i hi => absurd hi (Nat.not_lt_zero _)⟩, g2.2.2, ⟨g2.2.1, fun i hi => absurd hi (Nat.not_lt_zero _)⟩⟩
    · show I 358 8 = nI (un (L 437 0))
      rw [r0]; exact g4.2.1
    · show I 367 p = nI (un (L 437 (1 + p)))
      rw [uz (1 + p) (by omega) (by omega)]; exact g4.2.2.1 p
    · show I 358 7 = nI (un (L 437 4))
      rw [uz 4 (by decide) (by decide)]; exact g4.1
    · have hn1 : n < 1 := hn
      have g9 := g4.2.2.2 n
      exact ⟨g9.1.trans (rz (5 + n) (by omega) (by omega)).symm, g9.2.1, g9.2.2.1⟩
    · have hd2 : d < un (L 437 4) := hd
      rw [uz 4 (by decide) (by decide)] at hd2
      exact absurd hd2 (Nat.not_lt_zero _)
    · have hn1 : n < 1 := hn
      have z := rz (5 + n) (by omega) (by omega)
      have g9 := g5 n
      exact ⟨g9.1.trans z.symm, g9.2.1.trans z.symm, g9.2.2.trans z.symm, g6 n⟩
/-- from the law's entry -/
theorem law_V (hL : gL G ≤ 3072) (hq : ∀ u, Q (some (.int 1)) u) : V G (YL PI) 0 [(0, .ref 457)] [] (fun _ _ => 0, fun _ _ => 0, W0, 0) 0 0 Q QX := by
  refine v_new (ci := 7) (pc' := 3) 0 rfl rfl rfl cl_L_8 ic_X8 it_X8 ly_0 (by decide) (show 0 + 1 ≤ 601024 by decide) (show 0 + 10 ≤ 7293034 by decide) ?_
  refine v_dup (pc' := 4) 1 rfl rfl rfl ?_
  refine v_cI (Y2 := Y_X8_init) (As := []) (b := 0) (pc' := 7) (c1 := 436) (s1 := 4874) 2 rfl rfl mf_X8_init rfl rfl ml_L_108 mi_X8_init rfl rfl (by decide) rfl (Nat.le_of_ble_eq_true rfl) ⟨by decide, by decide⟩ rfl rfl (ok_X8_init (fun j => clr_s)) (fun _ _ q => q.elim) ?_
  intro v9 u9 hv9
  obtain ⟨rfl, I1, L1, R1, rfl, g, hR1⟩ := hv9
  refine ⟨fun _ => rfl, ?_⟩
  refine v_astore_n (pc' := 8) 3 rfl rfl rfl (by decide) rfl ?_
  refine v_new (ci := 8) (pc' := 11) 4 rfl rfl rfl cl_L_109 ic_X9 it_X9 ly_436 (by decide) (show 436 + 1 ≤ 601024 by decide) (show 4874 + 43 ≤ 7293034 by decide) ?_
  refine v_dup (pc' := 12) 5 rfl rfl rfl ?_
  refine v_cI (Y2 := Y_X9_init) (As := []) (b := 436) (pc' := 15) (c1 := 456) (s1 := 9447) 6 rfl rfl mf_X9_init rfl rfl ml_L_111 mi_X9_init rfl rfl (show 436 < 437 by decide) rfl (Nat.le_of_ble_eq_true rfl) ⟨by decide, by decide⟩ rfl rfl (ok_X9_init (fun j => clr_s)) (fun _ _ q => q.elim) ?_
  intro v9 u9 hv9
  obtain ⟨rfl, I2, L2, R2, rfl, f1, f2, f3, f4, f5, f6, f7, f8⟩ := hv9
  refine ⟨fun _ => rfl, ?_⟩
  refine v_astore_n (pc' := 16) 7 rfl rfl rfl (by decide) rfl ?_
  refine v_iconst (v := 1) (pc' := 17) 8 rfl rfl (by decide) ?_
  refine v_newa (t := 1) (N := 1) (pc' := 19) 9 rfl rfl (by decide) rfl ar_long rfl (by decide) ly_456 ln_456 (by decide) (show 456 + 1 ≤ 601024 by decide) (show 9447 + 1 ≤ 7293034 by decide) ?_
  refine v_astore_n (pc' := 20) 10 rfl rfl rfl (by decide) rfl ?_
  refine v_iconst (v := 0) (pc' := 21) 11 rfl rfl (by decide) ?_
  refine v_istore (ls' := Lk 0) (pc' := 23) 12 rfl rfl (by decide) rfl ?_
  refine vw isL_H ?_
  obtain ⟨g0, g1, g2, g3, g4, g5, g6⟩ := g
  have eI : ∀ q, q < 436 → clr I2 456 0 q = I1 q := fun q hq9 => by
    rw [clr_n (by omega), f1 q hq9, clr_n (by omega)]
  have eL : ∀ q, q < 436 → clr L2 456 0 q = L1 q := fun q hq9 => by
    rw [clr_n (by omega), f2 q hq9, clr_n (by omega)]
  have eR : clr R2 456 none = RT 352 394 345 := by
    funext q
    show _ = W0 q
    by_cases w1 : q < 436
    · rw [clr_n (by omega), f3 q (Or.inl w1), clr_n (by omega), g0 q w1]
    · by_cases w2 : q < 456
      · rw [clr_n (by omega), f4 q (by omega) w2]
      · by_cases w3 : q = 456
        · subst w3
          funext j
          rw [clr_s, W0_n (by decide) (by decide), RS_no ly_456 (by omega)]
        · rw [clr_n w3, f3 q (Or.inr (by omega)), clr_n (by omega), hR1 q (by omega), clr_n (by omega)]
  have e436 : ∀ j, clr I2 456 0 436 j = I2 436 j := fun j => by rw [clr_n (by decide)]
  have z436 : ∀ j, (j < 7 ∨ (11 < j ∧ j ≠ 30)) → clr I2 456 0 436 j = 0 := fun j hj => by
    rw [e436, f8 j hj, clr_s]
  have hI : INV (clr I2 456 0) (clr L2 456 0) 352 394 (X00 (clr L2 456 0 437)) 1000000 := by
    refine INV0 ?_ ?_ ?_ ?_ ?_ ?_ ?_ ?_ ?_ ?_
    · rw [eI 1 (by decide)]; exact g1
    · rw [eI 0 (by decide)]; exact g2
    · rw [eI 353 (by decide), eI 357 (by decide)]; exact g3
    · rw [eI 358 (by decide), eI 367 (by decide), eL 363 (by decide), eL 364 (by decide), eL 365 (by decide), eL 366 (by decide)]; exact g4
    · rw [eL 389 (by decide), eL 390 (by decide), eL 391 (by decide)]; exact g5
    · rw [eI 393 (by decide)]; exact g6
    · simp only [e436]; exact f5
    · rw [e436]; exact f6
    · intro i hi
      rw [clr_n (by decide)]
      exact f7 i hi
    · exact ⟨z436 5 (Or.inl (by decide)), z436 6 (Or.inl (by decide)), z436 22 (Or.inr (by decide)), z436 36 (Or.inr (by decide))⟩
  have k9 := law_loop (QX := QX) hL hq 513 0 rfl (Nat.zero_le _) _ _ 352 394 345 _ (Or.inl rfl) hI
  rw [← eR] at k9
  exact k9
end LL
