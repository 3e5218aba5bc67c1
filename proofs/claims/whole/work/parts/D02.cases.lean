/-! the law: cases 0 to 10 -/
section LC0
variable {G : GT}
def PL0 : List (Nat × Instr × Nat) := [(228, .aload_n 1, 1), (229, .aload_n 0, 1), (230, .iload 4, 2), (232, .iconst 1, 1), (233, .iadd, 1), (234, .iaload, 1), (235, .aload_n 0, 1), (236, .iload 4, 2), (238, .iconst 2, 1), (239, .iadd, 1), (240, .iaload, 1), (241, .aload_n 0, 1), (242, .iload 4, 2), (244, .iconst 3, 1), (245, .iadd, 1), (246, .iaload, 1), (247, .aload_n 0, 1), (248, .iload 4, 2), (250, .iconst 4, 1), (251, .iadd, 1), (252, .iaload, 1), (253, .aload_n 0, 1), (254, .iload 4, 2), (256, .iconst 5, 1), (257, .iadd, 1), (258, .iaload, 1), (259, .invokevirtual 112, 3), (262, .aload_n 2, 1), (263, .aload_n 0, 1), (264, .iload 4, 2), (266, .iconst 1, 1), (267, .iadd, 1), (268, .iaload, 1), (269, .aload_n 0, 1), (270, .iload 4, 2), (272, .iconst 2, 1), (273, .iadd, 1), (274, .iaload, 1), (275, .aload_n 0, 1), (276, .iload 4, 2), (278, .iconst 3, 1), (279, .iadd, 1), (280, .iaload, 1), (281, .aload_n 0, 1), (282, .iload 4, 2), (284, .iconst 4, 1), (285, .iadd, 1), (286, .iaload, 1), (287, .aload_n 0, 1), (288, .iload 4, 2), (290, .iconst 5, 1), (291, .iadd, 1), (292, .iaload, 1), (293, .invokevirtual 116, 3), (296, .if_icmp .eq 2224, 3), (299, .iconst 0, 1), (300, .ireturn, 1)]
theorem isL_0 : PL0.all (okI code) = true := by decide +kernel
set_option maxHeartbeats 4000000 in
set_option maxRecDepth 100000 in
theorem lc_0 {B : Nat} {X : XT} {I : TI} {L : TL} {b d t n c0 s0 : Nat} {Q : Option Value → MU → Prop} {QX : String → MU → Prop} (h6 : 6 * n + 6 ≤ gL G) (hL : gL G ≤ 3072) (hB : 1000000 ≤ B) (hB2 : B < 2 ^ 30) (hc : c0 + 3 ≤ 601024) (hs : s0 + 18 ≤ 7293034) (ht : txOK t) (hI : INV I L b d X B) (kk : LE9 G n B (c0 + 3) (s0 + 18) Q QX) : V G (YL PL0) 228 (Lk n) [] (I, L, RT b d t, 457) c0 s0 Q QX := by
  refine v_aload_n (pc' := 229) 0 3 rfl rfl rfl rfl ?_
  refine v_arg (pc' := 235) (j := 1) (o := 0) 1 rfl rfl rfl rfl rfl rfl rfl rfl (by decide) (by decide) h6 hL ?_
  refine v_arg (pc' := 241) (j := 2) (o := 0) 6 rfl rfl rfl rfl rfl rfl rfl rfl (by decide) (by decide) h6 hL ?_
  refine v_arg (pc' := 247) (j := 3) (o := 0) 11 rfl rfl rfl rfl rfl rfl rfl rfl (by decide) (by decide) h6 hL ?_
  refine v_arg (pc' := 253) (j := 4) (o := 0) 16 rfl rfl rfl rfl rfl rfl rfl rfl (by decide) (by decide) h6 hL ?_
  refine v_arg (pc' := 259) (j := 5) (o := 0) 21 rfl rfl rfl rfl rfl rfl rfl rfl (by decide) (by decide) h6 hL ?_
  refine v_cV (Y2 := Y_X8_feed) (As := [.int (AR G n 1), .int (AR G n 2), .int (AR G n 3), .int (AR G n 4), .int (AR G n 5)]) (b := 0) (pc' := 262) (c1 := c0) (s1 := s0) 26 rfl rfl mf_X8_feed rfl rfl ml_L_112 mi_X8_feed se_X8_feed (ci := 7) rfl ly_0 (lay_lt ly_0 (by decide)) rfl (Nat.le_of_ble_eq_true rfl) ⟨show c0 + 0 ≤ 601024 by omega, show s0 + 0 ≤ 7293034 by omega⟩ rfl rfl (ok_X8_feed _ _ _ _ _ _ _ (op_feed (P := fun r r2 J M => r2 = r ∧ ∃ X2, INV J M b d X2 B) hI (fun _ _ _ X2 h => ⟨rfl, X2, h⟩))) (fun _ _ q => q.elim) ?_
  intro v9 u9 hv9
  obtain ⟨k, I1, rfl, rfl, h⟩ := hv9
  refine ⟨fun q => absurd q (Nat.lt_irrefl _), ?_⟩
  show V G (YL PL0) 262 _ (.int k :: _) _ _ _ _ _
  refine v_aload_n (pc' := 263) 27 2 rfl rfl rfl rfl ?_
  refine v_arg (pc' := 269) (j := 1) (o := 0) 28 rfl rfl rfl rfl rfl rfl rfl rfl (by decide) (by decide) h6 hL ?_
  refine v_arg (pc' := 275) (j := 2) (o := 0) 33 rfl rfl rfl rfl rfl rfl rfl rfl (by decide) (by decide) h6 hL ?_
  refine v_arg (pc' := 281) (j := 3) (o := 0) 38 rfl rfl rfl rfl rfl rfl rfl rfl (by decide) (by decide) h6 hL ?_
  refine v_arg (pc' := 287) (j := 4) (o := 0) 43 rfl rfl rfl rfl rfl rfl rfl rfl (by decide) (by decide) h6 hL ?_
  refine v_arg (pc' := 293) (j := 5) (o := 0) 48 rfl rfl rfl rfl rfl rfl rfl rfl (by decide) (by decide) h6 hL ?_
  refine v_cV (Y2 := Y_X9_feed) (As := [.int (AR G n 1), .int (AR G n 2), .int (AR G n 3), .int (AR G n 4), .int (AR G n 5)]) (b := 436) (pc' := 296) (c1 := c0) (s1 := s0) 53 rfl rfl mf_X9_feed rfl rfl ml_L_116 mi_X9_feed se_X9_feed (ci := 8) rfl ly_436 (lay_lt ly_436 (by decide)) rfl (Nat.le_of_ble_eq_true rfl) ⟨show c0 + 0 ≤ 601024 by omega, show s0 + 0 ≤ 7293034 by omega⟩ rfl rfl (ok_X9_feed _ _ _ _ _ _ _ h) (fun _ _ q => q.elim) ?_
  intro v9 u9 hv9
  obtain ⟨r, I2, rfl, rfl, h⟩ := hv9
  refine ⟨fun q => absurd q (Nat.lt_irrefl _), ?_⟩
  show V G (YL PL0) 296 _ (.int r :: _) _ _ _ _ _
  obtain ⟨rfl, X2, h⟩ := h
  refine v_icmp_eq (tgt := 2520) (pc' := 299) 54 rfl rfl (by decide) (fun _ => ?_) (fun q => absurd rfl q)
  exact V.widen (c1 := c0 + 3) (s1 := s0 + 18) (by omega) (by omega) (fun q => absurd q (Nat.lt_irrefl _)) (vw (P' := []) rfl (kk _ _ _ _ _ _ ht (h.mono (by omega))))
def PL1 : List (Nat × Instr × Nat) := [(301, .aload_n 1, 1), (302, .aload_n 0, 1), (303, .iload 4, 2), (305, .iconst 1, 1), (306, .iadd, 1), (307, .iaload, 1), (308, .aload_n 3, 1), (309, .invokestatic 117, 3), (312, .istore 5, 2), (314, .aload_n 2, 1), (315, .aload_n 0, 1), (316, .iload 4, 2), (318, .iconst 1, 1), (319, .iadd, 1), (320, .iaload, 1), (321, .invokevirtual 122, 3), (324, .istore 6, 2), (326, .aload_n 2, 1), (327, .invokevirtual 123, 3), (330, .iload 5, 2), (332, .if_icmp .eq 5, 3), (335, .iconst 0, 1), (336, .ireturn, 1), (337, .iload 5, 2), (339, .ifCond .ne 15, 3), (342, .aload_n 3, 1), (343, .iconst 0, 1), (344, .laload, 1), (345, .iload 6, 2), (347, .i2l, 1), (348, .lcmp, 1), (349, .ifCond .eq 5, 3), (352, .iconst 0, 1), (353, .ireturn, 1), (354, .goto 2166, 3)]
theorem isL_1 : PL1.all (okI code) = true := by decide +kernel
set_option maxHeartbeats 4000000 in
set_option maxRecDepth 100000 in
theorem lc_1 {B : Nat} {X : XT} {I : TI} {L : TL} {b d t n c0 s0 : Nat} {Q : Option Value → MU → Prop} {QX : String → MU → Prop} (h6 : 6 * n + 6 ≤ gL G) (hL : gL G ≤ 3072) (hB : 1000000 ≤ B) (hB2 : B < 2 ^ 30) (hc : c0 + 3 ≤ 601024) (hs : s0 + 18 ≤ 7293034) (ht : txOK t) (hI : INV I L b d X B) (kk : LE9 G n B (c0 + 3) (s0 + 18) Q QX) : V G (YL PL1) 301 (Lk n) [] (I, L, RT b d t, 457) c0 s0 Q QX := by
  refine v_aload_n (pc' := 302) 0 3 rfl rfl rfl rfl ?_
  refine v_arg (pc' := 308) (j := 1) (o := 0) 1 rfl rfl rfl rfl rfl rfl rfl rfl (by decide) (by decide) h6 hL ?_
  refine v_aload_n (pc' := 309) 6 1 rfl rfl rfl rfl ?_
  refine v_cSX (Y2 := Y_L_load) (As := [.ref 0, .int (AR G n 1), .ref 456]) (pc' := 312) (c1 := c0 + 1) (s1 := s0 + 6) 7 rfl rfl mf_L_load rfl rfl ml_L_117 ms_L_load rfl (Nat.le_of_ble_eq_true rfl) ⟨show c0 + 1 ≤ 601024 by omega, show s0 + 6 ≤ 7293034 by omega⟩ rfl rfl (ok_L_load _ _ _ _ _ _ hI.2.2.1.1 hI.2.2.1.2.1 ht (op_load (P := fun k r J M b2 d2 t2 => ∃ X2, txOK t2 ∧ OKL k r.toInt64 J M b2 d2 X2 B) hI (by omega) ht (fun _ _ _ _ _ _ _ X2 q h => ⟨X2, q, h⟩))) (fun _ _ q => q.elim) ?_
  intro v9 u9 hv9
  obtain ⟨k, I1, L1, b2, d2, t2, rfl, rfl, h⟩ := hv9
  refine ⟨fun q => absurd q (Nat.lt_irrefl _), ?_⟩
  show V G (YL PL1) 312 _ (.int k :: _) _ _ _ _ _
  refine v_istore (pc' := 314) 8 rfl rfl (by decide) rfl ?_
  refine v_aload_n (pc' := 315) 9 3 rfl rfl rfl rfl ?_
  refine v_arg (pc' := 321) (j := 1) (o := 1) 10 rfl rfl rfl rfl rfl rfl rfl rfl (by decide) (by decide) h6 hL ?_
  refine v_cV (Y2 := Y_X9_load) (As := [.int (AR G n 1)]) (b := 436) (pc' := 324) (c1 := c0 + 1) (s1 := s0 + 6) 15 rfl rfl mf_X9_load rfl rfl ml_L_122 mi_X9_load se_X9_load (ci := 8) rfl ly_436 (lay_lt ly_436 (by decide)) rfl (Nat.le_of_ble_eq_true rfl) ⟨show c0 + 1 + 0 ≤ 601024 by omega, show s0 + 6 + 0 ≤ 7293034 by omega⟩ rfl rfl (ok_X9_load _ _ _ h) (fun _ _ q => q.elim) ?_
  intro v9 u9 hv9
  obtain ⟨r, I2, L2, rfl, rfl, h⟩ := hv9
  refine ⟨fun q => absurd q (Nat.lt_irrefl _), ?_⟩
  show V G (YL PL1) 324 _ (.int r :: _) _ _ _ _ _
  refine v_istore (pc' := 326) 16 rfl rfl (by decide) rfl ?_
  refine v_aload_n (pc' := 327) 17 4 rfl rfl rfl rfl ?_
  refine v_cV (Y2 := Y_X9_thrown) (As := []) (b := 436) (pc' := 330) (c1 := c0 + 1) (s1 := s0 + 6) 18 rfl rfl mf_X9_thrown rfl rfl ml_L_123 mi_X9_thrown se_X9_thrown (ci := 8) rfl ly_436 (lay_lt ly_436 (by decide)) rfl (Nat.le_of_ble_eq_true rfl) ⟨show c0 + 1 + 0 ≤ 601024 by omega, show s0 + 6 + 0 ≤ 7293034 by omega⟩ rfl rfl (ok_X9_thrown _ _ (show W_X9_thrown _ _ (fun r => r = _) from rfl)) (fun _ _ q => q.elim) ?_
  intro v9 u9 hv9
  obtain ⟨w, rfl, rfl, hw⟩ := hv9
  refine ⟨fun q => absurd q (Nat.lt_irrefl _), ?_⟩
  show V G (YL PL1) 330 _ (.int w :: _) _ _ _ _ _
  refine v_iload (pc' := 332) 19 1 rfl rfl rfl ?_
  obtain ⟨X2, ht2, h⟩ := h
  refine v_icmp_eq (tgt := 337) (pc' := 335) 20 rfl rfl (by decide) (fun _ => ?_) (fun q => absurd (hw.trans h.1) q)
  refine v_iload (pc' := 339) 23 1 rfl rfl rfl ?_
  refine v_if_ne (tgt := 354) (pc' := 342) 24 rfl rfl (by decide) (fun _ => v_goto (tgt := 2520) 34 rfl (by decide) (V.sub [2, 3, 4, 5, 6] rfl (V.widen (c1 := c0 + 3) (s1 := s0 + 18) (by omega) (by omega) (fun q => absurd q (Nat.lt_irrefl _)) (vw (P' := []) rfl (kk _ _ _ _ _ _ ht2 (h.2.2.mono (by omega))))))) (fun hk => ?_)
  refine v_aload_n (pc' := 343) 25 3 rfl rfl rfl rfl ?_
  refine v_iconst (v := 0) (pc' := 344) 26 rfl rfl (by decide) ?_
  refine v_lald (i := 0) (j := 0) (pc' := 345) 27 rfl rfl ly_456 ln_456 (lay_lt ly_456 (by decide)) (vp_lit (by decide)) (by decide) ?_
  refine v_iload (pc' := 347) 28 0 rfl rfl rfl ?_
  refine v_i2l (pc' := 348) 29 rfl rfl ?_
  refine v_lcmp (pc' := 349) 30 rfl rfl ?_
  exact v_if_eq (tgt := 354) (pc' := 352) 31 rfl rfl (by decide) (fun _ => v_goto (tgt := 2520) 34 rfl (by decide) (V.sub [2, 3, 4, 5, 6] rfl (V.widen (c1 := c0 + 3) (s1 := s0 + 18) (by omega) (by omega) (fun q => absurd q (Nat.lt_irrefl _)) (vw (P' := []) rfl (kk _ _ _ _ _ _ ht2 (h.2.2.mono (by omega))))))) (fun q => absurd (lgc_eq.mpr (h.2.1 hk)) q)
def PL2 : List (Nat × Instr × Nat) := [(357, .aload_n 1, 1), (358, .invokevirtual 127, 3), (361, .aload_n 2, 1), (362, .invokevirtual 130, 3), (365, .if_icmp .eq 2155, 3), (368, .iconst 0, 1), (369, .ireturn, 1)]
theorem isL_2 : PL2.all (okI code) = true := by decide +kernel
set_option maxHeartbeats 4000000 in
set_option maxRecDepth 100000 in
theorem lc_2 {B : Nat} {X : XT} {I : TI} {L : TL} {b d t n c0 s0 : Nat} {Q : Option Value → MU → Prop} {QX : String → MU → Prop} (h6 : 6 * n + 6 ≤ gL G) (hL : gL G ≤ 3072) (hB : 1000000 ≤ B) (hB2 : B < 2 ^ 30) (hc : c0 + 3 ≤ 601024) (hs : s0 + 18 ≤ 7293034) (ht : txOK t) (hI : INV I L b d X B) (kk : LE9 G n B (c0 + 3) (s0 + 18) Q QX) : V G (YL PL2) 357 (Lk n) [] (I, L, RT b d t, 457) c0 s0 Q QX := by
  refine v_aload_n (pc' := 358) 0 3 rfl rfl rfl rfl ?_
  refine v_cV (Y2 := Y_X8_errorPosition) (As := []) (b := 0) (pc' := 361) (c1 := c0) (s1 := s0) 1 rfl rfl mf_X8_errorPosition rfl rfl ml_L_127 mi_X8_errorPosition se_X8_errorPosition (ci := 7) rfl ly_0 (lay_lt ly_0 (by decide)) rfl (Nat.le_of_ble_eq_true rfl) ⟨show c0 + 0 ≤ 601024 by omega, show s0 + 0 ≤ 7293034 by omega⟩ rfl rfl (ok_X8_errorPosition _ _ (op_errorPosition (P := fun r r2 J M => r2 = r ∧ ∃ X2, INV J M b d X2 B) hI (fun _ _ _ h => ⟨rfl, _, h⟩))) (fun _ _ q => q.elim) ?_
  intro v9 u9 hv9
  obtain ⟨k, rfl, rfl, h⟩ := hv9
  refine ⟨fun q => absurd q (Nat.lt_irrefl _), ?_⟩
  show V G (YL PL2) 361 _ (.int k :: _) _ _ _ _ _
  refine v_aload_n (pc' := 362) 2 2 rfl rfl rfl rfl ?_
  refine v_cV (Y2 := Y_X9_errorPosition) (As := []) (b := 436) (pc' := 365) (c1 := c0) (s1 := s0) 3 rfl rfl mf_X9_errorPosition rfl rfl ml_L_130 mi_X9_errorPosition se_X9_errorPosition (ci := 8) rfl ly_436 (lay_lt ly_436 (by decide)) rfl (Nat.le_of_ble_eq_true rfl) ⟨show c0 + 0 ≤ 601024 by omega, show s0 + 0 ≤ 7293034 by omega⟩ rfl rfl (ok_X9_errorPosition _ _ h) (fun _ _ q => q.elim) ?_
  intro v9 u9 hv9
  obtain ⟨r, I2, rfl, rfl, h⟩ := hv9
  refine ⟨fun q => absurd q (Nat.lt_irrefl _), ?_⟩
  show V G (YL PL2) 365 _ (.int r :: _) _ _ _ _ _
  obtain ⟨rfl, X2, h⟩ := h
  refine v_icmp_eq (tgt := 2520) (pc' := 368) 4 rfl rfl (by decide) (fun _ => ?_) (fun q => absurd rfl q)
  exact V.widen (c1 := c0 + 3) (s1 := s0 + 18) (by omega) (by omega) (fun q => absurd q (Nat.lt_irrefl _)) (vw (P' := []) rfl (kk _ _ _ _ _ _ ht (h.mono (by omega))))
def PL3 : List (Nat × Instr × Nat) := [(370, .aload_n 1, 1), (371, .aload_n 0, 1), (372, .iload 4, 2), (374, .iconst 1, 1), (375, .iadd, 1), (376, .iaload, 1), (377, .aload_n 3, 1), (378, .invokestatic 131, 3), (381, .istore 5, 2), (383, .aload_n 2, 1), (384, .aload_n 0, 1), (385, .iload 4, 2), (387, .iconst 1, 1), (388, .iadd, 1), (389, .iaload, 1), (390, .invokevirtual 133, 3), (393, .istore 6, 2), (395, .aload_n 2, 1), (396, .invokevirtual 123, 3), (399, .iload 5, 2), (401, .if_icmp .eq 5, 3), (404, .iconst 0, 1), (405, .ireturn, 1), (406, .iload 5, 2), (408, .ifCond .ne 15, 3), (411, .aload_n 3, 1), (412, .iconst 0, 1), (413, .laload, 1), (414, .iload 6, 2), (416, .i2l, 1), (417, .lcmp, 1), (418, .ifCond .eq 5, 3), (421, .iconst 0, 1), (422, .ireturn, 1), (423, .goto 2097, 3)]
theorem isL_3 : PL3.all (okI code) = true := by decide +kernel
set_option maxHeartbeats 4000000 in
set_option maxRecDepth 100000 in
theorem lc_3 {B : Nat} {X : XT} {I : TI} {L : TL} {b d t n c0 s0 : Nat} {Q : Option Value → MU → Prop} {QX : String → MU → Prop} (h6 : 6 * n + 6 ≤ gL G) (hL : gL G ≤ 3072) (hB : 1000000 ≤ B) (hB2 : B < 2 ^ 30) (hc : c0 + 3 ≤ 601024) (hs : s0 + 18 ≤ 7293034) (ht : txOK t) (hI : INV I L b d X B) (kk : LE9 G n B (c0 + 3) (s0 + 18) Q QX) : V G (YL PL3) 370 (Lk n) [] (I, L, RT b d t, 457) c0 s0 Q QX := by
  refine v_aload_n (pc' := 371) 0 3 rfl rfl rfl rfl ?_
  refine v_arg (pc' := 377) (j := 1) (o := 0) 1 rfl rfl rfl rfl rfl rfl rfl rfl (by decide) (by decide) h6 hL ?_
  refine v_aload_n (pc' := 378) 6 1 rfl rfl rfl rfl ?_
  refine v_cSX (Y2 := Y_L_size) (As := [.ref 0, .int (AR G n 1), .ref 456]) (pc' := 381) (c1 := c0 + 1) (s1 := s0 + 6) 7 rfl rfl mf_L_size rfl rfl ml_L_131 ms_L_size rfl (Nat.le_of_ble_eq_true rfl) ⟨show c0 + 1 ≤ 601024 by omega, show s0 + 6 ≤ 7293034 by omega⟩ rfl rfl (ok_L_size _ _ _ _ _ hI.2.2.1.1 hI.2.2.1.2.1 (op_size (P := fun k r J M => ∃ X2, OKL k r.toInt64 J M b d X2 B) hI (fun _ _ _ _ h => ⟨_, h⟩))) (fun _ _ q => q.elim) ?_
  intro v9 u9 hv9
  obtain ⟨k, L1, rfl, rfl, h⟩ := hv9
  refine ⟨fun q => absurd q (Nat.lt_irrefl _), ?_⟩
  show V G (YL PL3) 381 _ (.int k :: _) _ _ _ _ _
  refine v_istore (pc' := 383) 8 rfl rfl (by decide) rfl ?_
  refine v_aload_n (pc' := 384) 9 3 rfl rfl rfl rfl ?_
  refine v_arg (pc' := 390) (j := 1) (o := 1) 10 rfl rfl rfl rfl rfl rfl rfl rfl (by decide) (by decide) h6 hL ?_
  refine v_cV (Y2 := Y_X9_size) (As := [.int (AR G n 1)]) (b := 436) (pc' := 393) (c1 := c0 + 1) (s1 := s0 + 6) 15 rfl rfl mf_X9_size rfl rfl ml_L_133 mi_X9_size se_X9_size (ci := 8) rfl ly_436 (lay_lt ly_436 (by decide)) rfl (Nat.le_of_ble_eq_true rfl) ⟨show c0 + 1 + 0 ≤ 601024 by omega, show s0 + 6 + 0 ≤ 7293034 by omega⟩ rfl rfl (ok_X9_size _ _ _ h) (fun _ _ q => q.elim) ?_
  intro v9 u9 hv9
  obtain ⟨r, I2, rfl, rfl, h⟩ := hv9
  refine ⟨fun q => absurd q (Nat.lt_irrefl _), ?_⟩
  show V G (YL PL3) 393 _ (.int r :: _) _ _ _ _ _
  refine v_istore (pc' := 395) 16 rfl rfl (by decide) rfl ?_
  refine v_aload_n (pc' := 396) 17 4 rfl rfl rfl rfl ?_
  refine v_cV (Y2 := Y_X9_thrown) (As := []) (b := 436) (pc' := 399) (c1 := c0 + 1) (s1 := s0 + 6) 18 rfl rfl mf_X9_thrown rfl rfl ml_L_123 mi_X9_thrown se_X9_thrown (ci := 8) rfl ly_436 (lay_lt ly_436 (by decide)) rfl (Nat.le_of_ble_eq_true rfl) ⟨show c0 + 1 + 0 ≤ 601024 by omega, show s0 + 6 + 0 ≤ 7293034 by omega⟩ rfl rfl (ok_X9_thrown _ _ (show W_X9_thrown _ _ (fun r => r = _) from rfl)) (fun _ _ q => q.elim) ?_
  intro v9 u9 hv9
  obtain ⟨w, rfl, rfl, hw⟩ := hv9
  refine ⟨fun q => absurd q (Nat.lt_irrefl _), ?_⟩
  show V G (YL PL3) 399 _ (.int w :: _) _ _ _ _ _
  refine v_iload (pc' := 401) 19 1 rfl rfl rfl ?_
  obtain ⟨X2, h⟩ := h
  refine v_icmp_eq (tgt := 406) (pc' := 404) 20 rfl rfl (by decide) (fun _ => ?_) (fun q => absurd (hw.trans h.1) q)
  refine v_iload (pc' := 408) 23 1 rfl rfl rfl ?_
  refine v_if_ne (tgt := 423) (pc' := 411) 24 rfl rfl (by decide) (fun _ => v_goto (tgt := 2520) 34 rfl (by decide) (V.sub [2, 3, 4, 5, 6] rfl (V.widen (c1 := c0 + 3) (s1 := s0 + 18) (by omega) (by omega) (fun q => absurd q (Nat.lt_irrefl _)) (vw (P' := []) rfl (kk _ _ _ _ _ _ ht (h.2.2.mono (by omega))))))) (fun hk => ?_)
  refine v_aload_n (pc' := 412) 25 3 rfl rfl rfl rfl ?_
  refine v_iconst (v := 0) (pc' := 413) 26 rfl rfl (by decide) ?_
  refine v_lald (i := 0) (j := 0) (pc' := 414) 27 rfl rfl ly_456 ln_456 (lay_lt ly_456 (by decide)) (vp_lit (by decide)) (by decide) ?_
  refine v_iload (pc' := 416) 28 0 rfl rfl rfl ?_
  refine v_i2l (pc' := 417) 29 rfl rfl ?_
  refine v_lcmp (pc' := 418) 30 rfl rfl ?_
  exact v_if_eq (tgt := 423) (pc' := 421) 31 rfl rfl (by decide) (fun _ => v_goto (tgt := 2520) 34 rfl (by decide) (V.sub [2, 3, 4, 5, 6] rfl (V.widen (c1 := c0 + 3) (s1 := s0 + 18) (by omega) (by omega) (fun q => absurd q (Nat.lt_irrefl _)) (vw (P' := []) rfl (kk _ _ _ _ _ _ ht (h.2.2.mono (by omega))))))) (fun q => absurd (lgc_eq.mpr (h.2.1 hk)) q)
def PL4 : List (Nat × Instr × Nat) := [(426, .aload_n 1, 1), (427, .aload_n 0, 1), (428, .iload 4, 2), (430, .iconst 1, 1), (431, .iadd, 1), (432, .iaload, 1), (433, .aload_n 0, 1), (434, .iload 4, 2), (436, .iconst 2, 1), (437, .iadd, 1), (438, .iaload, 1), (439, .aload_n 3, 1), (440, .invokestatic 134, 3), (443, .istore 5, 2), (445, .aload_n 2, 1), (446, .aload_n 0, 1), (447, .iload 4, 2), (449, .iconst 1, 1), (450, .iadd, 1), (451, .iaload, 1), (452, .aload_n 0, 1), (453, .iload 4, 2), (455, .iconst 2, 1), (456, .iadd, 1), (457, .iaload, 1), (458, .invokevirtual 137, 3), (461, .istore 6, 2), (463, .aload_n 2, 1), (464, .invokevirtual 123, 3), (467, .iload 5, 2), (469, .if_icmp .eq 5, 3), (472, .iconst 0, 1), (473, .ireturn, 1), (474, .iload 5, 2), (476, .ifCond .ne 15, 3), (479, .aload_n 3, 1), (480, .iconst 0, 1), (481, .laload, 1), (482, .iload 6, 2), (484, .i2l, 1), (485, .lcmp, 1), (486, .ifCond .eq 5, 3), (489, .iconst 0, 1), (490, .ireturn, 1), (491, .goto 2029, 3)]
theorem isL_4 : PL4.all (okI code) = true := by decide +kernel
set_option maxHeartbeats 4000000 in
set_option maxRecDepth 100000 in
theorem lc_4 {B : Nat} {X : XT} {I : TI} {L : TL} {b d t n c0 s0 : Nat} {Q : Option Value → MU → Prop} {QX : String → MU → Prop} (h6 : 6 * n + 6 ≤ gL G) (hL : gL G ≤ 3072) (hB : 1000000 ≤ B) (hB2 : B < 2 ^ 30) (hc : c0 + 3 ≤ 601024) (hs : s0 + 18 ≤ 7293034) (ht : txOK t) (hI : INV I L b d X B) (kk : LE9 G n B (c0 + 3) (s0 + 18) Q QX) : V G (YL PL4) 426 (Lk n) [] (I, L, RT b d t, 457) c0 s0 Q QX := by
  refine v_aload_n (pc' := 427) 0 3 rfl rfl rfl rfl ?_
  refine v_arg (pc' := 433) (j := 1) (o := 0) 1 rfl rfl rfl rfl rfl rfl rfl rfl (by decide) (by decide) h6 hL ?_
  refine v_arg (pc' := 439) (j := 2) (o := 0) 6 rfl rfl rfl rfl rfl rfl rfl rfl (by decide) (by decide) h6 hL ?_
  refine v_aload_n (pc' := 440) 11 1 rfl rfl rfl rfl ?_
  refine v_cSX (Y2 := Y_L_gate) (As := [.ref 0, .int (AR G n 1), .int (AR G n 2), .ref 456]) (pc' := 443) (c1 := c0 + 2) (s1 := s0 + 12) 12 rfl rfl mf_L_gate rfl rfl ml_L_134 ms_L_gate rfl (Nat.le_of_ble_eq_true rfl) ⟨show c0 + 2 ≤ 601024 by omega, show s0 + 12 ≤ 7293034 by omega⟩ rfl rfl (ok_L_gate _ _ _ _ _ _ hI.2.2.1.1 hI.2.2.1.2.1 (op_gate (P := fun k r J M => ∃ X2, OKL k r.toInt64 J M b d X2 B) hI (fun _ _ _ _ h => ⟨_, h⟩))) (fun _ _ q => q.elim) ?_
  intro v9 u9 hv9
  obtain ⟨k, L1, rfl, rfl, h⟩ := hv9
  refine ⟨fun q => absurd q (Nat.lt_irrefl _), ?_⟩
  show V G (YL PL4) 443 _ (.int k :: _) _ _ _ _ _
  refine v_istore (pc' := 445) 13 rfl rfl (by decide) rfl ?_
  refine v_aload_n (pc' := 446) 14 3 rfl rfl rfl rfl ?_
  refine v_arg (pc' := 452) (j := 1) (o := 1) 15 rfl rfl rfl rfl rfl rfl rfl rfl (by decide) (by decide) h6 hL ?_
  refine v_arg (pc' := 458) (j := 2) (o := 1) 20 rfl rfl rfl rfl rfl rfl rfl rfl (by decide) (by decide) h6 hL ?_
  refine v_cV (Y2 := Y_X9_gate) (As := [.int (AR G n 1), .int (AR G n 2)]) (b := 436) (pc' := 461) (c1 := c0 + 2) (s1 := s0 + 12) 25 rfl rfl mf_X9_gate rfl rfl ml_L_137 mi_X9_gate se_X9_gate (ci := 8) rfl ly_436 (lay_lt ly_436 (by decide)) rfl (Nat.le_of_ble_eq_true rfl) ⟨show c0 + 2 + 0 ≤ 601024 by omega, show s0 + 12 + 0 ≤ 7293034 by omega⟩ rfl rfl (ok_X9_gate _ _ _ _ h) (fun _ _ q => q.elim) ?_
  intro v9 u9 hv9
  obtain ⟨r, I2, L2, rfl, rfl, h⟩ := hv9
  refine ⟨fun q => absurd q (Nat.lt_irrefl _), ?_⟩
  show V G (YL PL4) 461 _ (.int r :: _) _ _ _ _ _
  refine v_istore (pc' := 463) 26 rfl rfl (by decide) rfl ?_
  refine v_aload_n (pc' := 464) 27 4 rfl rfl rfl rfl ?_
  refine v_cV (Y2 := Y_X9_thrown) (As := []) (b := 436) (pc' := 467) (c1 := c0 + 2) (s1 := s0 + 12) 28 rfl rfl mf_X9_thrown rfl rfl ml_L_123 mi_X9_thrown se_X9_thrown (ci := 8) rfl ly_436 (lay_lt ly_436 (by decide)) rfl (Nat.le_of_ble_eq_true rfl) ⟨show c0 + 2 + 0 ≤ 601024 by omega, show s0 + 12 + 0 ≤ 7293034 by omega⟩ rfl rfl (ok_X9_thrown _ _ (show W_X9_thrown _ _ (fun r => r = _) from rfl)) (fun _ _ q => q.elim) ?_
  intro v9 u9 hv9
  obtain ⟨w, rfl, rfl, hw⟩ := hv9
  refine ⟨fun q => absurd q (Nat.lt_irrefl _), ?_⟩
  show V G (YL PL4) 467 _ (.int w :: _) _ _ _ _ _
  refine v_iload (pc' := 469) 29 1 rfl rfl rfl ?_
  obtain ⟨X2, h⟩ := h
  refine v_icmp_eq (tgt := 474) (pc' := 472) 30 rfl rfl (by decide) (fun _ => ?_) (fun q => absurd (hw.trans h.1) q)
  refine v_iload (pc' := 476) 33 1 rfl rfl rfl ?_
  refine v_if_ne (tgt := 491) (pc' := 479) 34 rfl rfl (by decide) (fun _ => v_goto (tgt := 2520) 44 rfl (by decide) (V.sub [2, 3, 4, 5, 6] rfl (V.widen (c1 := c0 + 3) (s1 := s0 + 18) (by omega) (by omega) (fun q => absurd q (Nat.lt_irrefl _)) (vw (P' := []) rfl (kk _ _ _ _ _ _ ht (h.2.2.mono (by omega))))))) (fun hk => ?_)
  refine v_aload_n (pc' := 480) 35 3 rfl rfl rfl rfl ?_
  refine v_iconst (v := 0) (pc' := 481) 36 rfl rfl (by decide) ?_
  refine v_lald (i := 0) (j := 0) (pc' := 482) 37 rfl rfl ly_456 ln_456 (lay_lt ly_456 (by decide)) (vp_lit (by decide)) (by decide) ?_
  refine v_iload (pc' := 484) 38 0 rfl rfl rfl ?_
  refine v_i2l (pc' := 485) 39 rfl rfl ?_
  refine v_lcmp (pc' := 486) 40 rfl rfl ?_
  exact v_if_eq (tgt := 491) (pc' := 489) 41 rfl rfl (by decide) (fun _ => v_goto (tgt := 2520) 44 rfl (by decide) (V.sub [2, 3, 4, 5, 6] rfl (V.widen (c1 := c0 + 3) (s1 := s0 + 18) (by omega) (by omega) (fun q => absurd q (Nat.lt_irrefl _)) (vw (P' := []) rfl (kk _ _ _ _ _ _ ht (h.2.2.mono (by omega))))))) (fun q => absurd (lgc_eq.mpr (h.2.1 hk)) q)
def PL5 : List (Nat × Instr × Nat) := [(494, .aload_n 1, 1), (495, .aload_n 0, 1), (496, .iload 4, 2), (498, .iconst 1, 1), (499, .iadd, 1), (500, .iaload, 1), (501, .aload_n 0, 1), (502, .iload 4, 2), (504, .iconst 2, 1), (505, .iadd, 1), (506, .iaload, 1), (507, .aload_n 0, 1), (508, .iload 4, 2), (510, .iconst 3, 1), (511, .iadd, 1), (512, .iaload, 1), (513, .aload_n 3, 1), (514, .invokestatic 138, 3), (517, .istore 5, 2), (519, .aload_n 2, 1), (520, .aload_n 0, 1), (521, .iload 4, 2), (523, .iconst 1, 1), (524, .iadd, 1), (525, .iaload, 1), (526, .aload_n 0, 1), (527, .iload 4, 2), (529, .iconst 2, 1), (530, .iadd, 1), (531, .iaload, 1), (532, .aload_n 0, 1), (533, .iload 4, 2), (535, .iconst 3, 1), (536, .iadd, 1), (537, .iaload, 1), (538, .invokevirtual 141, 3), (541, .istore 6, 2), (543, .aload_n 2, 1), (544, .invokevirtual 123, 3), (547, .iload 5, 2), (549, .if_icmp .eq 5, 3), (552, .iconst 0, 1), (553, .ireturn, 1), (554, .iload 5, 2), (556, .ifCond .ne 15, 3), (559, .aload_n 3, 1), (560, .iconst 0, 1), (561, .laload, 1), (562, .iload 6, 2), (564, .i2l, 1), (565, .lcmp, 1), (566, .ifCond .eq 5, 3), (569, .iconst 0, 1), (570, .ireturn, 1), (571, .goto 1949, 3)]
theorem isL_5 : PL5.all (okI code) = true := by decide +kernel
set_option maxHeartbeats 4000000 in
set_option maxRecDepth 100000 in
theorem lc_5 {B : Nat} {X : XT} {I : TI} {L : TL} {b d t n c0 s0 : Nat} {Q : Option Value → MU → Prop} {QX : String → MU → Prop} (h6 : 6 * n + 6 ≤ gL G) (hL : gL G ≤ 3072) (hB : 1000000 ≤ B) (hB2 : B < 2 ^ 30) (hc : c0 + 3 ≤ 601024) (hs : s0 + 18 ≤ 7293034) (ht : txOK t) (hI : INV I L b d X B) (kk : LE9 G n B (c0 + 3) (s0 + 18) Q QX) : V G (YL PL5) 494 (Lk n) [] (I, L, RT b d t, 457) c0 s0 Q QX := by
  refine v_aload_n (pc' := 495) 0 3 rfl rfl rfl rfl ?_
  refine v_arg (pc' := 501) (j := 1) (o := 0) 1 rfl rfl rfl rfl rfl rfl rfl rfl (by decide) (by decide) h6 hL ?_
  refine v_arg (pc' := 507) (j := 2) (o := 0) 6 rfl rfl rfl rfl rfl rfl rfl rfl (by decide) (by decide) h6 hL ?_
  refine v_arg (pc' := 513) (j := 3) (o := 0) 11 rfl rfl rfl rfl rfl rfl rfl rfl (by decide) (by decide) h6 hL ?_
  refine v_aload_n (pc' := 514) 16 1 rfl rfl rfl rfl ?_
  refine v_cSX (Y2 := Y_L_value) (As := [.ref 0, .int (AR G n 1), .int (AR G n 2), .int (AR G n 3), .ref 456]) (pc' := 517) (c1 := c0 + 3) (s1 := s0 + 18) 17 rfl rfl mf_L_value rfl rfl ml_L_138 ms_L_value rfl (Nat.le_of_ble_eq_true rfl) ⟨show c0 + 3 ≤ 601024 by omega, show s0 + 18 ≤ 7293034 by omega⟩ rfl rfl (ok_L_value _ _ _ _ _ _ _ hI.2.2.1.1 hI.2.2.1.2.1 (op_value (P := fun k r J M => ∃ X2, OKL k r.toInt64 J M b d X2 B) hI (fun _ _ _ _ h => ⟨_, h⟩))) (fun _ _ q => q.elim) ?_
  intro v9 u9 hv9
  obtain ⟨k, L1, rfl, rfl, h⟩ := hv9
  refine ⟨fun q => absurd q (Nat.lt_irrefl _), ?_⟩
  show V G (YL PL5) 517 _ (.int k :: _) _ _ _ _ _
  refine v_istore (pc' := 519) 18 rfl rfl (by decide) rfl ?_
  refine v_aload_n (pc' := 520) 19 3 rfl rfl rfl rfl ?_
  refine v_arg (pc' := 526) (j := 1) (o := 1) 20 rfl rfl rfl rfl rfl rfl rfl rfl (by decide) (by decide) h6 hL ?_
  refine v_arg (pc' := 532) (j := 2) (o := 1) 25 rfl rfl rfl rfl rfl rfl rfl rfl (by decide) (by decide) h6 hL ?_
  refine v_arg (pc' := 538) (j := 3) (o := 1) 30 rfl rfl rfl rfl rfl rfl rfl rfl (by decide) (by decide) h6 hL ?_
  refine v_cV (Y2 := Y_X9_value) (As := [.int (AR G n 1), .int (AR G n 2), .int (AR G n 3)]) (b := 436) (pc' := 541) (c1 := c0 + 3) (s1 := s0 + 18) 35 rfl rfl mf_X9_value rfl rfl ml_L_141 mi_X9_value se_X9_value (ci := 8) rfl ly_436 (lay_lt ly_436 (by decide)) rfl (Nat.le_of_ble_eq_true rfl) ⟨show c0 + 3 + 0 ≤ 601024 by omega, show s0 + 18 + 0 ≤ 7293034 by omega⟩ rfl rfl (ok_X9_value _ _ _ _ _ h) (fun _ _ q => q.elim) ?_
  intro v9 u9 hv9
  obtain ⟨r, I2, L2, rfl, rfl, h⟩ := hv9
  refine ⟨fun q => absurd q (Nat.lt_irrefl _), ?_⟩
  show V G (YL PL5) 541 _ (.int r :: _) _ _ _ _ _
  refine v_istore (pc' := 543) 36 rfl rfl (by decide) rfl ?_
  refine v_aload_n (pc' := 544) 37 4 rfl rfl rfl rfl ?_
  refine v_cV (Y2 := Y_X9_thrown) (As := []) (b := 436) (pc' := 547) (c1 := c0 + 3) (s1 := s0 + 18) 38 rfl rfl mf_X9_thrown rfl rfl ml_L_123 mi_X9_thrown se_X9_thrown (ci := 8) rfl ly_436 (lay_lt ly_436 (by decide)) rfl (Nat.le_of_ble_eq_true rfl) ⟨show c0 + 3 + 0 ≤ 601024 by omega, show s0 + 18 + 0 ≤ 7293034 by omega⟩ rfl rfl (ok_X9_thrown _ _ (show W_X9_thrown _ _ (fun r => r = _) from rfl)) (fun _ _ q => q.elim) ?_
  intro v9 u9 hv9
  obtain ⟨w, rfl, rfl, hw⟩ := hv9
  refine ⟨fun q => absurd q (Nat.lt_irrefl _), ?_⟩
  show V G (YL PL5) 547 _ (.int w :: _) _ _ _ _ _
  refine v_iload (pc' := 549) 39 1 rfl rfl rfl ?_
  obtain ⟨X2, h⟩ := h
  refine v_icmp_eq (tgt := 554) (pc' := 552) 40 rfl rfl (by decide) (fun _ => ?_) (fun q => absurd (hw.trans h.1) q)
  refine v_iload (pc' := 556) 43 1 rfl rfl rfl ?_
  refine v_if_ne (tgt := 571) (pc' := 559) 44 rfl rfl (by decide) (fun _ => v_goto (tgt := 2520) 54 rfl (by decide) (V.sub [2, 3, 4, 5, 6] rfl (V.widen (c1 := c0 + 3) (s1 := s0 + 18) (by omega) (by omega) (fun q => absurd q (Nat.lt_irrefl _)) (vw (P' := []) rfl (kk _ _ _ _ _ _ ht (h.2.2.mono (by omega))))))) (fun hk => ?_)
  refine v_aload_n (pc' := 560) 45 3 rfl rfl rfl rfl ?_
  refine v_iconst (v := 0) (pc' := 561) 46 rfl rfl (by decide) ?_
  refine v_lald (i := 0) (j := 0) (pc' := 562) 47 rfl rfl ly_456 ln_456 (lay_lt ly_456 (by decide)) (vp_lit (by decide)) (by decide) ?_
  refine v_iload (pc' := 564) 48 0 rfl rfl rfl ?_
  refine v_i2l (pc' := 565) 49 rfl rfl ?_
  refine v_lcmp (pc' := 566) 50 rfl rfl ?_
  exact v_if_eq (tgt := 571) (pc' := 569) 51 rfl rfl (by decide) (fun _ => v_goto (tgt := 2520) 54 rfl (by decide) (V.sub [2, 3, 4, 5, 6] rfl (V.widen (c1 := c0 + 3) (s1 := s0 + 18) (by omega) (by omega) (fun q => absurd q (Nat.lt_irrefl _)) (vw (P' := []) rfl (kk _ _ _ _ _ _ ht (h.2.2.mono (by omega))))))) (fun q => absurd (lgc_eq.mpr (h.2.1 hk)) q)
def PL6 : List (Nat × Instr × Nat) := [(574, .aload_n 1, 1), (575, .aload_n 0, 1), (576, .iload 4, 2), (578, .iconst 1, 1), (579, .iadd, 1), (580, .iaload, 1), (581, .aload_n 0, 1), (582, .iload 4, 2), (584, .iconst 2, 1), (585, .iadd, 1), (586, .iaload, 1), (587, .aload_n 3, 1), (588, .invokestatic 142, 3), (591, .istore 5, 2), (593, .aload_n 2, 1), (594, .aload_n 0, 1), (595, .iload 4, 2), (597, .iconst 1, 1), (598, .iadd, 1), (599, .iaload, 1), (600, .aload_n 0, 1), (601, .iload 4, 2), (603, .iconst 2, 1), (604, .iadd, 1), (605, .iaload, 1), (606, .invokevirtual 144, 3), (609, .istore 6, 2), (611, .aload_n 2, 1), (612, .invokevirtual 123, 3), (615, .iload 5, 2), (617, .if_icmp .eq 5, 3), (620, .iconst 0, 1), (621, .ireturn, 1), (622, .iload 5, 2), (624, .ifCond .ne 15, 3), (627, .aload_n 3, 1), (628, .iconst 0, 1), (629, .laload, 1), (630, .iload 6, 2), (632, .i2l, 1), (633, .lcmp, 1), (634, .ifCond .eq 5, 3), (637, .iconst 0, 1), (638, .ireturn, 1), (639, .goto 1881, 3)]
theorem isL_6 : PL6.all (okI code) = true := by decide +kernel
set_option maxHeartbeats 4000000 in
set_option maxRecDepth 100000 in
theorem lc_6 {B : Nat} {X : XT} {I : TI} {L : TL} {b d t n c0 s0 : Nat} {Q : Option Value → MU → Prop} {QX : String → MU → Prop} (h6 : 6 * n + 6 ≤ gL G) (hL : gL G ≤ 3072) (hB : 1000000 ≤ B) (hB2 : B < 2 ^ 30) (hc : c0 + 3 ≤ 601024) (hs : s0 + 18 ≤ 7293034) (ht : txOK t) (hI : INV I L b d X B) (kk : LE9 G n B (c0 + 3) (s0 + 18) Q QX) : V G (YL PL6) 574 (Lk n) [] (I, L, RT b d t, 457) c0 s0 Q QX := by
  refine v_aload_n (pc' := 575) 0 3 rfl rfl rfl rfl ?_
  refine v_arg (pc' := 581) (j := 1) (o := 0) 1 rfl rfl rfl rfl rfl rfl rfl rfl (by decide) (by decide) h6 hL ?_
  refine v_arg (pc' := 587) (j := 2) (o := 0) 6 rfl rfl rfl rfl rfl rfl rfl rfl (by decide) (by decide) h6 hL ?_
  refine v_aload_n (pc' := 588) 11 1 rfl rfl rfl rfl ?_
  refine v_cSX (Y2 := Y_L_stateAt) (As := [.ref 0, .int (AR G n 1), .int (AR G n 2), .ref 456]) (pc' := 591) (c1 := c0 + 2) (s1 := s0 + 12) 12 rfl rfl mf_L_stateAt rfl rfl ml_L_142 ms_L_stateAt rfl (Nat.le_of_ble_eq_true rfl) ⟨show c0 + 2 ≤ 601024 by omega, show s0 + 12 ≤ 7293034 by omega⟩ rfl rfl (ok_L_stateAt _ _ _ _ _ _ hI.2.2.1.1 hI.2.2.1.2.1 (op_stateAt (P := fun k r J M => ∃ X2, OKL k r.toInt64 J M b d X2 B) hI (fun _ _ _ _ h => ⟨_, h⟩))) (fun _ _ q => q.elim) ?_
  intro v9 u9 hv9
  obtain ⟨k, L1, rfl, rfl, h⟩ := hv9
  refine ⟨fun q => absurd q (Nat.lt_irrefl _), ?_⟩
  show V G (YL PL6) 591 _ (.int k :: _) _ _ _ _ _
  refine v_istore (pc' := 593) 13 rfl rfl (by decide) rfl ?_
  refine v_aload_n (pc' := 594) 14 3 rfl rfl rfl rfl ?_
  refine v_arg (pc' := 600) (j := 1) (o := 1) 15 rfl rfl rfl rfl rfl rfl rfl rfl (by decide) (by decide) h6 hL ?_
  refine v_arg (pc' := 606) (j := 2) (o := 1) 20 rfl rfl rfl rfl rfl rfl rfl rfl (by decide) (by decide) h6 hL ?_
  refine v_cV (Y2 := Y_X9_stateAt) (As := [.int (AR G n 1), .int (AR G n 2)]) (b := 436) (pc' := 609) (c1 := c0 + 2) (s1 := s0 + 12) 25 rfl rfl mf_X9_stateAt rfl rfl ml_L_144 mi_X9_stateAt se_X9_stateAt (ci := 8) rfl ly_436 (lay_lt ly_436 (by decide)) rfl (Nat.le_of_ble_eq_true rfl) ⟨show c0 + 2 + 0 ≤ 601024 by omega, show s0 + 12 + 0 ≤ 7293034 by omega⟩ rfl rfl (ok_X9_stateAt _ _ _ _ h) (fun _ _ q => q.elim) ?_
  intro v9 u9 hv9
  obtain ⟨r, I2, rfl, rfl, h⟩ := hv9
  refine ⟨fun q => absurd q (Nat.lt_irrefl _), ?_⟩
  show V G (YL PL6) 609 _ (.int r :: _) _ _ _ _ _
  refine v_istore (pc' := 611) 26 rfl rfl (by decide) rfl ?_
  refine v_aload_n (pc' := 612) 27 4 rfl rfl rfl rfl ?_
  refine v_cV (Y2 := Y_X9_thrown) (As := []) (b := 436) (pc' := 615) (c1 := c0 + 2) (s1 := s0 + 12) 28 rfl rfl mf_X9_thrown rfl rfl ml_L_123 mi_X9_thrown se_X9_thrown (ci := 8) rfl ly_436 (lay_lt ly_436 (by decide)) rfl (Nat.le_of_ble_eq_true rfl) ⟨show c0 + 2 + 0 ≤ 601024 by omega, show s0 + 12 + 0 ≤ 7293034 by omega⟩ rfl rfl (ok_X9_thrown _ _ (show W_X9_thrown _ _ (fun r => r = _) from rfl)) (fun _ _ q => q.elim) ?_
  intro v9 u9 hv9
  obtain ⟨w, rfl, rfl, hw⟩ := hv9
  refine ⟨fun q => absurd q (Nat.lt_irrefl _), ?_⟩
  show V G (YL PL6) 615 _ (.int w :: _) _ _ _ _ _
  refine v_iload (pc' := 617) 29 1 rfl rfl rfl ?_
  obtain ⟨X2, h⟩ := h
  refine v_icmp_eq (tgt := 622) (pc' := 620) 30 rfl rfl (by decide) (fun _ => ?_) (fun q => absurd (hw.trans h.1) q)
  refine v_iload (pc' := 624) 33 1 rfl rfl rfl ?_
  refine v_if_ne (tgt := 639) (pc' := 627) 34 rfl rfl (by decide) (fun _ => v_goto (tgt := 2520) 44 rfl (by decide) (V.sub [2, 3, 4, 5, 6] rfl (V.widen (c1 := c0 + 3) (s1 := s0 + 18) (by omega) (by omega) (fun q => absurd q (Nat.lt_irrefl _)) (vw (P' := []) rfl (kk _ _ _ _ _ _ ht (h.2.2.mono (by omega))))))) (fun hk => ?_)
  refine v_aload_n (pc' := 628) 35 3 rfl rfl rfl rfl ?_
  refine v_iconst (v := 0) (pc' := 629) 36 rfl rfl (by decide) ?_
  refine v_lald (i := 0) (j := 0) (pc' := 630) 37 rfl rfl ly_456 ln_456 (lay_lt ly_456 (by decide)) (vp_lit (by decide)) (by decide) ?_
  refine v_iload (pc' := 632) 38 0 rfl rfl rfl ?_
  refine v_i2l (pc' := 633) 39 rfl rfl ?_
  refine v_lcmp (pc' := 634) 40 rfl rfl ?_
  exact v_if_eq (tgt := 639) (pc' := 637) 41 rfl rfl (by decide) (fun _ => v_goto (tgt := 2520) 44 rfl (by decide) (V.sub [2, 3, 4, 5, 6] rfl (V.widen (c1 := c0 + 3) (s1 := s0 + 18) (by omega) (by omega) (fun q => absurd q (Nat.lt_irrefl _)) (vw (P' := []) rfl (kk _ _ _ _ _ _ ht (h.2.2.mono (by omega))))))) (fun q => absurd (lgc_eq.mpr (h.2.1 hk)) q)
def PL7 : List (Nat × Instr × Nat) := [(642, .aload_n 1, 1), (643, .aload_n 0, 1), (644, .iload 4, 2), (646, .iconst 1, 1), (647, .iadd, 1), (648, .iaload, 1), (649, .aload_n 0, 1), (650, .iload 4, 2), (652, .iconst 2, 1), (653, .iadd, 1), (654, .iaload, 1), (655, .aload_n 3, 1), (656, .invokestatic 145, 3), (659, .istore 5, 2), (661, .aload_n 2, 1), (662, .aload_n 0, 1), (663, .iload 4, 2), (665, .iconst 1, 1), (666, .iadd, 1), (667, .iaload, 1), (668, .aload_n 0, 1), (669, .iload 4, 2), (671, .iconst 2, 1), (672, .iadd, 1), (673, .iaload, 1), (674, .invokevirtual 147, 3), (677, .lstore 6, 2), (679, .aload_n 2, 1), (680, .invokevirtual 123, 3), (683, .iload 5, 2), (685, .if_icmp .eq 5, 3), (688, .iconst 0, 1), (689, .ireturn, 1), (690, .iload 5, 2), (692, .ifCond .ne 14, 3), (695, .aload_n 3, 1), (696, .iconst 0, 1), (697, .laload, 1), (698, .lload 6, 2), (700, .lcmp, 1), (701, .ifCond .eq 5, 3), (704, .iconst 0, 1), (705, .ireturn, 1), (706, .goto 1814, 3)]
theorem isL_7 : PL7.all (okI code) = true := by decide +kernel
set_option maxHeartbeats 4000000 in
set_option maxRecDepth 100000 in
theorem lc_7 {B : Nat} {X : XT} {I : TI} {L : TL} {b d t n c0 s0 : Nat} {Q : Option Value → MU → Prop} {QX : String → MU → Prop} (h6 : 6 * n + 6 ≤ gL G) (hL : gL G ≤ 3072) (hB : 1000000 ≤ B) (hB2 : B < 2 ^ 30) (hc : c0 + 3 ≤ 601024) (hs : s0 + 18 ≤ 7293034) (ht : txOK t) (hI : INV I L b d X B) (kk : LE9 G n B (c0 + 3) (s0 + 18) Q QX) : V G (YL PL7) 642 (Lk n) [] (I, L, RT b d t, 457) c0 s0 Q QX := by
  refine v_aload_n (pc' := 643) 0 3 rfl rfl rfl rfl ?_
  refine v_arg (pc' := 649) (j := 1) (o := 0) 1 rfl rfl rfl rfl rfl rfl rfl rfl (by decide) (by decide) h6 hL ?_
  refine v_arg (pc' := 655) (j := 2) (o := 0) 6 rfl rfl rfl rfl rfl rfl rfl rfl (by decide) (by decide) h6 hL ?_
  refine v_aload_n (pc' := 656) 11 1 rfl rfl rfl rfl ?_
  refine v_cSX (Y2 := Y_L_wave) (As := [.ref 0, .int (AR G n 1), .int (AR G n 2), .ref 456]) (pc' := 659) (c1 := c0 + 2) (s1 := s0 + 12) 12 rfl rfl mf_L_wave rfl rfl ml_L_145 ms_L_wave rfl (Nat.le_of_ble_eq_true rfl) ⟨show c0 + 2 ≤ 601024 by omega, show s0 + 12 ≤ 7293034 by omega⟩ rfl rfl (ok_L_wave _ _ _ _ _ _ hI.2.2.1.1 hI.2.2.1.2.1 (op_wave (P := fun k r J M => ∃ X2, OKL k r J M b d X2 B) hI (fun _ _ _ _ h => ⟨_, h⟩))) (fun _ _ q => q.elim) ?_
  intro v9 u9 hv9
  obtain ⟨k, L1, rfl, rfl, h⟩ := hv9
  refine ⟨fun q => absurd q (Nat.lt_irrefl _), ?_⟩
  show V G (YL PL7) 659 _ (.int k :: _) _ _ _ _ _
  refine v_istore (pc' := 661) 13 rfl rfl (by decide) rfl ?_
  refine v_aload_n (pc' := 662) 14 3 rfl rfl rfl rfl ?_
  refine v_arg (pc' := 668) (j := 1) (o := 1) 15 rfl rfl rfl rfl rfl rfl rfl rfl (by decide) (by decide) h6 hL ?_
  refine v_arg (pc' := 674) (j := 2) (o := 1) 20 rfl rfl rfl rfl rfl rfl rfl rfl (by decide) (by decide) h6 hL ?_
  refine v_cV (Y2 := Y_X9_wave) (As := [.int (AR G n 1), .int (AR G n 2)]) (b := 436) (pc' := 677) (c1 := c0 + 2) (s1 := s0 + 12) 25 rfl rfl mf_X9_wave rfl rfl ml_L_147 mi_X9_wave se_X9_wave (ci := 8) rfl ly_436 (lay_lt ly_436 (by decide)) rfl (Nat.le_of_ble_eq_true rfl) ⟨show c0 + 2 + 0 ≤ 601024 by omega, show s0 + 12 + 0 ≤ 7293034 by omega⟩ rfl rfl (ok_X9_wave _ _ _ _ h) (fun _ _ q => q.elim) ?_
  intro v9 u9 hv9
  obtain ⟨r, I2, L2, rfl, rfl, h⟩ := hv9
  refine ⟨fun q => absurd q (Nat.lt_irrefl _), ?_⟩
  show V G (YL PL7) 677 _ (.long r :: _) _ _ _ _ _
  refine v_lstore (pc' := 679) 26 rfl rfl (by decide) rfl ?_
  refine v_aload_n (pc' := 680) 27 4 rfl rfl rfl rfl ?_
  refine v_cV (Y2 := Y_X9_thrown) (As := []) (b := 436) (pc' := 683) (c1 := c0 + 2) (s1 := s0 + 12) 28 rfl rfl mf_X9_thrown rfl rfl ml_L_123 mi_X9_thrown se_X9_thrown (ci := 8) rfl ly_436 (lay_lt ly_436 (by decide)) rfl (Nat.le_of_ble_eq_true rfl) ⟨show c0 + 2 + 0 ≤ 601024 by omega, show s0 + 12 + 0 ≤ 7293034 by omega⟩ rfl rfl (ok_X9_thrown _ _ (show W_X9_thrown _ _ (fun r => r = _) from rfl)) (fun _ _ q => q.elim) ?_
  intro v9 u9 hv9
  obtain ⟨w, rfl, rfl, hw⟩ := hv9
  refine ⟨fun q => absurd q (Nat.lt_irrefl _), ?_⟩
  show V G (YL PL7) 683 _ (.int w :: _) _ _ _ _ _
  refine v_iload (pc' := 685) 29 1 rfl rfl rfl ?_
  obtain ⟨X2, h⟩ := h
  refine v_icmp_eq (tgt := 690) (pc' := 688) 30 rfl rfl (by decide) (fun _ => ?_) (fun q => absurd (hw.trans h.1) q)
  refine v_iload (pc' := 692) 33 1 rfl rfl rfl ?_
  refine v_if_ne (tgt := 706) (pc' := 695) 34 rfl rfl (by decide) (fun _ => v_goto (tgt := 2520) 43 rfl (by decide) (V.sub [2, 3, 4, 5, 6] rfl (V.widen (c1 := c0 + 3) (s1 := s0 + 18) (by omega) (by omega) (fun q => absurd q (Nat.lt_irrefl _)) (vw (P' := []) rfl (kk _ _ _ _ _ _ ht (h.2.2.mono (by omega))))))) (fun hk => ?_)
  refine v_aload_n (pc' := 696) 35 3 rfl rfl rfl rfl ?_
  refine v_iconst (v := 0) (pc' := 697) 36 rfl rfl (by decide) ?_
  refine v_lald (i := 0) (j := 0) (pc' := 698) 37 rfl rfl ly_456 ln_456 (lay_lt ly_456 (by decide)) (vp_lit (by decide)) (by decide) ?_
  refine v_lload (pc' := 700) 38 0 rfl rfl rfl ?_
  refine v_lcmp (pc' := 701) 39 rfl rfl ?_
  exact v_if_eq (tgt := 706) (pc' := 704) 40 rfl rfl (by decide) (fun _ => v_goto (tgt := 2520) 43 rfl (by decide) (V.sub [2, 3, 4, 5, 6] rfl (V.widen (c1 := c0 + 3) (s1 := s0 + 18) (by omega) (by omega) (fun q => absurd q (Nat.lt_irrefl _)) (vw (P' := []) rfl (kk _ _ _ _ _ _ ht (h.2.2.mono (by omega))))))) (fun q => absurd (lgc_eq.mpr (h.2.1 hk)) q)
def PL8 : List (Nat × Instr × Nat) := [(709, .aload_n 1, 1), (710, .aload_n 0, 1), (711, .iload 4, 2), (713, .iconst 1, 1), (714, .iadd, 1), (715, .iaload, 1), (716, .aload_n 0, 1), (717, .iload 4, 2), (719, .iconst 2, 1), (720, .iadd, 1), (721, .iaload, 1), (722, .aload_n 3, 1), (723, .invokestatic 148, 3), (726, .istore 5, 2), (728, .aload_n 2, 1), (729, .aload_n 0, 1), (730, .iload 4, 2), (732, .iconst 1, 1), (733, .iadd, 1), (734, .iaload, 1), (735, .aload_n 0, 1), (736, .iload 4, 2), (738, .iconst 2, 1), (739, .iadd, 1), (740, .iaload, 1), (741, .invokevirtual 150, 3), (744, .istore 6, 2), (746, .aload_n 2, 1), (747, .invokevirtual 123, 3), (750, .iload 5, 2), (752, .if_icmp .eq 5, 3), (755, .iconst 0, 1), (756, .ireturn, 1), (757, .iload 5, 2), (759, .ifCond .ne 15, 3), (762, .aload_n 3, 1), (763, .iconst 0, 1), (764, .laload, 1), (765, .iload 6, 2), (767, .i2l, 1), (768, .lcmp, 1), (769, .ifCond .eq 5, 3), (772, .iconst 0, 1), (773, .ireturn, 1), (774, .goto 1746, 3)]
theorem isL_8 : PL8.all (okI code) = true := by decide +kernel
set_option maxHeartbeats 4000000 in
set_option maxRecDepth 100000 in
theorem lc_8 {B : Nat} {X : XT} {I : TI} {L : TL} {b d t n c0 s0 : Nat} {Q : Option Value → MU → Prop} {QX : String → MU → Prop} (h6 : 6 * n + 6 ≤ gL G) (hL : gL G ≤ 3072) (hB : 1000000 ≤ B) (hB2 : B < 2 ^ 30) (hc : c0 + 3 ≤ 601024) (hs : s0 + 18 ≤ 7293034) (ht : txOK t) (hI : INV I L b d X B) (kk : LE9 G n B (c0 + 3) (s0 + 18) Q QX) : V G (YL PL8) 709 (Lk n) [] (I, L, RT b d t, 457) c0 s0 Q QX := by
  refine v_aload_n (pc' := 710) 0 3 rfl rfl rfl rfl ?_
  refine v_arg (pc' := 716) (j := 1) (o := 0) 1 rfl rfl rfl rfl rfl rfl rfl rfl (by decide) (by decide) h6 hL ?_
  refine v_arg (pc' := 722) (j := 2) (o := 0) 6 rfl rfl rfl rfl rfl rfl rfl rfl (by decide) (by decide) h6 hL ?_
  refine v_aload_n (pc' := 723) 11 1 rfl rfl rfl rfl ?_
  refine v_cSX (Y2 := Y_L_changes) (As := [.ref 0, .int (AR G n 1), .int (AR G n 2), .ref 456]) (pc' := 726) (c1 := c0 + 2) (s1 := s0 + 12) 12 rfl rfl mf_L_changes rfl rfl ml_L_148 ms_L_changes rfl (Nat.le_of_ble_eq_true rfl) ⟨show c0 + 2 ≤ 601024 by omega, show s0 + 12 ≤ 7293034 by omega⟩ rfl rfl (ok_L_changes _ _ _ _ _ _ hI.2.2.1.1 hI.2.2.1.2.1 (op_changes (P := fun k r J M => ∃ X2, OKL k r.toInt64 J M b d X2 B) hI (fun _ _ _ _ h => ⟨_, h⟩))) (fun _ _ q => q.elim) ?_
  intro v9 u9 hv9
  obtain ⟨k, L1, rfl, rfl, h⟩ := hv9
  refine ⟨fun q => absurd q (Nat.lt_irrefl _), ?_⟩
  show V G (YL PL8) 726 _ (.int k :: _) _ _ _ _ _
  refine v_istore (pc' := 728) 13 rfl rfl (by decide) rfl ?_
  refine v_aload_n (pc' := 729) 14 3 rfl rfl rfl rfl ?_
  refine v_arg (pc' := 735) (j := 1) (o := 1) 15 rfl rfl rfl rfl rfl rfl rfl rfl (by decide) (by decide) h6 hL ?_
  refine v_arg (pc' := 741) (j := 2) (o := 1) 20 rfl rfl rfl rfl rfl rfl rfl rfl (by decide) (by decide) h6 hL ?_
  refine v_cV (Y2 := Y_X9_changes) (As := [.int (AR G n 1), .int (AR G n 2)]) (b := 436) (pc' := 744) (c1 := c0 + 2) (s1 := s0 + 12) 25 rfl rfl mf_X9_changes rfl rfl ml_L_150 mi_X9_changes se_X9_changes (ci := 8) rfl ly_436 (lay_lt ly_436 (by decide)) rfl (Nat.le_of_ble_eq_true rfl) ⟨show c0 + 2 + 0 ≤ 601024 by omega, show s0 + 12 + 0 ≤ 7293034 by omega⟩ rfl rfl (ok_X9_changes _ _ _ _ h) (fun _ _ q => q.elim) ?_
  intro v9 u9 hv9
  obtain ⟨r, I2, L2, rfl, rfl, h⟩ := hv9
  refine ⟨fun q => absurd q (Nat.lt_irrefl _), ?_⟩
  show V G (YL PL8) 744 _ (.int r :: _) _ _ _ _ _
  refine v_istore (pc' := 746) 26 rfl rfl (by decide) rfl ?_
  refine v_aload_n (pc' := 747) 27 4 rfl rfl rfl rfl ?_
  refine v_cV (Y2 := Y_X9_thrown) (As := []) (b := 436) (pc' := 750) (c1 := c0 + 2) (s1 := s0 + 12) 28 rfl rfl mf_X9_thrown rfl rfl ml_L_123 mi_X9_thrown se_X9_thrown (ci := 8) rfl ly_436 (lay_lt ly_436 (by decide)) rfl (Nat.le_of_ble_eq_true rfl) ⟨show c0 + 2 + 0 ≤ 601024 by omega, show s0 + 12 + 0 ≤ 7293034 by omega⟩ rfl rfl (ok_X9_thrown _ _ (show W_X9_thrown _ _ (fun r => r = _) from rfl)) (fun _ _ q => q.elim) ?_
  intro v9 u9 hv9
  obtain ⟨w, rfl, rfl, hw⟩ := hv9
  refine ⟨fun q => absurd q (Nat.lt_irrefl _), ?_⟩
  show V G (YL PL8) 750 _ (.int w :: _) _ _ _ _ _
  refine v_iload (pc' := 752) 29 1 rfl rfl rfl ?_
  obtain ⟨X2, h⟩ := h
  refine v_icmp_eq (tgt := 757) (pc' := 755) 30 rfl rfl (by decide) (fun _ => ?_) (fun q => absurd (hw.trans h.1) q)
  refine v_iload (pc' := 759) 33 1 rfl rfl rfl ?_
  refine v_if_ne (tgt := 774) (pc' := 762) 34 rfl rfl (by decide) (fun _ => v_goto (tgt := 2520) 44 rfl (by decide) (V.sub [2, 3, 4, 5, 6] rfl (V.widen (c1 := c0 + 3) (s1 := s0 + 18) (by omega) (by omega) (fun q => absurd q (Nat.lt_irrefl _)) (vw (P' := []) rfl (kk _ _ _ _ _ _ ht (h.2.2.mono (by omega))))))) (fun hk => ?_)
  refine v_aload_n (pc' := 763) 35 3 rfl rfl rfl rfl ?_
  refine v_iconst (v := 0) (pc' := 764) 36 rfl rfl (by decide) ?_
  refine v_lald (i := 0) (j := 0) (pc' := 765) 37 rfl rfl ly_456 ln_456 (lay_lt ly_456 (by decide)) (vp_lit (by decide)) (by decide) ?_
  refine v_iload (pc' := 767) 38 0 rfl rfl rfl ?_
  refine v_i2l (pc' := 768) 39 rfl rfl ?_
  refine v_lcmp (pc' := 769) 40 rfl rfl ?_
  exact v_if_eq (tgt := 774) (pc' := 772) 41 rfl rfl (by decide) (fun _ => v_goto (tgt := 2520) 44 rfl (by decide) (V.sub [2, 3, 4, 5, 6] rfl (V.widen (c1 := c0 + 3) (s1 := s0 + 18) (by omega) (by omega) (fun q => absurd q (Nat.lt_irrefl _)) (vw (P' := []) rfl (kk _ _ _ _ _ _ ht (h.2.2.mono (by omega))))))) (fun q => absurd (lgc_eq.mpr (h.2.1 hk)) q)
def PL9 : List (Nat × Instr × Nat) := [(777, .aload_n 1, 1), (778, .aload_n 0, 1), (779, .iload 4, 2), (781, .iconst 1, 1), (782, .iadd, 1), (783, .iaload, 1), (784, .aload_n 0, 1), (785, .iload 4, 2), (787, .iconst 2, 1), (788, .iadd, 1), (789, .iaload, 1), (790, .aload_n 3, 1), (791, .invokestatic 151, 3), (794, .istore 5, 2), (796, .aload_n 2, 1), (797, .aload_n 0, 1), (798, .iload 4, 2), (800, .iconst 1, 1), (801, .iadd, 1), (802, .iaload, 1), (803, .aload_n 0, 1), (804, .iload 4, 2), (806, .iconst 2, 1), (807, .iadd, 1), (808, .iaload, 1), (809, .invokevirtual 153, 3), (812, .istore 6, 2), (814, .aload_n 2, 1), (815, .invokevirtual 123, 3), (818, .iload 5, 2), (820, .if_icmp .eq 5, 3), (823, .iconst 0, 1), (824, .ireturn, 1), (825, .iload 5, 2), (827, .ifCond .ne 15, 3), (830, .aload_n 3, 1), (831, .iconst 0, 1), (832, .laload, 1), (833, .iload 6, 2), (835, .i2l, 1), (836, .lcmp, 1), (837, .ifCond .eq 5, 3), (840, .iconst 0, 1), (841, .ireturn, 1), (842, .goto 1678, 3)]
theorem isL_9 : PL9.all (okI code) = true := by decide +kernel
set_option maxHeartbeats 4000000 in
set_option maxRecDepth 100000 in
theorem lc_9 {B : Nat} {X : XT} {I : TI} {L : TL} {b d t n c0 s0 : Nat} {Q : Option Value → MU → Prop} {QX : String → MU → Prop} (h6 : 6 * n + 6 ≤ gL G) (hL : gL G ≤ 3072) (hB : 1000000 ≤ B) (hB2 : B < 2 ^ 30) (hc : c0 + 3 ≤ 601024) (hs : s0 + 18 ≤ 7293034) (ht : txOK t) (hI : INV I L b d X B) (kk : LE9 G n B (c0 + 3) (s0 + 18) Q QX) : V G (YL PL9) 777 (Lk n) [] (I, L, RT b d t, 457) c0 s0 Q QX := by
  refine v_aload_n (pc' := 778) 0 3 rfl rfl rfl rfl ?_
  refine v_arg (pc' := 784) (j := 1) (o := 0) 1 rfl rfl rfl rfl rfl rfl rfl rfl (by decide) (by decide) h6 hL ?_
  refine v_arg (pc' := 790) (j := 2) (o := 0) 6 rfl rfl rfl rfl rfl rfl rfl rfl (by decide) (by decide) h6 hL ?_
  refine v_aload_n (pc' := 791) 11 1 rfl rfl rfl rfl ?_
  refine v_cSX (Y2 := Y_L_quietFrom) (As := [.ref 0, .int (AR G n 1), .int (AR G n 2), .ref 456]) (pc' := 794) (c1 := c0 + 2) (s1 := s0 + 12) 12 rfl rfl mf_L_quietFrom rfl rfl ml_L_151 ms_L_quietFrom rfl (Nat.le_of_ble_eq_true rfl) ⟨show c0 + 2 ≤ 601024 by omega, show s0 + 12 ≤ 7293034 by omega⟩ rfl rfl (ok_L_quietFrom _ _ _ _ _ _ hI.2.2.1.1 hI.2.2.1.2.1 (op_quietFrom (P := fun k r J M => ∃ X2, OKL k r.toInt64 J M b d X2 B) hI (fun _ _ _ _ h => ⟨_, h⟩))) (fun _ _ q => q.elim) ?_
  intro v9 u9 hv9
  obtain ⟨k, L1, rfl, rfl, h⟩ := hv9
  refine ⟨fun q => absurd q (Nat.lt_irrefl _), ?_⟩
  show V G (YL PL9) 794 _ (.int k :: _) _ _ _ _ _
  refine v_istore (pc' := 796) 13 rfl rfl (by decide) rfl ?_
  refine v_aload_n (pc' := 797) 14 3 rfl rfl rfl rfl ?_
  refine v_arg (pc' := 803) (j := 1) (o := 1) 15 rfl rfl rfl rfl rfl rfl rfl rfl (by decide) (by decide) h6 hL ?_
  refine v_arg (pc' := 809) (j := 2) (o := 1) 20 rfl rfl rfl rfl rfl rfl rfl rfl (by decide) (by decide) h6 hL ?_
  refine v_cV (Y2 := Y_X9_quietFrom) (As := [.int (AR G n 1), .int (AR G n 2)]) (b := 436) (pc' := 812) (c1 := c0 + 2) (s1 := s0 + 12) 25 rfl rfl mf_X9_quietFrom rfl rfl ml_L_153 mi_X9_quietFrom se_X9_quietFrom (ci := 8) rfl ly_436 (lay_lt ly_436 (by decide)) rfl (Nat.le_of_ble_eq_true rfl) ⟨show c0 + 2 + 0 ≤ 601024 by omega, show s0 + 12 + 0 ≤ 7293034 by omega⟩ rfl rfl (ok_X9_quietFrom _ _ _ _ h) (fun _ _ q => q.elim) ?_
  intro v9 u9 hv9
  obtain ⟨r, I2, L2, rfl, rfl, h⟩ := hv9
  refine ⟨fun q => absurd q (Nat.lt_irrefl _), ?_⟩
  show V G (YL PL9) 812 _ (.int r :: _) _ _ _ _ _
  refine v_istore (pc' := 814) 26 rfl rfl (by decide) rfl ?_
  refine v_aload_n (pc' := 815) 27 4 rfl rfl rfl rfl ?_
  refine v_cV (Y2 := Y_X9_thrown) (As := []) (b := 436) (pc' := 818) (c1 := c0 + 2) (s1 := s0 + 12) 28 rfl rfl mf_X9_thrown rfl rfl ml_L_123 mi_X9_thrown se_X9_thrown (ci := 8) rfl ly_436 (lay_lt ly_436 (by decide)) rfl (Nat.le_of_ble_eq_true rfl) ⟨show c0 + 2 + 0 ≤ 601024 by omega, show s0 + 12 + 0 ≤ 7293034 by omega⟩ rfl rfl (ok_X9_thrown _ _ (show W_X9_thrown _ _ (fun r => r = _) from rfl)) (fun _ _ q => q.elim) ?_
  intro v9 u9 hv9
  obtain ⟨w, rfl, rfl, hw⟩ := hv9
  refine ⟨fun q => absurd q (Nat.lt_irrefl _), ?_⟩
  show V G (YL PL9) 818 _ (.int w :: _) _ _ _ _ _
  refine v_iload (pc' := 820) 29 1 rfl rfl rfl ?_
  obtain ⟨X2, h⟩ := h
  refine v_icmp_eq (tgt := 825) (pc' := 823) 30 rfl rfl (by decide) (fun _ => ?_) (fun q => absurd (hw.trans h.1) q)
  refine v_iload (pc' := 827) 33 1 rfl rfl rfl ?_
  refine v_if_ne (tgt := 842) (pc' := 830) 34 rfl rfl (by decide) (fun _ => v_goto (tgt := 2520) 44 rfl (by decide) (V.sub [2, 3, 4, 5, 6] rfl (V.widen (c1 := c0 + 3) (s1 := s0 + 18) (by omega) (by omega) (fun q => absurd q (Nat.lt_irrefl _)) (vw (P' := []) rfl (kk _ _ _ _ _ _ ht (h.2.2.mono (by omega))))))) (fun hk => ?_)
  refine v_aload_n (pc' := 831) 35 3 rfl rfl rfl rfl ?_
  refine v_iconst (v := 0) (pc' := 832) 36 rfl rfl (by decide) ?_
  refine v_lald (i := 0) (j := 0) (pc' := 833) 37 rfl rfl ly_456 ln_456 (lay_lt ly_456 (by decide)) (vp_lit (by decide)) (by decide) ?_
  refine v_iload (pc' := 835) 38 0 rfl rfl rfl ?_
  refine v_i2l (pc' := 836) 39 rfl rfl ?_
  refine v_lcmp (pc' := 837) 40 rfl rfl ?_
  exact v_if_eq (tgt := 842) (pc' := 840) 41 rfl rfl (by decide) (fun _ => v_goto (tgt := 2520) 44 rfl (by decide) (V.sub [2, 3, 4, 5, 6] rfl (V.widen (c1 := c0 + 3) (s1 := s0 + 18) (by omega) (by omega) (fun q => absurd q (Nat.lt_irrefl _)) (vw (P' := []) rfl (kk _ _ _ _ _ _ ht (h.2.2.mono (by omega))))))) (fun q => absurd (lgc_eq.mpr (h.2.1 hk)) q)
def PL10 : List (Nat × Instr × Nat) := [(845, .aload_n 1, 1), (846, .aload_n 0, 1), (847, .iload 4, 2), (849, .iconst 1, 1), (850, .iadd, 1), (851, .iaload, 1), (852, .aload_n 0, 1), (853, .iload 4, 2), (855, .iconst 2, 1), (856, .iadd, 1), (857, .iaload, 1), (858, .aload_n 3, 1), (859, .invokestatic 154, 3), (862, .istore 5, 2), (864, .aload_n 2, 1), (865, .aload_n 0, 1), (866, .iload 4, 2), (868, .iconst 1, 1), (869, .iadd, 1), (870, .iaload, 1), (871, .aload_n 0, 1), (872, .iload 4, 2), (874, .iconst 2, 1), (875, .iadd, 1), (876, .iaload, 1), (877, .invokevirtual 156, 3), (880, .istore 6, 2), (882, .aload_n 2, 1), (883, .invokevirtual 123, 3), (886, .iload 5, 2), (888, .if_icmp .eq 5, 3), (891, .iconst 0, 1), (892, .ireturn, 1), (893, .iload 5, 2), (895, .ifCond .ne 15, 3), (898, .aload_n 3, 1), (899, .iconst 0, 1), (900, .laload, 1), (901, .iload 6, 2), (903, .i2l, 1), (904, .lcmp, 1), (905, .ifCond .eq 5, 3), (908, .iconst 0, 1), (909, .ireturn, 1), (910, .goto 1610, 3)]
theorem isL_10 : PL10.all (okI code) = true := by decide +kernel
set_option maxHeartbeats 4000000 in
set_option maxRecDepth 100000 in
theorem lc_10 {B : Nat} {X : XT} {I : TI} {L : TL} {b d t n c0 s0 : Nat} {Q : Option Value → MU → Prop} {QX : String → MU → Prop} (h6 : 6 * n + 6 ≤ gL G) (hL : gL G ≤ 3072) (hB : 1000000 ≤ B) (hB2 : B < 2 ^ 30) (hc : c0 + 3 ≤ 601024) (hs : s0 + 18 ≤ 7293034) (ht : txOK t) (hI : INV I L b d X B) (kk : LE9 G n B (c0 + 3) (s0 + 18) Q QX) : V G (YL PL10) 845 (Lk n) [] (I, L, RT b d t, 457) c0 s0 Q QX := by
  refine v_aload_n (pc' := 846) 0 3 rfl rfl rfl rfl ?_
  refine v_arg (pc' := 852) (j := 1) (o := 0) 1 rfl rfl rfl rfl rfl rfl rfl rfl (by decide) (by decide) h6 hL ?_
  refine v_arg (pc' := 858) (j := 2) (o := 0) 6 rfl rfl rfl rfl rfl rfl rfl rfl (by decide) (by decide) h6 hL ?_
  refine v_aload_n (pc' := 859) 11 1 rfl rfl rfl rfl ?_
  refine v_cSX (Y2 := Y_L_shortest) (As := [.ref 0, .int (AR G n 1), .int (AR G n 2), .ref 456]) (pc' := 862) (c1 := c0 + 2) (s1 := s0 + 12) 12 rfl rfl mf_L_shortest rfl rfl ml_L_154 ms_L_shortest rfl (Nat.le_of_ble_eq_true rfl) ⟨show c0 + 2 ≤ 601024 by omega, show s0 + 12 ≤ 7293034 by omega⟩ rfl rfl (ok_L_shortest _ _ _ _ _ _ hI.2.2.1.1 hI.2.2.1.2.1 (op_shortest (P := fun k r J M => ∃ X2, OKL k r.toInt64 J M b d X2 B) hI (fun _ _ _ _ h => ⟨_, h⟩))) (fun _ _ q => q.elim) ?_
  intro v9 u9 hv9
  obtain ⟨k, L1, rfl, rfl, h⟩ := hv9
  refine ⟨fun q => absurd q (Nat.lt_irrefl _), ?_⟩
  show V G (YL PL10) 862 _ (.int k :: _) _ _ _ _ _
  refine v_istore (pc' := 864) 13 rfl rfl (by decide) rfl ?_
  refine v_aload_n (pc' := 865) 14 3 rfl rfl rfl rfl ?_
  refine v_arg (pc' := 871) (j := 1) (o := 1) 15 rfl rfl rfl rfl rfl rfl rfl rfl (by decide) (by decide) h6 hL ?_
  refine v_arg (pc' := 877) (j := 2) (o := 1) 20 rfl rfl rfl rfl rfl rfl rfl rfl (by decide) (by decide) h6 hL ?_
  refine v_cV (Y2 := Y_X9_shortest) (As := [.int (AR G n 1), .int (AR G n 2)]) (b := 436) (pc' := 880) (c1 := c0 + 2) (s1 := s0 + 12) 25 rfl rfl mf_X9_shortest rfl rfl ml_L_156 mi_X9_shortest se_X9_shortest (ci := 8) rfl ly_436 (lay_lt ly_436 (by decide)) rfl (Nat.le_of_ble_eq_true rfl) ⟨show c0 + 2 + 0 ≤ 601024 by omega, show s0 + 12 + 0 ≤ 7293034 by omega⟩ rfl rfl (ok_X9_shortest _ _ _ _ h) (fun _ _ q => q.elim) ?_
  intro v9 u9 hv9
  obtain ⟨r, I2, L2, rfl, rfl, h⟩ := hv9
  refine ⟨fun q => absurd q (Nat.lt_irrefl _), ?_⟩
  show V G (YL PL10) 880 _ (.int r :: _) _ _ _ _ _
  refine v_istore (pc' := 882) 26 rfl rfl (by decide) rfl ?_
  refine v_aload_n (pc' := 883) 27 4 rfl rfl rfl rfl ?_
  refine v_cV (Y2 := Y_X9_thrown) (As := []) (b := 436) (pc' := 886) (c1 := c0 + 2) (s1 := s0 + 12) 28 rfl rfl mf_X9_thrown rfl rfl ml_L_123 mi_X9_thrown se_X9_thrown (ci := 8) rfl ly_436 (lay_lt ly_436 (by decide)) rfl (Nat.le_of_ble_eq_true rfl) ⟨show c0 + 2 + 0 ≤ 601024 by omega, show s0 + 12 + 0 ≤ 7293034 by omega⟩ rfl rfl (ok_X9_thrown _ _ (show W_X9_thrown _ _ (fun r => r = _) from rfl)) (fun _ _ q => q.elim) ?_
  intro v9 u9 hv9
  obtain ⟨w, rfl, rfl, hw⟩ := hv9
  refine ⟨fun q => absurd q (Nat.lt_irrefl _), ?_⟩
  show V G (YL PL10) 886 _ (.int w :: _) _ _ _ _ _
  refine v_iload (pc' := 888) 29 1 rfl rfl rfl ?_
  obtain ⟨X2, h⟩ := h
  refine v_icmp_eq (tgt := 893) (pc' := 891) 30 rfl rfl (by decide) (fun _ => ?_) (fun q => absurd (hw.trans h.1) q)
  refine v_iload (pc' := 895) 33 1 rfl rfl rfl ?_
  refine v_if_ne (tgt := 910) (pc' := 898) 34 rfl rfl (by decide) (fun _ => v_goto (tgt := 2520) 44 rfl (by decide) (V.sub [2, 3, 4, 5, 6] rfl (V.widen (c1 := c0 + 3) (s1 := s0 + 18) (by omega) (by omega) (fun q => absurd q (Nat.lt_irrefl _)) (vw (P' := []) rfl (kk _ _ _ _ _ _ ht (h.2.2.mono (by omega))))))) (fun hk => ?_)
  refine v_aload_n (pc' := 899) 35 3 rfl rfl rfl rfl ?_
  refine v_iconst (v := 0) (pc' := 900) 36 rfl rfl (by decide) ?_
  refine v_lald (i := 0) (j := 0) (pc' := 901) 37 rfl rfl ly_456 ln_456 (lay_lt ly_456 (by decide)) (vp_lit (by decide)) (by decide) ?_
  refine v_iload (pc' := 903) 38 0 rfl rfl rfl ?_
  refine v_i2l (pc' := 904) 39 rfl rfl ?_
  refine v_lcmp (pc' := 905) 40 rfl rfl ?_
  exact v_if_eq (tgt := 910) (pc' := 908) 41 rfl rfl (by decide) (fun _ => v_goto (tgt := 2520) 44 rfl (by decide) (V.sub [2, 3, 4, 5, 6] rfl (V.widen (c1 := c0 + 3) (s1 := s0 + 18) (by omega) (by omega) (fun q => absurd q (Nat.lt_irrefl _)) (vw (P' := []) rfl (kk _ _ _ _ _ _ ht (h.2.2.mono (by omega))))))) (fun q => absurd (lgc_eq.mpr (h.2.1 hk)) q)
end LC0
