/-! the law: cases 11 to 21 -/
section LC1
variable {G : GT}
def PL11 : List (Nat × Instr × Nat) := [(913, .aload_n 1, 1), (914, .aload_n 0, 1), (915, .iload 4, 2), (917, .iconst 1, 1), (918, .iadd, 1), (919, .iaload, 1), (920, .aload_n 3, 1), (921, .invokestatic 157, 3), (924, .istore 5, 2), (926, .aload_n 2, 1), (927, .aload_n 0, 1), (928, .iload 4, 2), (930, .iconst 1, 1), (931, .iadd, 1), (932, .iaload, 1), (933, .invokevirtual 159, 3), (936, .istore 6, 2), (938, .aload_n 2, 1), (939, .invokevirtual 123, 3), (942, .iload 5, 2), (944, .if_icmp .eq 5, 3), (947, .iconst 0, 1), (948, .ireturn, 1), (949, .iload 5, 2), (951, .ifCond .ne 15, 3), (954, .aload_n 3, 1), (955, .iconst 0, 1), (956, .laload, 1), (957, .iload 6, 2), (959, .i2l, 1), (960, .lcmp, 1), (961, .ifCond .eq 5, 3), (964, .iconst 0, 1), (965, .ireturn, 1), (966, .goto 1554, 3)]
theorem isL_11 : PL11.all (okI code) = true := by decide +kernel
set_option maxHeartbeats 4000000 in
set_option maxRecDepth 100000 in
theorem lc_11 {B : Nat} {X : XT} {I : TI} {L : TL} {b d t n c0 s0 : Nat} {Q : Option Value → MU → Prop} {QX : String → MU → Prop} (h6 : 6 * n + 6 ≤ gL G) (hL : gL G ≤ 3072) (hB : 1000000 ≤ B) (hB2 : B < 2 ^ 30) (hc : c0 + 3 ≤ 601024) (hs : s0 + 18 ≤ 7293034) (ht : txOK t) (hI : INV I L b d X B) (kk : LE9 G n B (c0 + 3) (s0 + 18) Q QX) : V G (YL PL11) 913 (Lk n) [] (I, L, RT b d t, 457) c0 s0 Q QX := by
  refine v_aload_n (pc' := 914) 0 3 rfl rfl rfl rfl ?_
  refine v_arg (pc' := 920) (j := 1) (o := 0) 1 rfl rfl rfl rfl rfl rfl rfl rfl (by decide) (by decide) h6 hL ?_
  refine v_aload_n (pc' := 921) 6 1 rfl rfl rfl rfl ?_
  refine v_cSX (Y2 := Y_L_wrong) (As := [.ref 0, .int (AR G n 1), .ref 456]) (pc' := 924) (c1 := c0 + 1) (s1 := s0 + 6) 7 rfl rfl mf_L_wrong rfl rfl ml_L_157 ms_L_wrong rfl (Nat.le_of_ble_eq_true rfl) ⟨show c0 + 1 ≤ 601024 by omega, show s0 + 6 ≤ 7293034 by omega⟩ rfl rfl (ok_L_wrong _ _ _ _ _ hI.2.2.1.1 hI.2.2.1.2.1 (op_wrong (P := fun k r J M => ∃ X2, OKL k r.toInt64 J M b d X2 B) hI (fun _ _ _ _ h => ⟨_, h⟩))) (fun _ _ q => q.elim) ?_
  intro v9 u9 hv9
  obtain ⟨k, L1, rfl, rfl, h⟩ := hv9
  refine ⟨fun q => absurd q (Nat.lt_irrefl _), ?_⟩
  show V G (YL PL11) 924 _ (.int k :: _) _ _ _ _ _
  refine v_istore (pc' := 926) 8 rfl rfl (by decide) rfl ?_
  refine v_aload_n (pc' := 927) 9 3 rfl rfl rfl rfl ?_
  refine v_arg (pc' := 933) (j := 1) (o := 1) 10 rfl rfl rfl rfl rfl rfl rfl rfl (by decide) (by decide) h6 hL ?_
  refine v_cV (Y2 := Y_X9_wrong) (As := [.int (AR G n 1)]) (b := 436) (pc' := 936) (c1 := c0 + 1) (s1 := s0 + 6) 15 rfl rfl mf_X9_wrong rfl rfl ml_L_159 mi_X9_wrong se_X9_wrong (ci := 8) rfl ly_436 (lay_lt ly_436 (by decide)) rfl (Nat.le_of_ble_eq_true rfl) ⟨show c0 + 1 + 0 ≤ 601024 by omega, show s0 + 6 + 0 ≤ 7293034 by omega⟩ rfl rfl (ok_X9_wrong _ _ _ h) (fun _ _ q => q.elim) ?_
  intro v9 u9 hv9
  obtain ⟨r, I2, L2, rfl, rfl, h⟩ := hv9
  refine ⟨fun q => absurd q (Nat.lt_irrefl _), ?_⟩
  show V G (YL PL11) 936 _ (.int r :: _) _ _ _ _ _
  refine v_istore (pc' := 938) 16 rfl rfl (by decide) rfl ?_
  refine v_aload_n (pc' := 939) 17 4 rfl rfl rfl rfl ?_
  refine v_cV (Y2 := Y_X9_thrown) (As := []) (b := 436) (pc' := 942) (c1 := c0 + 1) (s1 := s0 + 6) 18 rfl rfl mf_X9_thrown rfl rfl ml_L_123 mi_X9_thrown se_X9_thrown (ci := 8) rfl ly_436 (lay_lt ly_436 (by decide)) rfl (Nat.le_of_ble_eq_true rfl) ⟨show c0 + 1 + 0 ≤ 601024 by omega, show s0 + 6 + 0 ≤ 7293034 by omega⟩ rfl rfl (ok_X9_thrown _ _ (show W_X9_thrown _ _ (fun r => r = _) from rfl)) (fun _ _ q => q.elim) ?_
  intro v9 u9 hv9
  obtain ⟨w, rfl, rfl, hw⟩ := hv9
  refine ⟨fun q => absurd q (Nat.lt_irrefl _), ?_⟩
  show V G (YL PL11) 942 _ (.int w :: _) _ _ _ _ _
  refine v_iload (pc' := 944) 19 1 rfl rfl rfl ?_
  obtain ⟨X2, h⟩ := h
  refine v_icmp_eq (tgt := 949) (pc' := 947) 20 rfl rfl (by decide) (fun _ => ?_) (fun q => absurd (hw.trans h.1) q)
  refine v_iload (pc' := 951) 23 1 rfl rfl rfl ?_
  refine v_if_ne (tgt := 966) (pc' := 954) 24 rfl rfl (by decide) (fun _ => v_goto (tgt := 2520) 34 rfl (by decide) (V.sub [2, 3, 4, 5, 6] rfl (V.widen (c1 := c0 + 3) (s1 := s0 + 18) (by omega) (by omega) (fun q => absurd q (Nat.lt_irrefl _)) (vw (P' := []) rfl (kk _ _ _ _ _ _ ht (h.2.2.mono (by omega))))))) (fun hk => ?_)
  refine v_aload_n (pc' := 955) 25 3 rfl rfl rfl rfl ?_
  refine v_iconst (v := 0) (pc' := 956) 26 rfl rfl (by decide) ?_
  refine v_lald (i := 0) (j := 0) (pc' := 957) 27 rfl rfl ly_456 ln_456 (lay_lt ly_456 (by decide)) (vp_lit (by decide)) (by decide) ?_
  refine v_iload (pc' := 959) 28 0 rfl rfl rfl ?_
  refine v_i2l (pc' := 960) 29 rfl rfl ?_
  refine v_lcmp (pc' := 961) 30 rfl rfl ?_
  exact v_if_eq (tgt := 966) (pc' := 964) 31 rfl rfl (by decide) (fun _ => v_goto (tgt := 2520) 34 rfl (by decide) (V.sub [2, 3, 4, 5, 6] rfl (V.widen (c1 := c0 + 3) (s1 := s0 + 18) (by omega) (by omega) (fun q => absurd q (Nat.lt_irrefl _)) (vw (P' := []) rfl (kk _ _ _ _ _ _ ht (h.2.2.mono (by omega))))))) (fun q => absurd (lgc_eq.mpr (h.2.1 hk)) q)
def PL12 : List (Nat × Instr × Nat) := [(969, .aload_n 1, 1), (970, .aload_n 0, 1), (971, .iload 4, 2), (973, .iconst 1, 1), (974, .iadd, 1), (975, .iaload, 1), (976, .aload_n 3, 1), (977, .invokestatic 160, 3), (980, .istore 5, 2), (982, .aload_n 2, 1), (983, .aload_n 0, 1), (984, .iload 4, 2), (986, .iconst 1, 1), (987, .iadd, 1), (988, .iaload, 1), (989, .invokevirtual 162, 3), (992, .istore 6, 2), (994, .aload_n 2, 1), (995, .invokevirtual 123, 3), (998, .iload 5, 2), (1000, .if_icmp .eq 5, 3), (1003, .iconst 0, 1), (1004, .ireturn, 1), (1005, .iload 5, 2), (1007, .ifCond .ne 15, 3), (1010, .aload_n 3, 1), (1011, .iconst 0, 1), (1012, .laload, 1), (1013, .iload 6, 2), (1015, .i2l, 1), (1016, .lcmp, 1), (1017, .ifCond .eq 5, 3), (1020, .iconst 0, 1), (1021, .ireturn, 1), (1022, .goto 1498, 3)]
theorem isL_12 : PL12.all (okI code) = true := by decide +kernel
set_option maxHeartbeats 4000000 in
set_option maxRecDepth 100000 in
theorem lc_12 {B : Nat} {X : XT} {I : TI} {L : TL} {b d t n c0 s0 : Nat} {Q : Option Value → MU → Prop} {QX : String → MU → Prop} (h6 : 6 * n + 6 ≤ gL G) (hL : gL G ≤ 3072) (hB : 1000000 ≤ B) (hB2 : B < 2 ^ 30) (hc : c0 + 3 ≤ 601024) (hs : s0 + 18 ≤ 7293034) (ht : txOK t) (hI : INV I L b d X B) (kk : LE9 G n B (c0 + 3) (s0 + 18) Q QX) : V G (YL PL12) 969 (Lk n) [] (I, L, RT b d t, 457) c0 s0 Q QX := by
  refine v_aload_n (pc' := 970) 0 3 rfl rfl rfl rfl ?_
  refine v_arg (pc' := 976) (j := 1) (o := 0) 1 rfl rfl rfl rfl rfl rfl rfl rfl (by decide) (by decide) h6 hL ?_
  refine v_aload_n (pc' := 977) 6 1 rfl rfl rfl rfl ?_
  refine v_cSX (Y2 := Y_L_firstWrong) (As := [.ref 0, .int (AR G n 1), .ref 456]) (pc' := 980) (c1 := c0 + 1) (s1 := s0 + 6) 7 rfl rfl mf_L_firstWrong rfl rfl ml_L_160 ms_L_firstWrong rfl (Nat.le_of_ble_eq_true rfl) ⟨show c0 + 1 ≤ 601024 by omega, show s0 + 6 ≤ 7293034 by omega⟩ rfl rfl (ok_L_firstWrong _ _ _ _ _ hI.2.2.1.1 hI.2.2.1.2.1 (op_firstWrong (P := fun k r J M => ∃ X2, OKL k r.toInt64 J M b d X2 B) hI (fun _ _ _ _ h => ⟨_, h⟩))) (fun _ _ q => q.elim) ?_
  intro v9 u9 hv9
  obtain ⟨k, L1, rfl, rfl, h⟩ := hv9
  refine ⟨fun q => absurd q (Nat.lt_irrefl _), ?_⟩
  show V G (YL PL12) 980 _ (.int k :: _) _ _ _ _ _
  refine v_istore (pc' := 982) 8 rfl rfl (by decide) rfl ?_
  refine v_aload_n (pc' := 983) 9 3 rfl rfl rfl rfl ?_
  refine v_arg (pc' := 989) (j := 1) (o := 1) 10 rfl rfl rfl rfl rfl rfl rfl rfl (by decide) (by decide) h6 hL ?_
  refine v_cV (Y2 := Y_X9_firstWrong) (As := [.int (AR G n 1)]) (b := 436) (pc' := 992) (c1 := c0 + 1) (s1 := s0 + 6) 15 rfl rfl mf_X9_firstWrong rfl rfl ml_L_162 mi_X9_firstWrong se_X9_firstWrong (ci := 8) rfl ly_436 (lay_lt ly_436 (by decide)) rfl (Nat.le_of_ble_eq_true rfl) ⟨show c0 + 1 + 0 ≤ 601024 by omega, show s0 + 6 + 0 ≤ 7293034 by omega⟩ rfl rfl (ok_X9_firstWrong _ _ _ h) (fun _ _ q => q.elim) ?_
  intro v9 u9 hv9
  obtain ⟨r, I2, L2, rfl, rfl, h⟩ := hv9
  refine ⟨fun q => absurd q (Nat.lt_irrefl _), ?_⟩
  show V G (YL PL12) 992 _ (.int r :: _) _ _ _ _ _
  refine v_istore (pc' := 994) 16 rfl rfl (by decide) rfl ?_
  refine v_aload_n (pc' := 995) 17 4 rfl rfl rfl rfl ?_
  refine v_cV (Y2 := Y_X9_thrown) (As := []) (b := 436) (pc' := 998) (c1 := c0 + 1) (s1 := s0 + 6) 18 rfl rfl mf_X9_thrown rfl rfl ml_L_123 mi_X9_thrown se_X9_thrown (ci := 8) rfl ly_436 (lay_lt ly_436 (by decide)) rfl (Nat.le_of_ble_eq_true rfl) ⟨show c0 + 1 + 0 ≤ 601024 by omega, show s0 + 6 + 0 ≤ 7293034 by omega⟩ rfl rfl (ok_X9_thrown _ _ (show W_X9_thrown _ _ (fun r => r = _) from rfl)) (fun _ _ q => q.elim) ?_
  intro v9 u9 hv9
  obtain ⟨w, rfl, rfl, hw⟩ := hv9
  refine ⟨fun q => absurd q (Nat.lt_irrefl _), ?_⟩
  show V G (YL PL12) 998 _ (.int w :: _) _ _ _ _ _
  refine v_iload (pc' := 1000) 19 1 rfl rfl rfl ?_
  obtain ⟨X2, h⟩ := h
  refine v_icmp_eq (tgt := 1005) (pc' := 1003) 20 rfl rfl (by decide) (fun _ => ?_) (fun q => absurd (hw.trans h.1) q)
  refine v_iload (pc' := 1007) 23 1 rfl rfl rfl ?_
  refine v_if_ne (tgt := 1022) (pc' := 1010) 24 rfl rfl (by decide) (fun _ => v_goto (tgt := 2520) 34 rfl (by decide) (V.sub [2, 3, 4, 5, 6] rfl (V.widen (c1 := c0 + 3) (s1 := s0 + 18) (by omega) (by omega) (fun q => absurd q (Nat.lt_irrefl _)) (vw (P' := []) rfl (kk _ _ _ _ _ _ ht (h.2.2.mono (by omega))))))) (fun hk => ?_)
  refine v_aload_n (pc' := 1011) 25 3 rfl rfl rfl rfl ?_
  refine v_iconst (v := 0) (pc' := 1012) 26 rfl rfl (by decide) ?_
  refine v_lald (i := 0) (j := 0) (pc' := 1013) 27 rfl rfl ly_456 ln_456 (lay_lt ly_456 (by decide)) (vp_lit (by decide)) (by decide) ?_
  refine v_iload (pc' := 1015) 28 0 rfl rfl rfl ?_
  refine v_i2l (pc' := 1016) 29 rfl rfl ?_
  refine v_lcmp (pc' := 1017) 30 rfl rfl ?_
  exact v_if_eq (tgt := 1022) (pc' := 1020) 31 rfl rfl (by decide) (fun _ => v_goto (tgt := 2520) 34 rfl (by decide) (V.sub [2, 3, 4, 5, 6] rfl (V.widen (c1 := c0 + 3) (s1 := s0 + 18) (by omega) (by omega) (fun q => absurd q (Nat.lt_irrefl _)) (vw (P' := []) rfl (kk _ _ _ _ _ _ ht (h.2.2.mono (by omega))))))) (fun q => absurd (lgc_eq.mpr (h.2.1 hk)) q)
def PL13 : List (Nat × Instr × Nat) := [(1025, .aload_n 1, 1), (1026, .invokevirtual 163, 3), (1029, .aload_n 2, 1), (1030, .invokevirtual 166, 3), (1033, .if_icmp .eq 1487, 3), (1036, .iconst 0, 1), (1037, .ireturn, 1)]
theorem isL_13 : PL13.all (okI code) = true := by decide +kernel
set_option maxHeartbeats 4000000 in
set_option maxRecDepth 100000 in
theorem lc_13 {B : Nat} {X : XT} {I : TI} {L : TL} {b d t n c0 s0 : Nat} {Q : Option Value → MU → Prop} {QX : String → MU → Prop} (h6 : 6 * n + 6 ≤ gL G) (hL : gL G ≤ 3072) (hB : 1000000 ≤ B) (hB2 : B < 2 ^ 30) (hc : c0 + 3 ≤ 601024) (hs : s0 + 18 ≤ 7293034) (ht : txOK t) (hI : INV I L b d X B) (kk : LE9 G n B (c0 + 3) (s0 + 18) Q QX) : V G (YL PL13) 1025 (Lk n) [] (I, L, RT b d t, 457) c0 s0 Q QX := by
  refine v_aload_n (pc' := 1026) 0 3 rfl rfl rfl rfl ?_
  refine v_cV (Y2 := Y_X8_allWrong) (As := []) (b := 0) (pc' := 1029) (c1 := c0) (s1 := s0) 1 rfl rfl mf_X8_allWrong rfl rfl ml_L_163 mi_X8_allWrong se_X8_allWrong (ci := 7) rfl ly_0 (lay_lt ly_0 (by decide)) rfl (Nat.le_of_ble_eq_true rfl) ⟨show c0 + 0 ≤ 601024 by omega, show s0 + 0 ≤ 7293034 by omega⟩ rfl rfl (ok_X8_allWrong _ _ _ _ hI.2.2.1.1 hI.2.2.1.2.1 (op_allWrong (P := fun r r2 J M => r2 = r ∧ ∃ X2, INV J M b d X2 B) hI (fun _ _ _ h => ⟨rfl, _, h⟩))) (fun _ _ q => q.elim) ?_
  intro v9 u9 hv9
  obtain ⟨k, rfl, rfl, h⟩ := hv9
  refine ⟨fun q => absurd q (Nat.lt_irrefl _), ?_⟩
  show V G (YL PL13) 1029 _ (.int k :: _) _ _ _ _ _
  refine v_aload_n (pc' := 1030) 2 2 rfl rfl rfl rfl ?_
  refine v_cV (Y2 := Y_X9_allWrong) (As := []) (b := 436) (pc' := 1033) (c1 := c0) (s1 := s0) 3 rfl rfl mf_X9_allWrong rfl rfl ml_L_166 mi_X9_allWrong se_X9_allWrong (ci := 8) rfl ly_436 (lay_lt ly_436 (by decide)) rfl (Nat.le_of_ble_eq_true rfl) ⟨show c0 + 0 ≤ 601024 by omega, show s0 + 0 ≤ 7293034 by omega⟩ rfl rfl (ok_X9_allWrong _ _ h) (fun _ _ q => q.elim) ?_
  intro v9 u9 hv9
  obtain ⟨r, I2, L2, rfl, rfl, h⟩ := hv9
  refine ⟨fun q => absurd q (Nat.lt_irrefl _), ?_⟩
  show V G (YL PL13) 1033 _ (.int r :: _) _ _ _ _ _
  obtain ⟨rfl, X2, h⟩ := h
  refine v_icmp_eq (tgt := 2520) (pc' := 1036) 4 rfl rfl (by decide) (fun _ => ?_) (fun q => absurd rfl q)
  exact V.widen (c1 := c0 + 3) (s1 := s0 + 18) (by omega) (by omega) (fun q => absurd q (Nat.lt_irrefl _)) (vw (P' := []) rfl (kk _ _ _ _ _ _ ht (h.mono (by omega))))
def PL14 : List (Nat × Instr × Nat) := [(1038, .aload_n 1, 1), (1039, .invokevirtual 167, 3), (1042, .aload_n 2, 1), (1043, .invokevirtual 170, 3), (1046, .if_icmp .eq 1474, 3), (1049, .iconst 0, 1), (1050, .ireturn, 1)]
theorem isL_14 : PL14.all (okI code) = true := by decide +kernel
set_option maxHeartbeats 4000000 in
set_option maxRecDepth 100000 in
theorem lc_14 {B : Nat} {X : XT} {I : TI} {L : TL} {b d t n c0 s0 : Nat} {Q : Option Value → MU → Prop} {QX : String → MU → Prop} (h6 : 6 * n + 6 ≤ gL G) (hL : gL G ≤ 3072) (hB : 1000000 ≤ B) (hB2 : B < 2 ^ 30) (hc : c0 + 3 ≤ 601024) (hs : s0 + 18 ≤ 7293034) (ht : txOK t) (hI : INV I L b d X B) (kk : LE9 G n B (c0 + 3) (s0 + 18) Q QX) : V G (YL PL14) 1038 (Lk n) [] (I, L, RT b d t, 457) c0 s0 Q QX := by
  refine v_aload_n (pc' := 1039) 0 3 rfl rfl rfl rfl ?_
  refine v_cV (Y2 := Y_X8_worst) (As := []) (b := 0) (pc' := 1042) (c1 := c0) (s1 := s0) 1 rfl rfl mf_X8_worst rfl rfl ml_L_167 mi_X8_worst se_X8_worst (ci := 7) rfl ly_0 (lay_lt ly_0 (by decide)) rfl (Nat.le_of_ble_eq_true rfl) ⟨show c0 + 0 ≤ 601024 by omega, show s0 + 0 ≤ 7293034 by omega⟩ rfl rfl (ok_X8_worst _ _ _ _ hI.2.2.1.1 hI.2.2.1.2.1 (op_worst (P := fun r r2 J M => r2 = r ∧ ∃ X2, INV J M b d X2 B) hI (fun _ _ _ h => ⟨rfl, _, h⟩))) (fun _ _ q => q.elim) ?_
  intro v9 u9 hv9
  obtain ⟨k, rfl, rfl, h⟩ := hv9
  refine ⟨fun q => absurd q (Nat.lt_irrefl _), ?_⟩
  show V G (YL PL14) 1042 _ (.int k :: _) _ _ _ _ _
  refine v_aload_n (pc' := 1043) 2 2 rfl rfl rfl rfl ?_
  refine v_cV (Y2 := Y_X9_worst) (As := []) (b := 436) (pc' := 1046) (c1 := c0) (s1 := s0) 3 rfl rfl mf_X9_worst rfl rfl ml_L_170 mi_X9_worst se_X9_worst (ci := 8) rfl ly_436 (lay_lt ly_436 (by decide)) rfl (Nat.le_of_ble_eq_true rfl) ⟨show c0 + 0 ≤ 601024 by omega, show s0 + 0 ≤ 7293034 by omega⟩ rfl rfl (ok_X9_worst _ _ h) (fun _ _ q => q.elim) ?_
  intro v9 u9 hv9
  obtain ⟨r, I2, L2, rfl, rfl, h⟩ := hv9
  refine ⟨fun q => absurd q (Nat.lt_irrefl _), ?_⟩
  show V G (YL PL14) 1046 _ (.int r :: _) _ _ _ _ _
  obtain ⟨rfl, X2, h⟩ := h
  refine v_icmp_eq (tgt := 2520) (pc' := 1049) 4 rfl rfl (by decide) (fun _ => ?_) (fun q => absurd rfl q)
  exact V.widen (c1 := c0 + 3) (s1 := s0 + 18) (by omega) (by omega) (fun q => absurd q (Nat.lt_irrefl _)) (vw (P' := []) rfl (kk _ _ _ _ _ _ ht (h.mono (by omega))))
def PL15 : List (Nat × Instr × Nat) := [(1051, .aload_n 1, 1), (1052, .aload_n 0, 1), (1053, .iload 4, 2), (1055, .iconst 1, 1), (1056, .iadd, 1), (1057, .iaload, 1), (1058, .aload_n 3, 1), (1059, .invokestatic 171, 3), (1062, .istore 5, 2), (1064, .aload_n 2, 1), (1065, .aload_n 0, 1), (1066, .iload 4, 2), (1068, .iconst 1, 1), (1069, .iadd, 1), (1070, .iaload, 1), (1071, .invokevirtual 173, 3), (1074, .istore 6, 2), (1076, .aload_n 2, 1), (1077, .invokevirtual 123, 3), (1080, .iload 5, 2), (1082, .if_icmp .eq 5, 3), (1085, .iconst 0, 1), (1086, .ireturn, 1), (1087, .iload 5, 2), (1089, .ifCond .ne 15, 3), (1092, .aload_n 3, 1), (1093, .iconst 0, 1), (1094, .laload, 1), (1095, .iload 6, 2), (1097, .i2l, 1), (1098, .lcmp, 1), (1099, .ifCond .eq 5, 3), (1102, .iconst 0, 1), (1103, .ireturn, 1), (1104, .goto 1416, 3)]
theorem isL_15 : PL15.all (okI code) = true := by decide +kernel
set_option maxHeartbeats 4000000 in
set_option maxRecDepth 100000 in
theorem lc_15 {B : Nat} {X : XT} {I : TI} {L : TL} {b d t n c0 s0 : Nat} {Q : Option Value → MU → Prop} {QX : String → MU → Prop} (h6 : 6 * n + 6 ≤ gL G) (hL : gL G ≤ 3072) (hB : 1000000 ≤ B) (hB2 : B < 2 ^ 30) (hc : c0 + 3 ≤ 601024) (hs : s0 + 18 ≤ 7293034) (ht : txOK t) (hI : INV I L b d X B) (kk : LE9 G n B (c0 + 3) (s0 + 18) Q QX) : V G (YL PL15) 1051 (Lk n) [] (I, L, RT b d t, 457) c0 s0 Q QX := by
  refine v_aload_n (pc' := 1052) 0 3 rfl rfl rfl rfl ?_
  refine v_arg (pc' := 1058) (j := 1) (o := 0) 1 rfl rfl rfl rfl rfl rfl rfl rfl (by decide) (by decide) h6 hL ?_
  refine v_aload_n (pc' := 1059) 6 1 rfl rfl rfl rfl ?_
  refine v_cSX (Y2 := Y_L_dependsOn) (As := [.ref 0, .int (AR G n 1), .ref 456]) (pc' := 1062) (c1 := c0 + 1) (s1 := s0 + 6) 7 rfl rfl mf_L_dependsOn rfl rfl ml_L_171 ms_L_dependsOn rfl (Nat.le_of_ble_eq_true rfl) ⟨show c0 + 1 ≤ 601024 by omega, show s0 + 6 ≤ 7293034 by omega⟩ rfl rfl (ok_L_dependsOn _ _ _ _ _ hI.2.2.1.1 hI.2.2.1.2.1 (op_dependsOn (P := fun k r J M => ∃ X2, OKL k r.toInt64 J M b d X2 B) hI (fun _ _ _ _ h => ⟨_, h⟩))) (fun _ _ q => q.elim) ?_
  intro v9 u9 hv9
  obtain ⟨k, L1, rfl, rfl, h⟩ := hv9
  refine ⟨fun q => absurd q (Nat.lt_irrefl _), ?_⟩
  show V G (YL PL15) 1062 _ (.int k :: _) _ _ _ _ _
  refine v_istore (pc' := 1064) 8 rfl rfl (by decide) rfl ?_
  refine v_aload_n (pc' := 1065) 9 3 rfl rfl rfl rfl ?_
  refine v_arg (pc' := 1071) (j := 1) (o := 1) 10 rfl rfl rfl rfl rfl rfl rfl rfl (by decide) (by decide) h6 hL ?_
  refine v_cV (Y2 := Y_X9_dependsOn) (As := [.int (AR G n 1)]) (b := 436) (pc' := 1074) (c1 := c0 + 1) (s1 := s0 + 6) 15 rfl rfl mf_X9_dependsOn rfl rfl ml_L_173 mi_X9_dependsOn se_X9_dependsOn (ci := 8) rfl ly_436 (lay_lt ly_436 (by decide)) rfl (Nat.le_of_ble_eq_true rfl) ⟨show c0 + 1 + 0 ≤ 601024 by omega, show s0 + 6 + 0 ≤ 7293034 by omega⟩ rfl rfl (ok_X9_dependsOn _ _ _ h) (fun _ _ q => q.elim) ?_
  intro v9 u9 hv9
  obtain ⟨r, I2, rfl, rfl, h⟩ := hv9
  refine ⟨fun q => absurd q (Nat.lt_irrefl _), ?_⟩
  show V G (YL PL15) 1074 _ (.int r :: _) _ _ _ _ _
  refine v_istore (pc' := 1076) 16 rfl rfl (by decide) rfl ?_
  refine v_aload_n (pc' := 1077) 17 4 rfl rfl rfl rfl ?_
  refine v_cV (Y2 := Y_X9_thrown) (As := []) (b := 436) (pc' := 1080) (c1 := c0 + 1) (s1 := s0 + 6) 18 rfl rfl mf_X9_thrown rfl rfl ml_L_123 mi_X9_thrown se_X9_thrown (ci := 8) rfl ly_436 (lay_lt ly_436 (by decide)) rfl (Nat.le_of_ble_eq_true rfl) ⟨show c0 + 1 + 0 ≤ 601024 by omega, show s0 + 6 + 0 ≤ 7293034 by omega⟩ rfl rfl (ok_X9_thrown _ _ (show W_X9_thrown _ _ (fun r => r = _) from rfl)) (fun _ _ q => q.elim) ?_
  intro v9 u9 hv9
  obtain ⟨w, rfl, rfl, hw⟩ := hv9
  refine ⟨fun q => absurd q (Nat.lt_irrefl _), ?_⟩
  show V G (YL PL15) 1080 _ (.int w :: _) _ _ _ _ _
  refine v_iload (pc' := 1082) 19 1 rfl rfl rfl ?_
  obtain ⟨X2, h⟩ := h
  refine v_icmp_eq (tgt := 1087) (pc' := 1085) 20 rfl rfl (by decide) (fun _ => ?_) (fun q => absurd (hw.trans h.1) q)
  refine v_iload (pc' := 1089) 23 1 rfl rfl rfl ?_
  refine v_if_ne (tgt := 1104) (pc' := 1092) 24 rfl rfl (by decide) (fun _ => v_goto (tgt := 2520) 34 rfl (by decide) (V.sub [2, 3, 4, 5, 6] rfl (V.widen (c1 := c0 + 3) (s1 := s0 + 18) (by omega) (by omega) (fun q => absurd q (Nat.lt_irrefl _)) (vw (P' := []) rfl (kk _ _ _ _ _ _ ht (h.2.2.mono (by omega))))))) (fun hk => ?_)
  refine v_aload_n (pc' := 1093) 25 3 rfl rfl rfl rfl ?_
  refine v_iconst (v := 0) (pc' := 1094) 26 rfl rfl (by decide) ?_
  refine v_lald (i := 0) (j := 0) (pc' := 1095) 27 rfl rfl ly_456 ln_456 (lay_lt ly_456 (by decide)) (vp_lit (by decide)) (by decide) ?_
  refine v_iload (pc' := 1097) 28 0 rfl rfl rfl ?_
  refine v_i2l (pc' := 1098) 29 rfl rfl ?_
  refine v_lcmp (pc' := 1099) 30 rfl rfl ?_
  exact v_if_eq (tgt := 1104) (pc' := 1102) 31 rfl rfl (by decide) (fun _ => v_goto (tgt := 2520) 34 rfl (by decide) (V.sub [2, 3, 4, 5, 6] rfl (V.widen (c1 := c0 + 3) (s1 := s0 + 18) (by omega) (by omega) (fun q => absurd q (Nat.lt_irrefl _)) (vw (P' := []) rfl (kk _ _ _ _ _ _ ht (h.2.2.mono (by omega))))))) (fun q => absurd (lgc_eq.mpr (h.2.1 hk)) q)
def PL16 : List (Nat × Instr × Nat) := [(1107, .aload_n 1, 1), (1108, .aload_n 0, 1), (1109, .iload 4, 2), (1111, .iconst 1, 1), (1112, .iadd, 1), (1113, .iaload, 1), (1114, .aload_n 3, 1), (1115, .invokestatic 174, 3), (1118, .istore 5, 2), (1120, .aload_n 2, 1), (1121, .aload_n 0, 1), (1122, .iload 4, 2), (1124, .iconst 1, 1), (1125, .iadd, 1), (1126, .iaload, 1), (1127, .invokevirtual 176, 3), (1130, .istore 6, 2), (1132, .aload_n 2, 1), (1133, .invokevirtual 123, 3), (1136, .iload 5, 2), (1138, .if_icmp .eq 5, 3), (1141, .iconst 0, 1), (1142, .ireturn, 1), (1143, .iload 5, 2), (1145, .ifCond .ne 15, 3), (1148, .aload_n 3, 1), (1149, .iconst 0, 1), (1150, .laload, 1), (1151, .iload 6, 2), (1153, .i2l, 1), (1154, .lcmp, 1), (1155, .ifCond .eq 5, 3), (1158, .iconst 0, 1), (1159, .ireturn, 1), (1160, .goto 1360, 3)]
theorem isL_16 : PL16.all (okI code) = true := by decide +kernel
set_option maxHeartbeats 4000000 in
set_option maxRecDepth 100000 in
theorem lc_16 {B : Nat} {X : XT} {I : TI} {L : TL} {b d t n c0 s0 : Nat} {Q : Option Value → MU → Prop} {QX : String → MU → Prop} (h6 : 6 * n + 6 ≤ gL G) (hL : gL G ≤ 3072) (hB : 1000000 ≤ B) (hB2 : B < 2 ^ 30) (hc : c0 + 3 ≤ 601024) (hs : s0 + 18 ≤ 7293034) (ht : txOK t) (hI : INV I L b d X B) (kk : LE9 G n B (c0 + 3) (s0 + 18) Q QX) : V G (YL PL16) 1107 (Lk n) [] (I, L, RT b d t, 457) c0 s0 Q QX := by
  refine v_aload_n (pc' := 1108) 0 3 rfl rfl rfl rfl ?_
  refine v_arg (pc' := 1114) (j := 1) (o := 0) 1 rfl rfl rfl rfl rfl rfl rfl rfl (by decide) (by decide) h6 hL ?_
  refine v_aload_n (pc' := 1115) 6 1 rfl rfl rfl rfl ?_
  refine v_cSX (Y2 := Y_L_touches) (As := [.ref 0, .int (AR G n 1), .ref 456]) (pc' := 1118) (c1 := c0 + 1) (s1 := s0 + 6) 7 rfl rfl mf_L_touches rfl rfl ml_L_174 ms_L_touches rfl (Nat.le_of_ble_eq_true rfl) ⟨show c0 + 1 ≤ 601024 by omega, show s0 + 6 ≤ 7293034 by omega⟩ rfl rfl (ok_L_touches _ _ _ _ _ hI.2.2.1.1 hI.2.2.1.2.1 (op_touches (P := fun k r J M => ∃ X2, OKL k r.toInt64 J M b d X2 B) hI (fun _ _ _ _ h => ⟨_, h⟩))) (fun _ _ q => q.elim) ?_
  intro v9 u9 hv9
  obtain ⟨k, L1, rfl, rfl, h⟩ := hv9
  refine ⟨fun q => absurd q (Nat.lt_irrefl _), ?_⟩
  show V G (YL PL16) 1118 _ (.int k :: _) _ _ _ _ _
  refine v_istore (pc' := 1120) 8 rfl rfl (by decide) rfl ?_
  refine v_aload_n (pc' := 1121) 9 3 rfl rfl rfl rfl ?_
  refine v_arg (pc' := 1127) (j := 1) (o := 1) 10 rfl rfl rfl rfl rfl rfl rfl rfl (by decide) (by decide) h6 hL ?_
  refine v_cV (Y2 := Y_X9_touches) (As := [.int (AR G n 1)]) (b := 436) (pc' := 1130) (c1 := c0 + 1) (s1 := s0 + 6) 15 rfl rfl mf_X9_touches rfl rfl ml_L_176 mi_X9_touches se_X9_touches (ci := 8) rfl ly_436 (lay_lt ly_436 (by decide)) rfl (Nat.le_of_ble_eq_true rfl) ⟨show c0 + 1 + 0 ≤ 601024 by omega, show s0 + 6 + 0 ≤ 7293034 by omega⟩ rfl rfl (ok_X9_touches _ _ _ h) (fun _ _ q => q.elim) ?_
  intro v9 u9 hv9
  obtain ⟨r, I2, rfl, rfl, h⟩ := hv9
  refine ⟨fun q => absurd q (Nat.lt_irrefl _), ?_⟩
  show V G (YL PL16) 1130 _ (.int r :: _) _ _ _ _ _
  refine v_istore (pc' := 1132) 16 rfl rfl (by decide) rfl ?_
  refine v_aload_n (pc' := 1133) 17 4 rfl rfl rfl rfl ?_
  refine v_cV (Y2 := Y_X9_thrown) (As := []) (b := 436) (pc' := 1136) (c1 := c0 + 1) (s1 := s0 + 6) 18 rfl rfl mf_X9_thrown rfl rfl ml_L_123 mi_X9_thrown se_X9_thrown (ci := 8) rfl ly_436 (lay_lt ly_436 (by decide)) rfl (Nat.le_of_ble_eq_true rfl) ⟨show c0 + 1 + 0 ≤ 601024 by omega, show s0 + 6 + 0 ≤ 7293034 by omega⟩ rfl rfl (ok_X9_thrown _ _ (show W_X9_thrown _ _ (fun r => r = _) from rfl)) (fun _ _ q => q.elim) ?_
  intro v9 u9 hv9
  obtain ⟨w, rfl, rfl, hw⟩ := hv9
  refine ⟨fun q => absurd q (Nat.lt_irrefl _), ?_⟩
  show V G (YL PL16) 1136 _ (.int w :: _) _ _ _ _ _
  refine v_iload (pc' := 1138) 19 1 rfl rfl rfl ?_
  obtain ⟨X2, h⟩ := h
  refine v_icmp_eq (tgt := 1143) (pc' := 1141) 20 rfl rfl (by decide) (fun _ => ?_) (fun q => absurd (hw.trans h.1) q)
  refine v_iload (pc' := 1145) 23 1 rfl rfl rfl ?_
  refine v_if_ne (tgt := 1160) (pc' := 1148) 24 rfl rfl (by decide) (fun _ => v_goto (tgt := 2520) 34 rfl (by decide) (V.sub [2, 3, 4, 5, 6] rfl (V.widen (c1 := c0 + 3) (s1 := s0 + 18) (by omega) (by omega) (fun q => absurd q (Nat.lt_irrefl _)) (vw (P' := []) rfl (kk _ _ _ _ _ _ ht (h.2.2.mono (by omega))))))) (fun hk => ?_)
  refine v_aload_n (pc' := 1149) 25 3 rfl rfl rfl rfl ?_
  refine v_iconst (v := 0) (pc' := 1150) 26 rfl rfl (by decide) ?_
  refine v_lald (i := 0) (j := 0) (pc' := 1151) 27 rfl rfl ly_456 ln_456 (lay_lt ly_456 (by decide)) (vp_lit (by decide)) (by decide) ?_
  refine v_iload (pc' := 1153) 28 0 rfl rfl rfl ?_
  refine v_i2l (pc' := 1154) 29 rfl rfl ?_
  refine v_lcmp (pc' := 1155) 30 rfl rfl ?_
  exact v_if_eq (tgt := 1160) (pc' := 1158) 31 rfl rfl (by decide) (fun _ => v_goto (tgt := 2520) 34 rfl (by decide) (V.sub [2, 3, 4, 5, 6] rfl (V.widen (c1 := c0 + 3) (s1 := s0 + 18) (by omega) (by omega) (fun q => absurd q (Nat.lt_irrefl _)) (vw (P' := []) rfl (kk _ _ _ _ _ _ ht (h.2.2.mono (by omega))))))) (fun q => absurd (lgc_eq.mpr (h.2.1 hk)) q)
def PL17 : List (Nat × Instr × Nat) := [(1163, .aload_n 1, 1), (1164, .aload_n 0, 1), (1165, .iload 4, 2), (1167, .iconst 1, 1), (1168, .iadd, 1), (1169, .iaload, 1), (1170, .aload_n 3, 1), (1171, .invokestatic 177, 3), (1174, .istore 5, 2), (1176, .aload_n 2, 1), (1177, .aload_n 0, 1), (1178, .iload 4, 2), (1180, .iconst 1, 1), (1181, .iadd, 1), (1182, .iaload, 1), (1183, .invokevirtual 179, 3), (1186, .istore 6, 2), (1188, .aload_n 2, 1), (1189, .invokevirtual 123, 3), (1192, .iload 5, 2), (1194, .if_icmp .eq 5, 3), (1197, .iconst 0, 1), (1198, .ireturn, 1), (1199, .iload 5, 2), (1201, .ifCond .ne 15, 3), (1204, .aload_n 3, 1), (1205, .iconst 0, 1), (1206, .laload, 1), (1207, .iload 6, 2), (1209, .i2l, 1), (1210, .lcmp, 1), (1211, .ifCond .eq 5, 3), (1214, .iconst 0, 1), (1215, .ireturn, 1), (1216, .goto 1304, 3)]
theorem isL_17 : PL17.all (okI code) = true := by decide +kernel
set_option maxHeartbeats 4000000 in
set_option maxRecDepth 100000 in
theorem lc_17 {B : Nat} {X : XT} {I : TI} {L : TL} {b d t n c0 s0 : Nat} {Q : Option Value → MU → Prop} {QX : String → MU → Prop} (h6 : 6 * n + 6 ≤ gL G) (hL : gL G ≤ 3072) (hB : 1000000 ≤ B) (hB2 : B < 2 ^ 30) (hc : c0 + 3 ≤ 601024) (hs : s0 + 18 ≤ 7293034) (ht : txOK t) (hI : INV I L b d X B) (kk : LE9 G n B (c0 + 3) (s0 + 18) Q QX) : V G (YL PL17) 1163 (Lk n) [] (I, L, RT b d t, 457) c0 s0 Q QX := by
  refine v_aload_n (pc' := 1164) 0 3 rfl rfl rfl rfl ?_
  refine v_arg (pc' := 1170) (j := 1) (o := 0) 1 rfl rfl rfl rfl rfl rfl rfl rfl (by decide) (by decide) h6 hL ?_
  refine v_aload_n (pc' := 1171) 6 1 rfl rfl rfl rfl ?_
  refine v_cSX (Y2 := Y_L_longest) (As := [.ref 0, .int (AR G n 1), .ref 456]) (pc' := 1174) (c1 := c0 + 1) (s1 := s0 + 6) 7 rfl rfl mf_L_longest rfl rfl ml_L_177 ms_L_longest rfl (Nat.le_of_ble_eq_true rfl) ⟨show c0 + 1 ≤ 601024 by omega, show s0 + 6 ≤ 7293034 by omega⟩ rfl rfl (ok_L_longest _ _ _ _ _ hI.2.2.1.1 hI.2.2.1.2.1 (op_longest (P := fun k r J M => ∃ X2, OKL k r.toInt64 J M b d X2 B) hI (fun _ _ _ _ h => ⟨_, h⟩))) (fun _ _ q => q.elim) ?_
  intro v9 u9 hv9
  obtain ⟨k, L1, rfl, rfl, h⟩ := hv9
  refine ⟨fun q => absurd q (Nat.lt_irrefl _), ?_⟩
  show V G (YL PL17) 1174 _ (.int k :: _) _ _ _ _ _
  refine v_istore (pc' := 1176) 8 rfl rfl (by decide) rfl ?_
  refine v_aload_n (pc' := 1177) 9 3 rfl rfl rfl rfl ?_
  refine v_arg (pc' := 1183) (j := 1) (o := 1) 10 rfl rfl rfl rfl rfl rfl rfl rfl (by decide) (by decide) h6 hL ?_
  refine v_cV (Y2 := Y_X9_longest) (As := [.int (AR G n 1)]) (b := 436) (pc' := 1186) (c1 := c0 + 1) (s1 := s0 + 6) 15 rfl rfl mf_X9_longest rfl rfl ml_L_179 mi_X9_longest se_X9_longest (ci := 8) rfl ly_436 (lay_lt ly_436 (by decide)) rfl (Nat.le_of_ble_eq_true rfl) ⟨show c0 + 1 + 0 ≤ 601024 by omega, show s0 + 6 + 0 ≤ 7293034 by omega⟩ rfl rfl (ok_X9_longest _ _ _ h) (fun _ _ q => q.elim) ?_
  intro v9 u9 hv9
  obtain ⟨r, I2, rfl, rfl, h⟩ := hv9
  refine ⟨fun q => absurd q (Nat.lt_irrefl _), ?_⟩
  show V G (YL PL17) 1186 _ (.int r :: _) _ _ _ _ _
  refine v_istore (pc' := 1188) 16 rfl rfl (by decide) rfl ?_
  refine v_aload_n (pc' := 1189) 17 4 rfl rfl rfl rfl ?_
  refine v_cV (Y2 := Y_X9_thrown) (As := []) (b := 436) (pc' := 1192) (c1 := c0 + 1) (s1 := s0 + 6) 18 rfl rfl mf_X9_thrown rfl rfl ml_L_123 mi_X9_thrown se_X9_thrown (ci := 8) rfl ly_436 (lay_lt ly_436 (by decide)) rfl (Nat.le_of_ble_eq_true rfl) ⟨show c0 + 1 + 0 ≤ 601024 by omega, show s0 + 6 + 0 ≤ 7293034 by omega⟩ rfl rfl (ok_X9_thrown _ _ (show W_X9_thrown _ _ (fun r => r = _) from rfl)) (fun _ _ q => q.elim) ?_
  intro v9 u9 hv9
  obtain ⟨w, rfl, rfl, hw⟩ := hv9
  refine ⟨fun q => absurd q (Nat.lt_irrefl _), ?_⟩
  show V G (YL PL17) 1192 _ (.int w :: _) _ _ _ _ _
  refine v_iload (pc' := 1194) 19 1 rfl rfl rfl ?_
  obtain ⟨X2, h⟩ := h
  refine v_icmp_eq (tgt := 1199) (pc' := 1197) 20 rfl rfl (by decide) (fun _ => ?_) (fun q => absurd (hw.trans h.1) q)
  refine v_iload (pc' := 1201) 23 1 rfl rfl rfl ?_
  refine v_if_ne (tgt := 1216) (pc' := 1204) 24 rfl rfl (by decide) (fun _ => v_goto (tgt := 2520) 34 rfl (by decide) (V.sub [2, 3, 4, 5, 6] rfl (V.widen (c1 := c0 + 3) (s1 := s0 + 18) (by omega) (by omega) (fun q => absurd q (Nat.lt_irrefl _)) (vw (P' := []) rfl (kk _ _ _ _ _ _ ht (h.2.2.mono (by omega))))))) (fun hk => ?_)
  refine v_aload_n (pc' := 1205) 25 3 rfl rfl rfl rfl ?_
  refine v_iconst (v := 0) (pc' := 1206) 26 rfl rfl (by decide) ?_
  refine v_lald (i := 0) (j := 0) (pc' := 1207) 27 rfl rfl ly_456 ln_456 (lay_lt ly_456 (by decide)) (vp_lit (by decide)) (by decide) ?_
  refine v_iload (pc' := 1209) 28 0 rfl rfl rfl ?_
  refine v_i2l (pc' := 1210) 29 rfl rfl ?_
  refine v_lcmp (pc' := 1211) 30 rfl rfl ?_
  exact v_if_eq (tgt := 1216) (pc' := 1214) 31 rfl rfl (by decide) (fun _ => v_goto (tgt := 2520) 34 rfl (by decide) (V.sub [2, 3, 4, 5, 6] rfl (V.widen (c1 := c0 + 3) (s1 := s0 + 18) (by omega) (by omega) (fun q => absurd q (Nat.lt_irrefl _)) (vw (P' := []) rfl (kk _ _ _ _ _ _ ht (h.2.2.mono (by omega))))))) (fun q => absurd (lgc_eq.mpr (h.2.1 hk)) q)
def PL18 : List (Nat × Instr × Nat) := [(1219, .aload_n 1, 1), (1220, .aload_n 0, 1), (1221, .iload 4, 2), (1223, .iconst 1, 1), (1224, .iadd, 1), (1225, .iaload, 1), (1226, .aload_n 0, 1), (1227, .iload 4, 2), (1229, .iconst 2, 1), (1230, .iadd, 1), (1231, .iaload, 1), (1232, .aload_n 0, 1), (1233, .iload 4, 2), (1235, .iconst 3, 1), (1236, .iadd, 1), (1237, .iaload, 1), (1238, .aload_n 3, 1), (1239, .invokestatic 180, 3), (1242, .istore 5, 2), (1244, .aload_n 2, 1), (1245, .aload_n 0, 1), (1246, .iload 4, 2), (1248, .iconst 1, 1), (1249, .iadd, 1), (1250, .iaload, 1), (1251, .aload_n 0, 1), (1252, .iload 4, 2), (1254, .iconst 2, 1), (1255, .iadd, 1), (1256, .iaload, 1), (1257, .aload_n 0, 1), (1258, .iload 4, 2), (1260, .iconst 3, 1), (1261, .iadd, 1), (1262, .iaload, 1), (1263, .invokevirtual 182, 3), (1266, .istore 6, 2), (1268, .aload_n 2, 1), (1269, .invokevirtual 123, 3), (1272, .iload 5, 2), (1274, .if_icmp .eq 5, 3), (1277, .iconst 0, 1), (1278, .ireturn, 1), (1279, .iload 5, 2), (1281, .ifCond .ne 15, 3), (1284, .aload_n 3, 1), (1285, .iconst 0, 1), (1286, .laload, 1), (1287, .iload 6, 2), (1289, .i2l, 1), (1290, .lcmp, 1), (1291, .ifCond .eq 5, 3), (1294, .iconst 0, 1), (1295, .ireturn, 1), (1296, .goto 1224, 3)]
theorem isL_18 : PL18.all (okI code) = true := by decide +kernel
set_option maxHeartbeats 4000000 in
set_option maxRecDepth 100000 in
theorem lc_18 {B : Nat} {X : XT} {I : TI} {L : TL} {b d t n c0 s0 : Nat} {Q : Option Value → MU → Prop} {QX : String → MU → Prop} (h6 : 6 * n + 6 ≤ gL G) (hL : gL G ≤ 3072) (hB : 1000000 ≤ B) (hB2 : B < 2 ^ 30) (hc : c0 + 3 ≤ 601024) (hs : s0 + 18 ≤ 7293034) (ht : txOK t) (hI : INV I L b d X B) (kk : LE9 G n B (c0 + 3) (s0 + 18) Q QX) : V G (YL PL18) 1219 (Lk n) [] (I, L, RT b d t, 457) c0 s0 Q QX := by
  refine v_aload_n (pc' := 1220) 0 3 rfl rfl rfl rfl ?_
  refine v_arg (pc' := 1226) (j := 1) (o := 0) 1 rfl rfl rfl rfl rfl rfl rfl rfl (by decide) (by decide) h6 hL ?_
  refine v_arg (pc' := 1232) (j := 2) (o := 0) 6 rfl rfl rfl rfl rfl rfl rfl rfl (by decide) (by decide) h6 hL ?_
  refine v_arg (pc' := 1238) (j := 3) (o := 0) 11 rfl rfl rfl rfl rfl rfl rfl rfl (by decide) (by decide) h6 hL ?_
  refine v_aload_n (pc' := 1239) 16 1 rfl rfl rfl rfl ?_
  refine v_cSX (Y2 := Y_L_pulse) (As := [.ref 0, .int (AR G n 1), .int (AR G n 2), .int (AR G n 3), .ref 456]) (pc' := 1242) (c1 := c0 + 3) (s1 := s0 + 18) 17 rfl rfl mf_L_pulse rfl rfl ml_L_180 ms_L_pulse rfl (Nat.le_of_ble_eq_true rfl) ⟨show c0 + 3 ≤ 601024 by omega, show s0 + 18 ≤ 7293034 by omega⟩ rfl rfl (ok_L_pulse _ _ _ _ _ _ _ hI.2.2.1.1 hI.2.2.1.2.1 (op_pulse (P := fun k r J M => ∃ X2, OKL k r.toInt64 J M b d X2 B) hI (fun _ _ _ _ h => ⟨_, h⟩))) (fun _ _ q => q.elim) ?_
  intro v9 u9 hv9
  obtain ⟨k, L1, rfl, rfl, h⟩ := hv9
  refine ⟨fun q => absurd q (Nat.lt_irrefl _), ?_⟩
  show V G (YL PL18) 1242 _ (.int k :: _) _ _ _ _ _
  refine v_istore (pc' := 1244) 18 rfl rfl (by decide) rfl ?_
  refine v_aload_n (pc' := 1245) 19 3 rfl rfl rfl rfl ?_
  refine v_arg (pc' := 1251) (j := 1) (o := 1) 20 rfl rfl rfl rfl rfl rfl rfl rfl (by decide) (by decide) h6 hL ?_
  refine v_arg (pc' := 1257) (j := 2) (o := 1) 25 rfl rfl rfl rfl rfl rfl rfl rfl (by decide) (by decide) h6 hL ?_
  refine v_arg (pc' := 1263) (j := 3) (o := 1) 30 rfl rfl rfl rfl rfl rfl rfl rfl (by decide) (by decide) h6 hL ?_
  refine v_cV (Y2 := Y_X9_pulse) (As := [.int (AR G n 1), .int (AR G n 2), .int (AR G n 3)]) (b := 436) (pc' := 1266) (c1 := c0 + 3) (s1 := s0 + 18) 35 rfl rfl mf_X9_pulse rfl rfl ml_L_182 mi_X9_pulse se_X9_pulse (ci := 8) rfl ly_436 (lay_lt ly_436 (by decide)) rfl (Nat.le_of_ble_eq_true rfl) ⟨show c0 + 3 + 0 ≤ 601024 by omega, show s0 + 18 + 0 ≤ 7293034 by omega⟩ rfl rfl (ok_X9_pulse _ _ _ _ _ h) (fun _ _ q => q.elim) ?_
  intro v9 u9 hv9
  obtain ⟨r, I2, L2, rfl, rfl, h⟩ := hv9
  refine ⟨fun q => absurd q (Nat.lt_irrefl _), ?_⟩
  show V G (YL PL18) 1266 _ (.int r :: _) _ _ _ _ _
  refine v_istore (pc' := 1268) 36 rfl rfl (by decide) rfl ?_
  refine v_aload_n (pc' := 1269) 37 4 rfl rfl rfl rfl ?_
  refine v_cV (Y2 := Y_X9_thrown) (As := []) (b := 436) (pc' := 1272) (c1 := c0 + 3) (s1 := s0 + 18) 38 rfl rfl mf_X9_thrown rfl rfl ml_L_123 mi_X9_thrown se_X9_thrown (ci := 8) rfl ly_436 (lay_lt ly_436 (by decide)) rfl (Nat.le_of_ble_eq_true rfl) ⟨show c0 + 3 + 0 ≤ 601024 by omega, show s0 + 18 + 0 ≤ 7293034 by omega⟩ rfl rfl (ok_X9_thrown _ _ (show W_X9_thrown _ _ (fun r => r = _) from rfl)) (fun _ _ q => q.elim) ?_
  intro v9 u9 hv9
  obtain ⟨w, rfl, rfl, hw⟩ := hv9
  refine ⟨fun q => absurd q (Nat.lt_irrefl _), ?_⟩
  show V G (YL PL18) 1272 _ (.int w :: _) _ _ _ _ _
  refine v_iload (pc' := 1274) 39 1 rfl rfl rfl ?_
  obtain ⟨X2, h⟩ := h
  refine v_icmp_eq (tgt := 1279) (pc' := 1277) 40 rfl rfl (by decide) (fun _ => ?_) (fun q => absurd (hw.trans h.1) q)
  refine v_iload (pc' := 1281) 43 1 rfl rfl rfl ?_
  refine v_if_ne (tgt := 1296) (pc' := 1284) 44 rfl rfl (by decide) (fun _ => v_goto (tgt := 2520) 54 rfl (by decide) (V.sub [2, 3, 4, 5, 6] rfl (V.widen (c1 := c0 + 3) (s1 := s0 + 18) (by omega) (by omega) (fun q => absurd q (Nat.lt_irrefl _)) (vw (P' := []) rfl (kk _ _ _ _ _ _ ht (h.2.2.mono (by omega))))))) (fun hk => ?_)
  refine v_aload_n (pc' := 1285) 45 3 rfl rfl rfl rfl ?_
  refine v_iconst (v := 0) (pc' := 1286) 46 rfl rfl (by decide) ?_
  refine v_lald (i := 0) (j := 0) (pc' := 1287) 47 rfl rfl ly_456 ln_456 (lay_lt ly_456 (by decide)) (vp_lit (by decide)) (by decide) ?_
  refine v_iload (pc' := 1289) 48 0 rfl rfl rfl ?_
  refine v_i2l (pc' := 1290) 49 rfl rfl ?_
  refine v_lcmp (pc' := 1291) 50 rfl rfl ?_
  exact v_if_eq (tgt := 1296) (pc' := 1294) 51 rfl rfl (by decide) (fun _ => v_goto (tgt := 2520) 54 rfl (by decide) (V.sub [2, 3, 4, 5, 6] rfl (V.widen (c1 := c0 + 3) (s1 := s0 + 18) (by omega) (by omega) (fun q => absurd q (Nat.lt_irrefl _)) (vw (P' := []) rfl (kk _ _ _ _ _ _ ht (h.2.2.mono (by omega))))))) (fun q => absurd (lgc_eq.mpr (h.2.1 hk)) q)
def PL19 : List (Nat × Instr × Nat) := [(1299, .aload_n 1, 1), (1300, .aload_n 0, 1), (1301, .iload 4, 2), (1303, .iconst 1, 1), (1304, .iadd, 1), (1305, .iaload, 1), (1306, .aload_n 0, 1), (1307, .iload 4, 2), (1309, .iconst 2, 1), (1310, .iadd, 1), (1311, .iaload, 1), (1312, .aload_n 3, 1), (1313, .invokestatic 183, 3), (1316, .istore 5, 2), (1318, .aload_n 2, 1), (1319, .aload_n 0, 1), (1320, .iload 4, 2), (1322, .iconst 1, 1), (1323, .iadd, 1), (1324, .iaload, 1), (1325, .aload_n 0, 1), (1326, .iload 4, 2), (1328, .iconst 2, 1), (1329, .iadd, 1), (1330, .iaload, 1), (1331, .invokevirtual 185, 3), (1334, .istore 6, 2), (1336, .aload_n 2, 1), (1337, .invokevirtual 123, 3), (1340, .iload 5, 2), (1342, .if_icmp .eq 5, 3), (1345, .iconst 0, 1), (1346, .ireturn, 1), (1347, .iload 5, 2), (1349, .ifCond .ne 15, 3), (1352, .aload_n 3, 1), (1353, .iconst 0, 1), (1354, .laload, 1), (1355, .iload 6, 2), (1357, .i2l, 1), (1358, .lcmp, 1), (1359, .ifCond .eq 5, 3), (1362, .iconst 0, 1), (1363, .ireturn, 1), (1364, .goto 1156, 3)]
theorem isL_19 : PL19.all (okI code) = true := by decide +kernel
set_option maxHeartbeats 4000000 in
set_option maxRecDepth 100000 in
theorem lc_19 {B : Nat} {X : XT} {I : TI} {L : TL} {b d t n c0 s0 : Nat} {Q : Option Value → MU → Prop} {QX : String → MU → Prop} (h6 : 6 * n + 6 ≤ gL G) (hL : gL G ≤ 3072) (hB : 1000000 ≤ B) (hB2 : B < 2 ^ 30) (hc : c0 + 3 ≤ 601024) (hs : s0 + 18 ≤ 7293034) (ht : txOK t) (hI : INV I L b d X B) (kk : LE9 G n B (c0 + 3) (s0 + 18) Q QX) : V G (YL PL19) 1299 (Lk n) [] (I, L, RT b d t, 457) c0 s0 Q QX := by
  refine v_aload_n (pc' := 1300) 0 3 rfl rfl rfl rfl ?_
  refine v_arg (pc' := 1306) (j := 1) (o := 0) 1 rfl rfl rfl rfl rfl rfl rfl rfl (by decide) (by decide) h6 hL ?_
  refine v_arg (pc' := 1312) (j := 2) (o := 0) 6 rfl rfl rfl rfl rfl rfl rfl rfl (by decide) (by decide) h6 hL ?_
  refine v_aload_n (pc' := 1313) 11 1 rfl rfl rfl rfl ?_
  refine v_cSX (Y2 := Y_L_dispute) (As := [.ref 0, .int (AR G n 1), .int (AR G n 2), .ref 456]) (pc' := 1316) (c1 := c0 + 2) (s1 := s0 + 12) 12 rfl rfl mf_L_dispute rfl rfl ml_L_183 ms_L_dispute rfl (Nat.le_of_ble_eq_true rfl) ⟨show c0 + 2 ≤ 601024 by omega, show s0 + 12 ≤ 7293034 by omega⟩ rfl rfl (ok_L_dispute _ _ _ _ _ _ hI.2.2.1.1 hI.2.2.1.2.1 (op_dispute (P := fun k r J M => ∃ X2, OKL k r.toInt64 J M b d X2 B) hI (fun _ _ _ _ h => ⟨_, h⟩))) (fun _ _ q => q.elim) ?_
  intro v9 u9 hv9
  obtain ⟨k, L1, rfl, rfl, h⟩ := hv9
  refine ⟨fun q => absurd q (Nat.lt_irrefl _), ?_⟩
  show V G (YL PL19) 1316 _ (.int k :: _) _ _ _ _ _
  refine v_istore (pc' := 1318) 13 rfl rfl (by decide) rfl ?_
  refine v_aload_n (pc' := 1319) 14 3 rfl rfl rfl rfl ?_
  refine v_arg (pc' := 1325) (j := 1) (o := 1) 15 rfl rfl rfl rfl rfl rfl rfl rfl (by decide) (by decide) h6 hL ?_
  refine v_arg (pc' := 1331) (j := 2) (o := 1) 20 rfl rfl rfl rfl rfl rfl rfl rfl (by decide) (by decide) h6 hL ?_
  refine v_cV (Y2 := Y_X9_dispute) (As := [.int (AR G n 1), .int (AR G n 2)]) (b := 436) (pc' := 1334) (c1 := c0 + 2) (s1 := s0 + 12) 25 rfl rfl mf_X9_dispute rfl rfl ml_L_185 mi_X9_dispute se_X9_dispute (ci := 8) rfl ly_436 (lay_lt ly_436 (by decide)) rfl (Nat.le_of_ble_eq_true rfl) ⟨show c0 + 2 + 0 ≤ 601024 by omega, show s0 + 12 + 0 ≤ 7293034 by omega⟩ rfl rfl (ok_X9_dispute _ _ _ _ h) (fun _ _ q => q.elim) ?_
  intro v9 u9 hv9
  obtain ⟨r, I2, rfl, rfl, h⟩ := hv9
  refine ⟨fun q => absurd q (Nat.lt_irrefl _), ?_⟩
  show V G (YL PL19) 1334 _ (.int r :: _) _ _ _ _ _
  refine v_istore (pc' := 1336) 26 rfl rfl (by decide) rfl ?_
  refine v_aload_n (pc' := 1337) 27 4 rfl rfl rfl rfl ?_
  refine v_cV (Y2 := Y_X9_thrown) (As := []) (b := 436) (pc' := 1340) (c1 := c0 + 2) (s1 := s0 + 12) 28 rfl rfl mf_X9_thrown rfl rfl ml_L_123 mi_X9_thrown se_X9_thrown (ci := 8) rfl ly_436 (lay_lt ly_436 (by decide)) rfl (Nat.le_of_ble_eq_true rfl) ⟨show c0 + 2 + 0 ≤ 601024 by omega, show s0 + 12 + 0 ≤ 7293034 by omega⟩ rfl rfl (ok_X9_thrown _ _ (show W_X9_thrown _ _ (fun r => r = _) from rfl)) (fun _ _ q => q.elim) ?_
  intro v9 u9 hv9
  obtain ⟨w, rfl, rfl, hw⟩ := hv9
  refine ⟨fun q => absurd q (Nat.lt_irrefl _), ?_⟩
  show V G (YL PL19) 1340 _ (.int w :: _) _ _ _ _ _
  refine v_iload (pc' := 1342) 29 1 rfl rfl rfl ?_
  obtain ⟨X2, h⟩ := h
  refine v_icmp_eq (tgt := 1347) (pc' := 1345) 30 rfl rfl (by decide) (fun _ => ?_) (fun q => absurd (hw.trans h.1) q)
  refine v_iload (pc' := 1349) 33 1 rfl rfl rfl ?_
  refine v_if_ne (tgt := 1364) (pc' := 1352) 34 rfl rfl (by decide) (fun _ => v_goto (tgt := 2520) 44 rfl (by decide) (V.sub [2, 3, 4, 5, 6] rfl (V.widen (c1 := c0 + 3) (s1 := s0 + 18) (by omega) (by omega) (fun q => absurd q (Nat.lt_irrefl _)) (vw (P' := []) rfl (kk _ _ _ _ _ _ ht (h.2.2.mono (by omega))))))) (fun hk => ?_)
  refine v_aload_n (pc' := 1353) 35 3 rfl rfl rfl rfl ?_
  refine v_iconst (v := 0) (pc' := 1354) 36 rfl rfl (by decide) ?_
  refine v_lald (i := 0) (j := 0) (pc' := 1355) 37 rfl rfl ly_456 ln_456 (lay_lt ly_456 (by decide)) (vp_lit (by decide)) (by decide) ?_
  refine v_iload (pc' := 1357) 38 0 rfl rfl rfl ?_
  refine v_i2l (pc' := 1358) 39 rfl rfl ?_
  refine v_lcmp (pc' := 1359) 40 rfl rfl ?_
  exact v_if_eq (tgt := 1364) (pc' := 1362) 41 rfl rfl (by decide) (fun _ => v_goto (tgt := 2520) 44 rfl (by decide) (V.sub [2, 3, 4, 5, 6] rfl (V.widen (c1 := c0 + 3) (s1 := s0 + 18) (by omega) (by omega) (fun q => absurd q (Nat.lt_irrefl _)) (vw (P' := []) rfl (kk _ _ _ _ _ _ ht (h.2.2.mono (by omega))))))) (fun q => absurd (lgc_eq.mpr (h.2.1 hk)) q)
def PL20 : List (Nat × Instr × Nat) := [(1367, .aload_n 1, 1), (1368, .aload_n 0, 1), (1369, .iload 4, 2), (1371, .iconst 1, 1), (1372, .iadd, 1), (1373, .iaload, 1), (1374, .aload_n 3, 1), (1375, .invokestatic 186, 3), (1378, .istore 5, 2), (1380, .aload_n 2, 1), (1381, .aload_n 0, 1), (1382, .iload 4, 2), (1384, .iconst 1, 1), (1385, .iadd, 1), (1386, .iaload, 1), (1387, .invokevirtual 188, 3), (1390, .istore 6, 2), (1392, .aload_n 2, 1), (1393, .invokevirtual 123, 3), (1396, .iload 5, 2), (1398, .if_icmp .eq 5, 3), (1401, .iconst 0, 1), (1402, .ireturn, 1), (1403, .iload 5, 2), (1405, .ifCond .ne 15, 3), (1408, .aload_n 3, 1), (1409, .iconst 0, 1), (1410, .laload, 1), (1411, .iload 6, 2), (1413, .i2l, 1), (1414, .lcmp, 1), (1415, .ifCond .eq 5, 3), (1418, .iconst 0, 1), (1419, .ireturn, 1), (1420, .goto 1100, 3)]
theorem isL_20 : PL20.all (okI code) = true := by decide +kernel
set_option maxHeartbeats 4000000 in
set_option maxRecDepth 100000 in
theorem lc_20 {B : Nat} {X : XT} {I : TI} {L : TL} {b d t n c0 s0 : Nat} {Q : Option Value → MU → Prop} {QX : String → MU → Prop} (h6 : 6 * n + 6 ≤ gL G) (hL : gL G ≤ 3072) (hB : 1000000 ≤ B) (hB2 : B < 2 ^ 30) (hc : c0 + 3 ≤ 601024) (hs : s0 + 18 ≤ 7293034) (ht : txOK t) (hI : INV I L b d X B) (kk : LE9 G n B (c0 + 3) (s0 + 18) Q QX) : V G (YL PL20) 1367 (Lk n) [] (I, L, RT b d t, 457) c0 s0 Q QX := by
  refine v_aload_n (pc' := 1368) 0 3 rfl rfl rfl rfl ?_
  refine v_arg (pc' := 1374) (j := 1) (o := 0) 1 rfl rfl rfl rfl rfl rfl rfl rfl (by decide) (by decide) h6 hL ?_
  refine v_aload_n (pc' := 1375) 6 1 rfl rfl rfl rfl ?_
  refine v_cSX (Y2 := Y_L_disputes) (As := [.ref 0, .int (AR G n 1), .ref 456]) (pc' := 1378) (c1 := c0 + 1) (s1 := s0 + 6) 7 rfl rfl mf_L_disputes rfl rfl ml_L_186 ms_L_disputes rfl (Nat.le_of_ble_eq_true rfl) ⟨show c0 + 1 ≤ 601024 by omega, show s0 + 6 ≤ 7293034 by omega⟩ rfl rfl (ok_L_disputes _ _ _ _ _ hI.2.2.1.1 hI.2.2.1.2.1 (op_disputes (P := fun k r J M => ∃ X2, OKL k r.toInt64 J M b d X2 B) hI (fun _ _ _ _ h => ⟨_, h⟩))) (fun _ _ q => q.elim) ?_
  intro v9 u9 hv9
  obtain ⟨k, L1, rfl, rfl, h⟩ := hv9
  refine ⟨fun q => absurd q (Nat.lt_irrefl _), ?_⟩
  show V G (YL PL20) 1378 _ (.int k :: _) _ _ _ _ _
  refine v_istore (pc' := 1380) 8 rfl rfl (by decide) rfl ?_
  refine v_aload_n (pc' := 1381) 9 3 rfl rfl rfl rfl ?_
  refine v_arg (pc' := 1387) (j := 1) (o := 1) 10 rfl rfl rfl rfl rfl rfl rfl rfl (by decide) (by decide) h6 hL ?_
  refine v_cV (Y2 := Y_X9_disputes) (As := [.int (AR G n 1)]) (b := 436) (pc' := 1390) (c1 := c0 + 1) (s1 := s0 + 6) 15 rfl rfl mf_X9_disputes rfl rfl ml_L_188 mi_X9_disputes se_X9_disputes (ci := 8) rfl ly_436 (lay_lt ly_436 (by decide)) rfl (Nat.le_of_ble_eq_true rfl) ⟨show c0 + 1 + 0 ≤ 601024 by omega, show s0 + 6 + 0 ≤ 7293034 by omega⟩ rfl rfl (ok_X9_disputes _ _ _ h) (fun _ _ q => q.elim) ?_
  intro v9 u9 hv9
  obtain ⟨r, I2, rfl, rfl, h⟩ := hv9
  refine ⟨fun q => absurd q (Nat.lt_irrefl _), ?_⟩
  show V G (YL PL20) 1390 _ (.int r :: _) _ _ _ _ _
  refine v_istore (pc' := 1392) 16 rfl rfl (by decide) rfl ?_
  refine v_aload_n (pc' := 1393) 17 4 rfl rfl rfl rfl ?_
  refine v_cV (Y2 := Y_X9_thrown) (As := []) (b := 436) (pc' := 1396) (c1 := c0 + 1) (s1 := s0 + 6) 18 rfl rfl mf_X9_thrown rfl rfl ml_L_123 mi_X9_thrown se_X9_thrown (ci := 8) rfl ly_436 (lay_lt ly_436 (by decide)) rfl (Nat.le_of_ble_eq_true rfl) ⟨show c0 + 1 + 0 ≤ 601024 by omega, show s0 + 6 + 0 ≤ 7293034 by omega⟩ rfl rfl (ok_X9_thrown _ _ (show W_X9_thrown _ _ (fun r => r = _) from rfl)) (fun _ _ q => q.elim) ?_
  intro v9 u9 hv9
  obtain ⟨w, rfl, rfl, hw⟩ := hv9
  refine ⟨fun q => absurd q (Nat.lt_irrefl _), ?_⟩
  show V G (YL PL20) 1396 _ (.int w :: _) _ _ _ _ _
  refine v_iload (pc' := 1398) 19 1 rfl rfl rfl ?_
  obtain ⟨X2, h⟩ := h
  refine v_icmp_eq (tgt := 1403) (pc' := 1401) 20 rfl rfl (by decide) (fun _ => ?_) (fun q => absurd (hw.trans h.1) q)
  refine v_iload (pc' := 1405) 23 1 rfl rfl rfl ?_
  refine v_if_ne (tgt := 1420) (pc' := 1408) 24 rfl rfl (by decide) (fun _ => v_goto (tgt := 2520) 34 rfl (by decide) (V.sub [2, 3, 4, 5, 6] rfl (V.widen (c1 := c0 + 3) (s1 := s0 + 18) (by omega) (by omega) (fun q => absurd q (Nat.lt_irrefl _)) (vw (P' := []) rfl (kk _ _ _ _ _ _ ht (h.2.2.mono (by omega))))))) (fun hk => ?_)
  refine v_aload_n (pc' := 1409) 25 3 rfl rfl rfl rfl ?_
  refine v_iconst (v := 0) (pc' := 1410) 26 rfl rfl (by decide) ?_
  refine v_lald (i := 0) (j := 0) (pc' := 1411) 27 rfl rfl ly_456 ln_456 (lay_lt ly_456 (by decide)) (vp_lit (by decide)) (by decide) ?_
  refine v_iload (pc' := 1413) 28 0 rfl rfl rfl ?_
  refine v_i2l (pc' := 1414) 29 rfl rfl ?_
  refine v_lcmp (pc' := 1415) 30 rfl rfl ?_
  exact v_if_eq (tgt := 1420) (pc' := 1418) 31 rfl rfl (by decide) (fun _ => v_goto (tgt := 2520) 34 rfl (by decide) (V.sub [2, 3, 4, 5, 6] rfl (V.widen (c1 := c0 + 3) (s1 := s0 + 18) (by omega) (by omega) (fun q => absurd q (Nat.lt_irrefl _)) (vw (P' := []) rfl (kk _ _ _ _ _ _ ht (h.2.2.mono (by omega))))))) (fun q => absurd (lgc_eq.mpr (h.2.1 hk)) q)
def PL21 : List (Nat × Instr × Nat) := [(1423, .aload_n 1, 1), (1424, .aload_n 0, 1), (1425, .iload 4, 2), (1427, .iconst 1, 1), (1428, .iadd, 1), (1429, .iaload, 1), (1430, .aload_n 0, 1), (1431, .iload 4, 2), (1433, .iconst 2, 1), (1434, .iadd, 1), (1435, .iaload, 1), (1436, .aload_n 0, 1), (1437, .iload 4, 2), (1439, .iconst 3, 1), (1440, .iadd, 1), (1441, .iaload, 1), (1442, .aload_n 3, 1), (1443, .invokestatic 189, 3), (1446, .istore 5, 2), (1448, .aload_n 2, 1), (1449, .aload_n 0, 1), (1450, .iload 4, 2), (1452, .iconst 1, 1), (1453, .iadd, 1), (1454, .iaload, 1), (1455, .aload_n 0, 1), (1456, .iload 4, 2), (1458, .iconst 2, 1), (1459, .iadd, 1), (1460, .iaload, 1), (1461, .aload_n 0, 1), (1462, .iload 4, 2), (1464, .iconst 3, 1), (1465, .iadd, 1), (1466, .iaload, 1), (1467, .invokevirtual 191, 3), (1470, .istore 6, 2), (1472, .aload_n 2, 1), (1473, .invokevirtual 123, 3), (1476, .iload 5, 2), (1478, .if_icmp .eq 5, 3), (1481, .iconst 0, 1), (1482, .ireturn, 1), (1483, .iload 5, 2), (1485, .ifCond .ne 15, 3), (1488, .aload_n 3, 1), (1489, .iconst 0, 1), (1490, .laload, 1), (1491, .iload 6, 2), (1493, .i2l, 1), (1494, .lcmp, 1), (1495, .ifCond .eq 5, 3), (1498, .iconst 0, 1), (1499, .ireturn, 1), (1500, .goto 1020, 3)]
theorem isL_21 : PL21.all (okI code) = true := by decide +kernel
set_option maxHeartbeats 4000000 in
set_option maxRecDepth 100000 in
theorem lc_21 {B : Nat} {X : XT} {I : TI} {L : TL} {b d t n c0 s0 : Nat} {Q : Option Value → MU → Prop} {QX : String → MU → Prop} (h6 : 6 * n + 6 ≤ gL G) (hL : gL G ≤ 3072) (hB : 1000000 ≤ B) (hB2 : B < 2 ^ 30) (hc : c0 + 3 ≤ 601024) (hs : s0 + 18 ≤ 7293034) (ht : txOK t) (hI : INV I L b d X B) (kk : LE9 G n B (c0 + 3) (s0 + 18) Q QX) : V G (YL PL21) 1423 (Lk n) [] (I, L, RT b d t, 457) c0 s0 Q QX := by
  refine v_aload_n (pc' := 1424) 0 3 rfl rfl rfl rfl ?_
  refine v_arg (pc' := 1430) (j := 1) (o := 0) 1 rfl rfl rfl rfl rfl rfl rfl rfl (by decide) (by decide) h6 hL ?_
  refine v_arg (pc' := 1436) (j := 2) (o := 0) 6 rfl rfl rfl rfl rfl rfl rfl rfl (by decide) (by decide) h6 hL ?_
  refine v_arg (pc' := 1442) (j := 3) (o := 0) 11 rfl rfl rfl rfl rfl rfl rfl rfl (by decide) (by decide) h6 hL ?_
  refine v_aload_n (pc' := 1443) 16 1 rfl rfl rfl rfl ?_
  refine v_cSX (Y2 := Y_L_cost) (As := [.ref 0, .int (AR G n 1), .int (AR G n 2), .int (AR G n 3), .ref 456]) (pc' := 1446) (c1 := c0 + 2) (s1 := s0 + 12) 17 rfl rfl mf_L_cost rfl rfl ml_L_189 ms_L_cost rfl (Nat.le_of_ble_eq_true rfl) ⟨show c0 + 2 ≤ 601024 by omega, show s0 + 12 ≤ 7293034 by omega⟩ rfl rfl (ok_L_cost _ _ _ _ _ _ _ hI.2.2.1.1 hI.2.2.1.2.1 (op_cost (P := fun k r J M => ∃ X2, OKL k r.toInt64 J M b d X2 B) hI (fun _ _ _ _ h => ⟨_, h⟩))) (fun _ _ q => q.elim) ?_
  intro v9 u9 hv9
  obtain ⟨k, L1, rfl, rfl, h⟩ := hv9
  refine ⟨fun q => absurd q (Nat.lt_irrefl _), ?_⟩
  show V G (YL PL21) 1446 _ (.int k :: _) _ _ _ _ _
  refine v_istore (pc' := 1448) 18 rfl rfl (by decide) rfl ?_
  refine v_aload_n (pc' := 1449) 19 3 rfl rfl rfl rfl ?_
  refine v_arg (pc' := 1455) (j := 1) (o := 1) 20 rfl rfl rfl rfl rfl rfl rfl rfl (by decide) (by decide) h6 hL ?_
  refine v_arg (pc' := 1461) (j := 2) (o := 1) 25 rfl rfl rfl rfl rfl rfl rfl rfl (by decide) (by decide) h6 hL ?_
  refine v_arg (pc' := 1467) (j := 3) (o := 1) 30 rfl rfl rfl rfl rfl rfl rfl rfl (by decide) (by decide) h6 hL ?_
  refine v_cV (Y2 := Y_X9_cost) (As := [.int (AR G n 1), .int (AR G n 2), .int (AR G n 3)]) (b := 436) (pc' := 1470) (c1 := c0 + 2) (s1 := s0 + 12) 35 rfl rfl mf_X9_cost rfl rfl ml_L_191 mi_X9_cost se_X9_cost (ci := 8) rfl ly_436 (lay_lt ly_436 (by decide)) rfl (Nat.le_of_ble_eq_true rfl) ⟨show c0 + 2 + 0 ≤ 601024 by omega, show s0 + 12 + 0 ≤ 7293034 by omega⟩ rfl rfl (ok_X9_cost _ _ _ _ _ h) (fun _ _ q => q.elim) ?_
  intro v9 u9 hv9
  obtain ⟨r, I2, rfl, rfl, h⟩ := hv9
  refine ⟨fun q => absurd q (Nat.lt_irrefl _), ?_⟩
  show V G (YL PL21) 1470 _ (.int r :: _) _ _ _ _ _
  refine v_istore (pc' := 1472) 36 rfl rfl (by decide) rfl ?_
  refine v_aload_n (pc' := 1473) 37 4 rfl rfl rfl rfl ?_
  refine v_cV (Y2 := Y_X9_thrown) (As := []) (b := 436) (pc' := 1476) (c1 := c0 + 2) (s1 := s0 + 12) 38 rfl rfl mf_X9_thrown rfl rfl ml_L_123 mi_X9_thrown se_X9_thrown (ci := 8) rfl ly_436 (lay_lt ly_436 (by decide)) rfl (Nat.le_of_ble_eq_true rfl) ⟨show c0 + 2 + 0 ≤ 601024 by omega, show s0 + 12 + 0 ≤ 7293034 by omega⟩ rfl rfl (ok_X9_thrown _ _ (show W_X9_thrown _ _ (fun r => r = _) from rfl)) (fun _ _ q => q.elim) ?_
  intro v9 u9 hv9
  obtain ⟨w, rfl, rfl, hw⟩ := hv9
  refine ⟨fun q => absurd q (Nat.lt_irrefl _), ?_⟩
  show V G (YL PL21) 1476 _ (.int w :: _) _ _ _ _ _
  refine v_iload (pc' := 1478) 39 1 rfl rfl rfl ?_
  obtain ⟨X2, h⟩ := h
  refine v_icmp_eq (tgt := 1483) (pc' := 1481) 40 rfl rfl (by decide) (fun _ => ?_) (fun q => absurd (hw.trans h.1) q)
  refine v_iload (pc' := 1485) 43 1 rfl rfl rfl ?_
  refine v_if_ne (tgt := 1500) (pc' := 1488) 44 rfl rfl (by decide) (fun _ => v_goto (tgt := 2520) 54 rfl (by decide) (V.sub [2, 3, 4, 5, 6] rfl (V.widen (c1 := c0 + 3) (s1 := s0 + 18) (by omega) (by omega) (fun q => absurd q (Nat.lt_irrefl _)) (vw (P' := []) rfl (kk _ _ _ _ _ _ ht (h.2.2.mono (by omega))))))) (fun hk => ?_)
  refine v_aload_n (pc' := 1489) 45 3 rfl rfl rfl rfl ?_
  refine v_iconst (v := 0) (pc' := 1490) 46 rfl rfl (by decide) ?_
  refine v_lald (i := 0) (j := 0) (pc' := 1491) 47 rfl rfl ly_456 ln_456 (lay_lt ly_456 (by decide)) (vp_lit (by decide)) (by decide) ?_
  refine v_iload (pc' := 1493) 48 0 rfl rfl rfl ?_
  refine v_i2l (pc' := 1494) 49 rfl rfl ?_
  refine v_lcmp (pc' := 1495) 50 rfl rfl ?_
  exact v_if_eq (tgt := 1500) (pc' := 1498) 51 rfl rfl (by decide) (fun _ => v_goto (tgt := 2520) 54 rfl (by decide) (V.sub [2, 3, 4, 5, 6] rfl (V.widen (c1 := c0 + 3) (s1 := s0 + 18) (by omega) (by omega) (fun q => absurd q (Nat.lt_irrefl _)) (vw (P' := []) rfl (kk _ _ _ _ _ _ ht (h.2.2.mono (by omega))))))) (fun q => absurd (lgc_eq.mpr (h.2.1 hk)) q)
end LC1
