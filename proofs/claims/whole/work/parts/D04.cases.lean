/-! the law: cases 22 to 32 -/
section LC2
variable {G : GT}
def PL22 : List (Nat × Instr × Nat) := [(1503, .aload_n 1, 1), (1504, .aload_n 0, 1), (1505, .iload 4, 2), (1507, .iconst 1, 1), (1508, .iadd, 1), (1509, .iaload, 1), (1510, .aload_n 0, 1), (1511, .iload 4, 2), (1513, .iconst 2, 1), (1514, .iadd, 1), (1515, .iaload, 1), (1516, .aload_n 0, 1), (1517, .iload 4, 2), (1519, .iconst 3, 1), (1520, .iadd, 1), (1521, .iaload, 1), (1522, .aload_n 3, 1), (1523, .invokestatic 192, 3), (1526, .istore 5, 2), (1528, .aload_n 2, 1), (1529, .aload_n 0, 1), (1530, .iload 4, 2), (1532, .iconst 1, 1), (1533, .iadd, 1), (1534, .iaload, 1), (1535, .aload_n 0, 1), (1536, .iload 4, 2), (1538, .iconst 2, 1), (1539, .iadd, 1), (1540, .iaload, 1), (1541, .aload_n 0, 1), (1542, .iload 4, 2), (1544, .iconst 3, 1), (1545, .iadd, 1), (1546, .iaload, 1), (1547, .invokevirtual 194, 3), (1550, .istore 6, 2), (1552, .aload_n 2, 1), (1553, .invokevirtual 123, 3), (1556, .iload 5, 2), (1558, .if_icmp .eq 5, 3), (1561, .iconst 0, 1), (1562, .ireturn, 1), (1563, .iload 5, 2), (1565, .ifCond .ne 15, 3), (1568, .aload_n 3, 1), (1569, .iconst 0, 1), (1570, .laload, 1), (1571, .iload 6, 2), (1573, .i2l, 1), (1574, .lcmp, 1), (1575, .ifCond .eq 5, 3), (1578, .iconst 0, 1), (1579, .ireturn, 1), (1580, .goto 940, 3)]
theorem isL_22 : PL22.all (okI code) = true := by decide +kernel
set_option maxHeartbeats 4000000 in
set_option maxRecDepth 100000 in
theorem lc_22 {B : Nat} {X : XT} {I : TI} {L : TL} {b d t n c0 s0 : Nat} {Q : Option Value → MU → Prop} {QX : String → MU → Prop} (h6 : 6 * n + 6 ≤ gL G) (hL : gL G ≤ 3072) (hB : 1000000 ≤ B) (hB2 : B < 2 ^ 30) (hc : c0 + 3 ≤ 601024) (hs : s0 + 18 ≤ 7293034) (ht : txOK t) (hI : INV I L b d X B) (kk : LE9 G n B (c0 + 3) (s0 + 18) Q QX) : V G (YL PL22) 1503 (Lk n) [] (I, L, RT b d t, 457) c0 s0 Q QX := by
  refine v_aload_n (pc' := 1504) 0 3 rfl rfl rfl rfl ?_
  refine v_arg (pc' := 1510) (j := 1) (o := 0) 1 rfl rfl rfl rfl rfl rfl rfl rfl (by decide) (by decide) h6 hL ?_
  refine v_arg (pc' := 1516) (j := 2) (o := 0) 6 rfl rfl rfl rfl rfl rfl rfl rfl (by decide) (by decide) h6 hL ?_
  refine v_arg (pc' := 1522) (j := 3) (o := 0) 11 rfl rfl rfl rfl rfl rfl rfl rfl (by decide) (by decide) h6 hL ?_
  refine v_aload_n (pc' := 1523) 16 1 rfl rfl rfl rfl ?_
  refine v_cSX (Y2 := Y_L_gain) (As := [.ref 0, .int (AR G n 1), .int (AR G n 2), .int (AR G n 3), .ref 456]) (pc' := 1526) (c1 := c0 + 2) (s1 := s0 + 12) 17 rfl rfl mf_L_gain rfl rfl ml_L_192 ms_L_gain rfl (Nat.le_of_ble_eq_true rfl) ⟨show c0 + 2 ≤ 601024 by omega, show s0 + 12 ≤ 7293034 by omega⟩ rfl rfl (ok_L_gain _ _ _ _ _ _ _ hI.2.2.1.1 hI.2.2.1.2.1 (op_gain (P := fun k r J M => ∃ X2, OKL k r.toInt64 J M b d X2 B) hI (fun _ _ _ _ h => ⟨_, h⟩))) (fun _ _ q => q.elim) ?_
  intro v9 u9 hv9
  obtain ⟨k, L1, rfl, rfl, h⟩ := hv9
  refine ⟨fun q => absurd q (Nat.lt_irrefl _), ?_⟩
  show V G (YL PL22) 1526 _ (.int k :: _) _ _ _ _ _
  refine v_istore (pc' := 1528) 18 rfl rfl (by decide) rfl ?_
  refine v_aload_n (pc' := 1529) 19 3 rfl rfl rfl rfl ?_
  refine v_arg (pc' := 1535) (j := 1) (o := 1) 20 rfl rfl rfl rfl rfl rfl rfl rfl (by decide) (by decide) h6 hL ?_
  refine v_arg (pc' := 1541) (j := 2) (o := 1) 25 rfl rfl rfl rfl rfl rfl rfl rfl (by decide) (by decide) h6 hL ?_
  refine v_arg (pc' := 1547) (j := 3) (o := 1) 30 rfl rfl rfl rfl rfl rfl rfl rfl (by decide) (by decide) h6 hL ?_
  refine v_cV (Y2 := Y_X9_gain) (As := [.int (AR G n 1), .int (AR G n 2), .int (AR G n 3)]) (b := 436) (pc' := 1550) (c1 := c0 + 2) (s1 := s0 + 12) 35 rfl rfl mf_X9_gain rfl rfl ml_L_194 mi_X9_gain se_X9_gain (ci := 8) rfl ly_436 (lay_lt ly_436 (by decide)) rfl (Nat.le_of_ble_eq_true rfl) ⟨show c0 + 2 + 0 ≤ 601024 by omega, show s0 + 12 + 0 ≤ 7293034 by omega⟩ rfl rfl (ok_X9_gain _ _ _ _ _ h) (fun _ _ q => q.elim) ?_
  intro v9 u9 hv9
  obtain ⟨r, I2, L2, rfl, rfl, h⟩ := hv9
  refine ⟨fun q => absurd q (Nat.lt_irrefl _), ?_⟩
  show V G (YL PL22) 1550 _ (.int r :: _) _ _ _ _ _
  refine v_istore (pc' := 1552) 36 rfl rfl (by decide) rfl ?_
  refine v_aload_n (pc' := 1553) 37 4 rfl rfl rfl rfl ?_
  refine v_cV (Y2 := Y_X9_thrown) (As := []) (b := 436) (pc' := 1556) (c1 := c0 + 2) (s1 := s0 + 12) 38 rfl rfl mf_X9_thrown rfl rfl ml_L_123 mi_X9_thrown se_X9_thrown (ci := 8) rfl ly_436 (lay_lt ly_436 (by decide)) rfl (Nat.le_of_ble_eq_true rfl) ⟨show c0 + 2 + 0 ≤ 601024 by omega, show s0 + 12 + 0 ≤ 7293034 by omega⟩ rfl rfl (ok_X9_thrown _ _ (show W_X9_thrown _ _ (fun r => r = _) from rfl)) (fun _ _ q => q.elim) ?_
  intro v9 u9 hv9
  obtain ⟨w, rfl, rfl, hw⟩ := hv9
  refine ⟨fun q => absurd q (Nat.lt_irrefl _), ?_⟩
  show V G (YL PL22) 1556 _ (.int w :: _) _ _ _ _ _
  refine v_iload (pc' := 1558) 39 1 rfl rfl rfl ?_
  obtain ⟨X2, h⟩ := h
  refine v_icmp_eq (tgt := 1563) (pc' := 1561) 40 rfl rfl (by decide) (fun _ => ?_) (fun q => absurd (hw.trans h.1) q)
  refine v_iload (pc' := 1565) 43 1 rfl rfl rfl ?_
  refine v_if_ne (tgt := 1580) (pc' := 1568) 44 rfl rfl (by decide) (fun _ => v_goto (tgt := 2520) 54 rfl (by decide) (V.sub [2, 3, 4, 5, 6] rfl (V.widen (c1 := c0 + 3) (s1 := s0 + 18) (by omega) (by omega) (fun q => absurd q (Nat.lt_irrefl _)) (vw (P' := []) rfl (kk _ _ _ _ _ _ ht (h.2.2.mono (by omega))))))) (fun hk => ?_)
  refine v_aload_n (pc' := 1569) 45 3 rfl rfl rfl rfl ?_
  refine v_iconst (v := 0) (pc' := 1570) 46 rfl rfl (by decide) ?_
  refine v_lald (i := 0) (j := 0) (pc' := 1571) 47 rfl rfl ly_456 ln_456 (lay_lt ly_456 (by decide)) (vp_lit (by decide)) (by decide) ?_
  refine v_iload (pc' := 1573) 48 0 rfl rfl rfl ?_
  refine v_i2l (pc' := 1574) 49 rfl rfl ?_
  refine v_lcmp (pc' := 1575) 50 rfl rfl ?_
  exact v_if_eq (tgt := 1580) (pc' := 1578) 51 rfl rfl (by decide) (fun _ => v_goto (tgt := 2520) 54 rfl (by decide) (V.sub [2, 3, 4, 5, 6] rfl (V.widen (c1 := c0 + 3) (s1 := s0 + 18) (by omega) (by omega) (fun q => absurd q (Nat.lt_irrefl _)) (vw (P' := []) rfl (kk _ _ _ _ _ _ ht (h.2.2.mono (by omega))))))) (fun q => absurd (lgc_eq.mpr (h.2.1 hk)) q)
def PL23 : List (Nat × Instr × Nat) := [(1583, .aload_n 1, 1), (1584, .invokevirtual 195, 3), (1587, .aload_n 2, 1), (1588, .invokevirtual 198, 3), (1591, .if_icmp .eq 929, 3), (1594, .iconst 0, 1), (1595, .ireturn, 1)]
theorem isL_23 : PL23.all (okI code) = true := by decide +kernel
set_option maxHeartbeats 4000000 in
set_option maxRecDepth 100000 in
theorem lc_23 {B : Nat} {X : XT} {I : TI} {L : TL} {b d t n c0 s0 : Nat} {Q : Option Value → MU → Prop} {QX : String → MU → Prop} (h6 : 6 * n + 6 ≤ gL G) (hL : gL G ≤ 3072) (hB : 1000000 ≤ B) (hB2 : B < 2 ^ 30) (hc : c0 + 3 ≤ 601024) (hs : s0 + 18 ≤ 7293034) (ht : txOK t) (hI : INV I L b d X B) (kk : LE9 G n B (c0 + 3) (s0 + 18) Q QX) : V G (YL PL23) 1583 (Lk n) [] (I, L, RT b d t, 457) c0 s0 Q QX := by
  refine v_aload_n (pc' := 1584) 0 3 rfl rfl rfl rfl ?_
  refine v_cV (Y2 := Y_X8_bestReplay) (As := []) (b := 0) (pc' := 1587) (c1 := c0) (s1 := s0) 1 rfl rfl mf_X8_bestReplay rfl rfl ml_L_195 mi_X8_bestReplay se_X8_bestReplay (ci := 7) rfl ly_0 (lay_lt ly_0 (by decide)) rfl (Nat.le_of_ble_eq_true rfl) ⟨show c0 + 0 ≤ 601024 by omega, show s0 + 0 ≤ 7293034 by omega⟩ rfl rfl (ok_X8_bestReplay _ _ _ _ hI.2.2.1.1 hI.2.2.1.2.1 (op_bestReplay (P := fun r r2 J M => r2 = r ∧ ∃ X2, INV J M b d X2 B) hI (by omega) (fun _ _ _ h => ⟨rfl, _, h⟩))) (fun _ _ q => q.elim) ?_
  intro v9 u9 hv9
  obtain ⟨k, L1, rfl, rfl, h⟩ := hv9
  refine ⟨fun q => absurd q (Nat.lt_irrefl _), ?_⟩
  show V G (YL PL23) 1587 _ (.int k :: _) _ _ _ _ _
  refine v_aload_n (pc' := 1588) 2 2 rfl rfl rfl rfl ?_
  refine v_cV (Y2 := Y_X9_bestReplay) (As := []) (b := 436) (pc' := 1591) (c1 := c0) (s1 := s0) 3 rfl rfl mf_X9_bestReplay rfl rfl ml_L_198 mi_X9_bestReplay se_X9_bestReplay (ci := 8) rfl ly_436 (lay_lt ly_436 (by decide)) rfl (Nat.le_of_ble_eq_true rfl) ⟨show c0 + 0 ≤ 601024 by omega, show s0 + 0 ≤ 7293034 by omega⟩ rfl rfl (ok_X9_bestReplay _ _ h) (fun _ _ q => q.elim) ?_
  intro v9 u9 hv9
  obtain ⟨r, I2, L2, rfl, rfl, h⟩ := hv9
  refine ⟨fun q => absurd q (Nat.lt_irrefl _), ?_⟩
  show V G (YL PL23) 1591 _ (.int r :: _) _ _ _ _ _
  obtain ⟨rfl, X2, h⟩ := h
  refine v_icmp_eq (tgt := 2520) (pc' := 1594) 4 rfl rfl (by decide) (fun _ => ?_) (fun q => absurd rfl q)
  exact V.widen (c1 := c0 + 3) (s1 := s0 + 18) (by omega) (by omega) (fun q => absurd q (Nat.lt_irrefl _)) (vw (P' := []) rfl (kk _ _ _ _ _ _ ht (h.mono (by omega))))
def PL24 : List (Nat × Instr × Nat) := [(1596, .aload_n 1, 1), (1597, .invokevirtual 199, 3), (1600, .aload_n 2, 1), (1601, .invokevirtual 202, 3), (1604, .if_icmp .eq 916, 3), (1607, .iconst 0, 1), (1608, .ireturn, 1)]
theorem isL_24 : PL24.all (okI code) = true := by decide +kernel
set_option maxHeartbeats 4000000 in
set_option maxRecDepth 100000 in
theorem lc_24 {B : Nat} {X : XT} {I : TI} {L : TL} {b d t n c0 s0 : Nat} {Q : Option Value → MU → Prop} {QX : String → MU → Prop} (h6 : 6 * n + 6 ≤ gL G) (hL : gL G ≤ 3072) (hB : 1000000 ≤ B) (hB2 : B < 2 ^ 30) (hc : c0 + 3 ≤ 601024) (hs : s0 + 18 ≤ 7293034) (ht : txOK t) (hI : INV I L b d X B) (kk : LE9 G n B (c0 + 3) (s0 + 18) Q QX) : V G (YL PL24) 1596 (Lk n) [] (I, L, RT b d t, 457) c0 s0 Q QX := by
  refine v_aload_n (pc' := 1597) 0 3 rfl rfl rfl rfl ?_
  refine v_cV (Y2 := Y_X8_misjudged) (As := []) (b := 0) (pc' := 1600) (c1 := c0) (s1 := s0) 1 rfl rfl mf_X8_misjudged rfl rfl ml_L_199 mi_X8_misjudged se_X8_misjudged (ci := 7) rfl ly_0 (lay_lt ly_0 (by decide)) rfl (Nat.le_of_ble_eq_true rfl) ⟨show c0 + 0 ≤ 601024 by omega, show s0 + 0 ≤ 7293034 by omega⟩ rfl rfl (ok_X8_misjudged _ _ _ _ hI.2.2.1.1 hI.2.2.1.2.1 (op_misjudged (P := fun r r2 J M => r2 = r ∧ ∃ X2, INV J M b d X2 B) hI (fun _ _ _ h => ⟨rfl, _, h⟩))) (fun _ _ q => q.elim) ?_
  intro v9 u9 hv9
  obtain ⟨k, rfl, rfl, h⟩ := hv9
  refine ⟨fun q => absurd q (Nat.lt_irrefl _), ?_⟩
  show V G (YL PL24) 1600 _ (.int k :: _) _ _ _ _ _
  refine v_aload_n (pc' := 1601) 2 2 rfl rfl rfl rfl ?_
  refine v_cV (Y2 := Y_X9_misjudged) (As := []) (b := 436) (pc' := 1604) (c1 := c0) (s1 := s0) 3 rfl rfl mf_X9_misjudged rfl rfl ml_L_202 mi_X9_misjudged se_X9_misjudged (ci := 8) rfl ly_436 (lay_lt ly_436 (by decide)) rfl (Nat.le_of_ble_eq_true rfl) ⟨show c0 + 0 ≤ 601024 by omega, show s0 + 0 ≤ 7293034 by omega⟩ rfl rfl (ok_X9_misjudged _ _ h) (fun _ _ q => q.elim) ?_
  intro v9 u9 hv9
  obtain ⟨r, I2, L2, rfl, rfl, h⟩ := hv9
  refine ⟨fun q => absurd q (Nat.lt_irrefl _), ?_⟩
  show V G (YL PL24) 1604 _ (.int r :: _) _ _ _ _ _
  obtain ⟨rfl, X2, h⟩ := h
  refine v_icmp_eq (tgt := 2520) (pc' := 1607) 4 rfl rfl (by decide) (fun _ => ?_) (fun q => absurd rfl q)
  exact V.widen (c1 := c0 + 3) (s1 := s0 + 18) (by omega) (by omega) (fun q => absurd q (Nat.lt_irrefl _)) (vw (P' := []) rfl (kk _ _ _ _ _ _ ht (h.mono (by omega))))
def PL25 : List (Nat × Instr × Nat) := [(1609, .aload_n 1, 1), (1610, .invokevirtual 203, 3), (1613, .dstore 5, 2), (1615, .aload_n 2, 1), (1616, .invokevirtual 207, 3), (1619, .dstore 7, 2), (1621, .dload 5, 2), (1623, .dload 7, 2), (1625, .dcmp .l, 1), (1626, .ifCond .eq 21, 3), (1629, .dload 5, 2), (1631, .dload 5, 2), (1633, .dcmp .l, 1), (1634, .ifCond .eq 11, 3), (1637, .dload 7, 2), (1639, .dload 7, 2), (1641, .dcmp .l, 1), (1642, .ifCond .ne 5, 3), (1645, .iconst 0, 1), (1646, .ireturn, 1), (1647, .goto 873, 3)]
theorem isL_25 : PL25.all (okI code) = true := by decide +kernel
set_option maxHeartbeats 4000000 in
set_option maxRecDepth 100000 in
theorem lc_25 {B : Nat} {X : XT} {I : TI} {L : TL} {b d t n c0 s0 : Nat} {Q : Option Value → MU → Prop} {QX : String → MU → Prop} (h6 : 6 * n + 6 ≤ gL G) (hL : gL G ≤ 3072) (hB : 1000000 ≤ B) (hB2 : B < 2 ^ 30) (hc : c0 + 3 ≤ 601024) (hs : s0 + 18 ≤ 7293034) (ht : txOK t) (hI : INV I L b d X B) (kk : LE9 G n B (c0 + 3) (s0 + 18) Q QX) : V G (YL PL25) 1609 (Lk n) [] (I, L, RT b d t, 457) c0 s0 Q QX := by
  refine v_aload_n (pc' := 1610) 0 3 rfl rfl rfl rfl ?_
  refine v_cV (Y2 := Y_X8_excess) (As := []) (b := 0) (pc' := 1613) (c1 := c0) (s1 := s0) 1 rfl rfl mf_X8_excess rfl rfl ml_L_203 mi_X8_excess se_X8_excess (ci := 7) rfl ly_0 (lay_lt ly_0 (by decide)) rfl (Nat.le_of_ble_eq_true rfl) ⟨show c0 + 0 ≤ 601024 by omega, show s0 + 0 ≤ 7293034 by omega⟩ rfl rfl (ok_X8_excess _ _ _ _ hI.2.2.1.1 hI.2.2.1.2.1 (op_excess (P := fun r r2 J M => r2 = r ∧ ∃ X2, INV J M b d X2 B) hI (fun _ _ _ h => ⟨rfl, _, h⟩))) (fun _ _ q => q.elim) ?_
  intro v9 u9 hv9
  obtain ⟨k, rfl, rfl, h⟩ := hv9
  refine ⟨fun q => absurd q (Nat.lt_irrefl _), ?_⟩
  show V G (YL PL25) 1613 _ (.double k :: _) _ _ _ _ _
  refine v_dstore (pc' := 1615) 2 rfl rfl (by decide) rfl ?_
  refine v_aload_n (pc' := 1616) 3 3 rfl rfl rfl rfl ?_
  refine v_cV (Y2 := Y_X9_excess) (As := []) (b := 436) (pc' := 1619) (c1 := c0) (s1 := s0) 4 rfl rfl mf_X9_excess rfl rfl ml_L_207 mi_X9_excess se_X9_excess (ci := 8) rfl ly_436 (lay_lt ly_436 (by decide)) rfl (Nat.le_of_ble_eq_true rfl) ⟨show c0 + 0 ≤ 601024 by omega, show s0 + 0 ≤ 7293034 by omega⟩ rfl rfl (ok_X9_excess _ _ h) (fun _ _ q => q.elim) ?_
  intro v9 u9 hv9
  obtain ⟨r, I2, L2, rfl, rfl, h⟩ := hv9
  refine ⟨fun q => absurd q (Nat.lt_irrefl _), ?_⟩
  show V G (YL PL25) 1619 _ (.double r :: _) _ _ _ _ _
  refine v_dstore (pc' := 1621) 5 rfl rfl (by decide) rfl ?_
  obtain ⟨rfl, X2, h⟩ := h
  refine v_dload (pc' := 1623) 6 1 rfl rfl rfl ?_
  refine v_dload (pc' := 1625) 7 0 rfl rfl rfl ?_
  refine v_dcmp (pc' := 1626) 8 rfl rfl ?_
  refine v_if_eq (tgt := 1647) (pc' := 1629) 9 rfl rfl (by decide) (fun _ => v_goto (tgt := 2520) 20 rfl (by decide) (V.sub [2, 3, 4, 5, 6] rfl (V.widen (c1 := c0 + 3) (s1 := s0 + 18) (by omega) (by omega) (fun q => absurd q (Nat.lt_irrefl _)) (vw (P' := []) rfl (kk _ _ _ _ _ _ ht (h.mono (by omega))))))) (fun q1 => ?_)
  refine v_dload (pc' := 1631) 10 1 rfl rfl rfl ?_
  refine v_dload (pc' := 1633) 11 1 rfl rfl rfl ?_
  refine v_dcmp (pc' := 1634) 12 rfl rfl ?_
  refine v_if_eq (tgt := 1645) (pc' := 1637) 13 rfl rfl (by decide) (fun q => absurd q q1) (fun _ => ?_)
  refine v_dload (pc' := 1639) 14 0 rfl rfl rfl ?_
  refine v_dload (pc' := 1641) 15 0 rfl rfl rfl ?_
  refine v_dcmp (pc' := 1642) 16 rfl rfl ?_
  exact v_if_ne (tgt := 1647) (pc' := 1645) 17 rfl rfl (by decide) (fun _ => v_goto (tgt := 2520) 20 rfl (by decide) (V.sub [2, 3, 4, 5, 6] rfl (V.widen (c1 := c0 + 3) (s1 := s0 + 18) (by omega) (by omega) (fun q => absurd q (Nat.lt_irrefl _)) (vw (P' := []) rfl (kk _ _ _ _ _ _ ht (h.mono (by omega))))))) (fun q => absurd q q1)
def PL26 : List (Nat × Instr × Nat) := [(1650, .aload_n 1, 1), (1651, .invokevirtual 208, 3), (1654, .f2d, 1), (1655, .dstore 5, 2), (1657, .aload_n 2, 1), (1658, .invokevirtual 212, 3), (1661, .f2d, 1), (1662, .dstore 7, 2), (1664, .dload 5, 2), (1666, .dload 7, 2), (1668, .dcmp .l, 1), (1669, .ifCond .eq 21, 3), (1672, .dload 5, 2), (1674, .dload 5, 2), (1676, .dcmp .l, 1), (1677, .ifCond .eq 11, 3), (1680, .dload 7, 2), (1682, .dload 7, 2), (1684, .dcmp .l, 1), (1685, .ifCond .ne 5, 3), (1688, .iconst 0, 1), (1689, .ireturn, 1), (1690, .goto 830, 3)]
theorem isL_26 : PL26.all (okI code) = true := by decide +kernel
set_option maxHeartbeats 4000000 in
set_option maxRecDepth 100000 in
theorem lc_26 {B : Nat} {X : XT} {I : TI} {L : TL} {b d t n c0 s0 : Nat} {Q : Option Value → MU → Prop} {QX : String → MU → Prop} (h6 : 6 * n + 6 ≤ gL G) (hL : gL G ≤ 3072) (hB : 1000000 ≤ B) (hB2 : B < 2 ^ 30) (hc : c0 + 3 ≤ 601024) (hs : s0 + 18 ≤ 7293034) (ht : txOK t) (hI : INV I L b d X B) (kk : LE9 G n B (c0 + 3) (s0 + 18) Q QX) : V G (YL PL26) 1650 (Lk n) [] (I, L, RT b d t, 457) c0 s0 Q QX := by
  refine v_aload_n (pc' := 1651) 0 3 rfl rfl rfl rfl ?_
  refine v_cV (Y2 := Y_X8_settledShare) (As := []) (b := 0) (pc' := 1654) (c1 := c0) (s1 := s0) 1 rfl rfl mf_X8_settledShare rfl rfl ml_L_208 mi_X8_settledShare se_X8_settledShare (ci := 7) rfl ly_0 (lay_lt ly_0 (by decide)) rfl (Nat.le_of_ble_eq_true rfl) ⟨show c0 + 0 ≤ 601024 by omega, show s0 + 0 ≤ 7293034 by omega⟩ rfl rfl (ok_X8_settledShare _ _ _ _ hI.2.2.1.1 hI.2.2.1.2.1 (op_settledShare (P := fun r r2 J M => r2 = r ∧ ∃ X2, INV J M b d X2 B) hI (fun _ _ _ h => ⟨rfl, _, h⟩))) (fun _ _ q => q.elim) ?_
  intro v9 u9 hv9
  obtain ⟨k, rfl, rfl, h⟩ := hv9
  refine ⟨fun q => absurd q (Nat.lt_irrefl _), ?_⟩
  obtain ⟨hN, h⟩ := h
  show V G (YL PL26) 1654 _ (.float k :: _) _ _ _ _ _
  refine v_f2d (pc' := 1655) 2 rfl rfl (fp_f2d hN) ?_
  refine v_dstore (pc' := 1657) 3 rfl rfl (by decide) rfl ?_
  refine v_aload_n (pc' := 1658) 4 3 rfl rfl rfl rfl ?_
  refine v_cV (Y2 := Y_X9_settledShare) (As := []) (b := 436) (pc' := 1661) (c1 := c0) (s1 := s0) 5 rfl rfl mf_X9_settledShare rfl rfl ml_L_212 mi_X9_settledShare se_X9_settledShare (ci := 8) rfl ly_436 (lay_lt ly_436 (by decide)) rfl (Nat.le_of_ble_eq_true rfl) ⟨show c0 + 0 ≤ 601024 by omega, show s0 + 0 ≤ 7293034 by omega⟩ rfl rfl (ok_X9_settledShare _ _ h) (fun _ _ q => q.elim) ?_
  intro v9 u9 hv9
  obtain ⟨r, I2, rfl, rfl, h⟩ := hv9
  refine ⟨fun q => absurd q (Nat.lt_irrefl _), ?_⟩
  obtain ⟨rfl, X2, h⟩ := h
  show V G (YL PL26) 1661 _ (.float r :: _) _ _ _ _ _
  refine v_f2d (pc' := 1662) 6 rfl rfl (fp_f2d hN) ?_
  refine v_dstore (pc' := 1664) 7 rfl rfl (by decide) rfl ?_
  refine v_dload (pc' := 1666) 8 1 rfl rfl rfl ?_
  refine v_dload (pc' := 1668) 9 0 rfl rfl rfl ?_
  refine v_dcmp (pc' := 1669) 10 rfl rfl ?_
  refine v_if_eq (tgt := 1690) (pc' := 1672) 11 rfl rfl (by decide) (fun _ => v_goto (tgt := 2520) 22 rfl (by decide) (V.sub [2, 3, 4, 5, 6] rfl (V.widen (c1 := c0 + 3) (s1 := s0 + 18) (by omega) (by omega) (fun q => absurd q (Nat.lt_irrefl _)) (vw (P' := []) rfl (kk _ _ _ _ _ _ ht (h.mono (by omega))))))) (fun q1 => ?_)
  refine v_dload (pc' := 1674) 12 1 rfl rfl rfl ?_
  refine v_dload (pc' := 1676) 13 1 rfl rfl rfl ?_
  refine v_dcmp (pc' := 1677) 14 rfl rfl ?_
  refine v_if_eq (tgt := 1688) (pc' := 1680) 15 rfl rfl (by decide) (fun q => absurd q q1) (fun _ => ?_)
  refine v_dload (pc' := 1682) 16 0 rfl rfl rfl ?_
  refine v_dload (pc' := 1684) 17 0 rfl rfl rfl ?_
  refine v_dcmp (pc' := 1685) 18 rfl rfl ?_
  exact v_if_ne (tgt := 1690) (pc' := 1688) 19 rfl rfl (by decide) (fun _ => v_goto (tgt := 2520) 22 rfl (by decide) (V.sub [2, 3, 4, 5, 6] rfl (V.widen (c1 := c0 + 3) (s1 := s0 + 18) (by omega) (by omega) (fun q => absurd q (Nat.lt_irrefl _)) (vw (P' := []) rfl (kk _ _ _ _ _ _ ht (h.mono (by omega))))))) (fun q => absurd q q1)
def PL27 : List (Nat × Instr × Nat) := [(1693, .aload_n 1, 1), (1694, .aload_n 0, 1), (1695, .iload 4, 2), (1697, .iconst 1, 1), (1698, .iadd, 1), (1699, .iaload, 1), (1700, .aload_n 0, 1), (1701, .iload 4, 2), (1703, .iconst 2, 1), (1704, .iadd, 1), (1705, .iaload, 1), (1706, .aload_n 0, 1), (1707, .iload 4, 2), (1709, .iconst 3, 1), (1710, .iadd, 1), (1711, .iaload, 1), (1712, .aload_n 0, 1), (1713, .iload 4, 2), (1715, .iconst 4, 1), (1716, .iadd, 1), (1717, .iaload, 1), (1718, .ifCond .eq 7, 3), (1721, .iconst 1, 1), (1722, .goto 4, 3), (1725, .iconst 0, 1), (1726, .aload_n 3, 1), (1727, .invokestatic 213, 3), (1730, .istore 5, 2), (1732, .aload_n 2, 1), (1733, .aload_n 0, 1), (1734, .iload 4, 2), (1736, .iconst 1, 1), (1737, .iadd, 1), (1738, .iaload, 1), (1739, .aload_n 0, 1), (1740, .iload 4, 2), (1742, .iconst 2, 1), (1743, .iadd, 1), (1744, .iaload, 1), (1745, .aload_n 0, 1), (1746, .iload 4, 2), (1748, .iconst 3, 1), (1749, .iadd, 1), (1750, .iaload, 1), (1751, .aload_n 0, 1), (1752, .iload 4, 2), (1754, .iconst 4, 1), (1755, .iadd, 1), (1756, .iaload, 1), (1757, .ifCond .eq 7, 3), (1760, .iconst 1, 1), (1761, .goto 4, 3), (1764, .iconst 0, 1), (1765, .invokevirtual 216, 3), (1768, .istore 6, 2), (1770, .aload_n 2, 1), (1771, .invokevirtual 123, 3), (1774, .iload 5, 2), (1776, .if_icmp .eq 5, 3), (1779, .iconst 0, 1), (1780, .ireturn, 1), (1781, .iload 5, 2), (1783, .ifCond .ne 15, 3), (1786, .aload_n 3, 1), (1787, .iconst 0, 1), (1788, .laload, 1), (1789, .iload 6, 2), (1791, .i2l, 1), (1792, .lcmp, 1), (1793, .ifCond .eq 5, 3), (1796, .iconst 0, 1), (1797, .ireturn, 1), (1798, .goto 722, 3)]
theorem isL_27 : PL27.all (okI code) = true := by decide +kernel
set_option maxHeartbeats 4000000 in
set_option maxRecDepth 100000 in
theorem lc_27 {B : Nat} {X : XT} {I : TI} {L : TL} {b d t n c0 s0 : Nat} {Q : Option Value → MU → Prop} {QX : String → MU → Prop} (h6 : 6 * n + 6 ≤ gL G) (hL : gL G ≤ 3072) (hB : 1000000 ≤ B) (hB2 : B < 2 ^ 30) (hc : c0 + 3 ≤ 601024) (hs : s0 + 18 ≤ 7293034) (ht : txOK t) (hI : INV I L b d X B) (kk : LE9 G n B (c0 + 3) (s0 + 18) Q QX) : V G (YL PL27) 1693 (Lk n) [] (I, L, RT b d t, 457) c0 s0 Q QX := by
  refine v_aload_n (pc' := 1694) 0 3 rfl rfl rfl rfl ?_
  refine v_arg (pc' := 1700) (j := 1) (o := 0) 1 rfl rfl rfl rfl rfl rfl rfl rfl (by decide) (by decide) h6 hL ?_
  refine v_arg (pc' := 1706) (j := 2) (o := 0) 6 rfl rfl rfl rfl rfl rfl rfl rfl (by decide) (by decide) h6 hL ?_
  refine v_arg (pc' := 1712) (j := 3) (o := 0) 11 rfl rfl rfl rfl rfl rfl rfl rfl (by decide) (by decide) h6 hL ?_
  refine v_arg (pc' := 1718) (j := 4) (o := 0) 16 rfl rfl rfl rfl rfl rfl rfl rfl (by decide) (by decide) h6 hL ?_
  refine v_bz (pc' := 1726) 21 rfl rfl rfl rfl rfl ?_
  refine v_aload_n (pc' := 1727) 25 1 rfl rfl rfl rfl ?_
  refine v_cSX (Y2 := Y_L_open) (As := [.ref 0, .int (AR G n 1), .int (AR G n 2), .int (AR G n 3), .int (bz (AR G n 4)), .ref 456]) (pc' := 1730) (c1 := c0 + 3) (s1 := s0 + 18) 26 rfl rfl mf_L_open rfl rfl ml_L_213 ms_L_open rfl (Nat.le_of_ble_eq_true rfl) ⟨show c0 + 3 ≤ 601024 by omega, show s0 + 18 ≤ 7293034 by omega⟩ rfl rfl (ok_L_open _ _ _ _ _ _ _ _ hI.2.2.1.1 hI.2.2.1.2.1 (op_open (P := fun k r J M => ∃ X2, OKL k r.toInt64 J M b d X2 B) hI (bz_01 _) (fun _ _ _ _ X2 h => ⟨X2, h⟩))) (fun _ _ q => q.elim) ?_
  intro v9 u9 hv9
  obtain ⟨k, I1, L1, rfl, rfl, h⟩ := hv9
  refine ⟨fun q => absurd q (Nat.lt_irrefl _), ?_⟩
  show V G (YL PL27) 1730 _ (.int k :: _) _ _ _ _ _
  refine v_istore (pc' := 1732) 27 rfl rfl (by decide) rfl ?_
  refine v_aload_n (pc' := 1733) 28 3 rfl rfl rfl rfl ?_
  refine v_arg (pc' := 1739) (j := 1) (o := 1) 29 rfl rfl rfl rfl rfl rfl rfl rfl (by decide) (by decide) h6 hL ?_
  refine v_arg (pc' := 1745) (j := 2) (o := 1) 34 rfl rfl rfl rfl rfl rfl rfl rfl (by decide) (by decide) h6 hL ?_
  refine v_arg (pc' := 1751) (j := 3) (o := 1) 39 rfl rfl rfl rfl rfl rfl rfl rfl (by decide) (by decide) h6 hL ?_
  refine v_arg (pc' := 1757) (j := 4) (o := 1) 44 rfl rfl rfl rfl rfl rfl rfl rfl (by decide) (by decide) h6 hL ?_
  refine v_bz (pc' := 1765) 49 rfl rfl rfl rfl rfl ?_
  refine v_cV (Y2 := Y_X9_open) (As := [.int (AR G n 1), .int (AR G n 2), .int (AR G n 3), .int (bz (AR G n 4))]) (b := 436) (pc' := 1768) (c1 := c0 + 3) (s1 := s0 + 18) 53 rfl rfl mf_X9_open rfl rfl ml_L_216 mi_X9_open se_X9_open (ci := 8) rfl ly_436 (lay_lt ly_436 (by decide)) rfl (Nat.le_of_ble_eq_true rfl) ⟨show c0 + 3 + 0 ≤ 601024 by omega, show s0 + 18 + 0 ≤ 7293034 by omega⟩ rfl rfl (ok_X9_open _ _ _ _ _ _ h) (fun _ _ q => q.elim) ?_
  intro v9 u9 hv9
  obtain ⟨r, I2, L2, rfl, rfl, h⟩ := hv9
  refine ⟨fun q => absurd q (Nat.lt_irrefl _), ?_⟩
  show V G (YL PL27) 1768 _ (.int r :: _) _ _ _ _ _
  refine v_istore (pc' := 1770) 54 rfl rfl (by decide) rfl ?_
  refine v_aload_n (pc' := 1771) 55 4 rfl rfl rfl rfl ?_
  refine v_cV (Y2 := Y_X9_thrown) (As := []) (b := 436) (pc' := 1774) (c1 := c0 + 3) (s1 := s0 + 18) 56 rfl rfl mf_X9_thrown rfl rfl ml_L_123 mi_X9_thrown se_X9_thrown (ci := 8) rfl ly_436 (lay_lt ly_436 (by decide)) rfl (Nat.le_of_ble_eq_true rfl) ⟨show c0 + 3 + 0 ≤ 601024 by omega, show s0 + 18 + 0 ≤ 7293034 by omega⟩ rfl rfl (ok_X9_thrown _ _ (show W_X9_thrown _ _ (fun r => r = _) from rfl)) (fun _ _ q => q.elim) ?_
  intro v9 u9 hv9
  obtain ⟨w, rfl, rfl, hw⟩ := hv9
  refine ⟨fun q => absurd q (Nat.lt_irrefl _), ?_⟩
  show V G (YL PL27) 1774 _ (.int w :: _) _ _ _ _ _
  refine v_iload (pc' := 1776) 57 1 rfl rfl rfl ?_
  obtain ⟨X2, h⟩ := h
  refine v_icmp_eq (tgt := 1781) (pc' := 1779) 58 rfl rfl (by decide) (fun _ => ?_) (fun q => absurd (hw.trans h.1) q)
  refine v_iload (pc' := 1783) 61 1 rfl rfl rfl ?_
  refine v_if_ne (tgt := 1798) (pc' := 1786) 62 rfl rfl (by decide) (fun _ => v_goto (tgt := 2520) 72 rfl (by decide) (V.sub [2, 3, 4, 5, 6] rfl (V.widen (c1 := c0 + 3) (s1 := s0 + 18) (by omega) (by omega) (fun q => absurd q (Nat.lt_irrefl _)) (vw (P' := []) rfl (kk _ _ _ _ _ _ ht (h.2.2.mono (by omega))))))) (fun hk => ?_)
  refine v_aload_n (pc' := 1787) 63 3 rfl rfl rfl rfl ?_
  refine v_iconst (v := 0) (pc' := 1788) 64 rfl rfl (by decide) ?_
  refine v_lald (i := 0) (j := 0) (pc' := 1789) 65 rfl rfl ly_456 ln_456 (lay_lt ly_456 (by decide)) (vp_lit (by decide)) (by decide) ?_
  refine v_iload (pc' := 1791) 66 0 rfl rfl rfl ?_
  refine v_i2l (pc' := 1792) 67 rfl rfl ?_
  refine v_lcmp (pc' := 1793) 68 rfl rfl ?_
  exact v_if_eq (tgt := 1798) (pc' := 1796) 69 rfl rfl (by decide) (fun _ => v_goto (tgt := 2520) 72 rfl (by decide) (V.sub [2, 3, 4, 5, 6] rfl (V.widen (c1 := c0 + 3) (s1 := s0 + 18) (by omega) (by omega) (fun q => absurd q (Nat.lt_irrefl _)) (vw (P' := []) rfl (kk _ _ _ _ _ _ ht (h.2.2.mono (by omega))))))) (fun q => absurd (lgc_eq.mpr (h.2.1 hk)) q)
def PL28 : List (Nat × Instr × Nat) := [(1801, .aload_n 1, 1), (1802, .aload_n 0, 1), (1803, .iload 4, 2), (1805, .iconst 1, 1), (1806, .iadd, 1), (1807, .iaload, 1), (1808, .aload_n 3, 1), (1809, .invokestatic 217, 3), (1812, .istore 5, 2), (1814, .aload_n 2, 1), (1815, .aload_n 0, 1), (1816, .iload 4, 2), (1818, .iconst 1, 1), (1819, .iadd, 1), (1820, .iaload, 1), (1821, .invokevirtual 219, 3), (1824, .istore 6, 2), (1826, .aload_n 2, 1), (1827, .invokevirtual 123, 3), (1830, .iload 5, 2), (1832, .if_icmp .eq 5, 3), (1835, .iconst 0, 1), (1836, .ireturn, 1), (1837, .iload 5, 2), (1839, .ifCond .ne 15, 3), (1842, .aload_n 3, 1), (1843, .iconst 0, 1), (1844, .laload, 1), (1845, .iload 6, 2), (1847, .i2l, 1), (1848, .lcmp, 1), (1849, .ifCond .eq 5, 3), (1852, .iconst 0, 1), (1853, .ireturn, 1), (1854, .goto 666, 3)]
theorem isL_28 : PL28.all (okI code) = true := by decide +kernel
set_option maxHeartbeats 4000000 in
set_option maxRecDepth 100000 in
theorem lc_28 {B : Nat} {X : XT} {I : TI} {L : TL} {b d t n c0 s0 : Nat} {Q : Option Value → MU → Prop} {QX : String → MU → Prop} (h6 : 6 * n + 6 ≤ gL G) (hL : gL G ≤ 3072) (hB : 1000000 ≤ B) (hB2 : B < 2 ^ 30) (hc : c0 + 3 ≤ 601024) (hs : s0 + 18 ≤ 7293034) (ht : txOK t) (hI : INV I L b d X B) (kk : LE9 G n B (c0 + 3) (s0 + 18) Q QX) : V G (YL PL28) 1801 (Lk n) [] (I, L, RT b d t, 457) c0 s0 Q QX := by
  refine v_aload_n (pc' := 1802) 0 3 rfl rfl rfl rfl ?_
  refine v_arg (pc' := 1808) (j := 1) (o := 0) 1 rfl rfl rfl rfl rfl rfl rfl rfl (by decide) (by decide) h6 hL ?_
  refine v_aload_n (pc' := 1809) 6 1 rfl rfl rfl rfl ?_
  refine v_cSX (Y2 := Y_L_judge) (As := [.ref 0, .int (AR G n 1), .ref 456]) (pc' := 1812) (c1 := c0 + 1) (s1 := s0 + 6) 7 rfl rfl mf_L_judge rfl rfl ml_L_217 ms_L_judge rfl (Nat.le_of_ble_eq_true rfl) ⟨show c0 + 1 ≤ 601024 by omega, show s0 + 6 ≤ 7293034 by omega⟩ rfl rfl (ok_L_judge _ _ _ _ _ hI.2.2.1.1 hI.2.2.1.2.1 (op_judge (P := fun k r J M => ∃ X2, OKL k r.toInt64 J M b d X2 (B + 10000)) hI hB2 (fun _ _ _ _ X2 h => ⟨X2, h⟩))) (fun _ _ q => q.elim) ?_
  intro v9 u9 hv9
  obtain ⟨k, I1, L1, rfl, rfl, h⟩ := hv9
  refine ⟨fun q => absurd q (Nat.lt_irrefl _), ?_⟩
  show V G (YL PL28) 1812 _ (.int k :: _) _ _ _ _ _
  refine v_istore (pc' := 1814) 8 rfl rfl (by decide) rfl ?_
  refine v_aload_n (pc' := 1815) 9 3 rfl rfl rfl rfl ?_
  refine v_arg (pc' := 1821) (j := 1) (o := 1) 10 rfl rfl rfl rfl rfl rfl rfl rfl (by decide) (by decide) h6 hL ?_
  refine v_cV (Y2 := Y_X9_judge) (As := [.int (AR G n 1)]) (b := 436) (pc' := 1824) (c1 := c0 + 1) (s1 := s0 + 6) 15 rfl rfl mf_X9_judge rfl rfl ml_L_219 mi_X9_judge se_X9_judge (ci := 8) rfl ly_436 (lay_lt ly_436 (by decide)) rfl (Nat.le_of_ble_eq_true rfl) ⟨show c0 + 1 + 0 ≤ 601024 by omega, show s0 + 6 + 0 ≤ 7293034 by omega⟩ rfl rfl (ok_X9_judge _ _ _ h) (fun _ _ q => q.elim) ?_
  intro v9 u9 hv9
  obtain ⟨r, I2, L2, rfl, rfl, h⟩ := hv9
  refine ⟨fun q => absurd q (Nat.lt_irrefl _), ?_⟩
  show V G (YL PL28) 1824 _ (.int r :: _) _ _ _ _ _
  refine v_istore (pc' := 1826) 16 rfl rfl (by decide) rfl ?_
  refine v_aload_n (pc' := 1827) 17 4 rfl rfl rfl rfl ?_
  refine v_cV (Y2 := Y_X9_thrown) (As := []) (b := 436) (pc' := 1830) (c1 := c0 + 1) (s1 := s0 + 6) 18 rfl rfl mf_X9_thrown rfl rfl ml_L_123 mi_X9_thrown se_X9_thrown (ci := 8) rfl ly_436 (lay_lt ly_436 (by decide)) rfl (Nat.le_of_ble_eq_true rfl) ⟨show c0 + 1 + 0 ≤ 601024 by omega, show s0 + 6 + 0 ≤ 7293034 by omega⟩ rfl rfl (ok_X9_thrown _ _ (show W_X9_thrown _ _ (fun r => r = _) from rfl)) (fun _ _ q => q.elim) ?_
  intro v9 u9 hv9
  obtain ⟨w, rfl, rfl, hw⟩ := hv9
  refine ⟨fun q => absurd q (Nat.lt_irrefl _), ?_⟩
  show V G (YL PL28) 1830 _ (.int w :: _) _ _ _ _ _
  refine v_iload (pc' := 1832) 19 1 rfl rfl rfl ?_
  obtain ⟨X2, h⟩ := h
  refine v_icmp_eq (tgt := 1837) (pc' := 1835) 20 rfl rfl (by decide) (fun _ => ?_) (fun q => absurd (hw.trans h.1) q)
  refine v_iload (pc' := 1839) 23 1 rfl rfl rfl ?_
  refine v_if_ne (tgt := 1854) (pc' := 1842) 24 rfl rfl (by decide) (fun _ => v_goto (tgt := 2520) 34 rfl (by decide) (V.sub [2, 3, 4, 5, 6] rfl (V.widen (c1 := c0 + 3) (s1 := s0 + 18) (by omega) (by omega) (fun q => absurd q (Nat.lt_irrefl _)) (vw (P' := []) rfl (kk _ _ _ _ _ _ ht (h.2.2.mono (by omega))))))) (fun hk => ?_)
  refine v_aload_n (pc' := 1843) 25 3 rfl rfl rfl rfl ?_
  refine v_iconst (v := 0) (pc' := 1844) 26 rfl rfl (by decide) ?_
  refine v_lald (i := 0) (j := 0) (pc' := 1845) 27 rfl rfl ly_456 ln_456 (lay_lt ly_456 (by decide)) (vp_lit (by decide)) (by decide) ?_
  refine v_iload (pc' := 1847) 28 0 rfl rfl rfl ?_
  refine v_i2l (pc' := 1848) 29 rfl rfl ?_
  refine v_lcmp (pc' := 1849) 30 rfl rfl ?_
  exact v_if_eq (tgt := 1854) (pc' := 1852) 31 rfl rfl (by decide) (fun _ => v_goto (tgt := 2520) 34 rfl (by decide) (V.sub [2, 3, 4, 5, 6] rfl (V.widen (c1 := c0 + 3) (s1 := s0 + 18) (by omega) (by omega) (fun q => absurd q (Nat.lt_irrefl _)) (vw (P' := []) rfl (kk _ _ _ _ _ _ ht (h.2.2.mono (by omega))))))) (fun q => absurd (lgc_eq.mpr (h.2.1 hk)) q)
def PL29 : List (Nat × Instr × Nat) := [(1857, .aload_n 1, 1), (1858, .aload_n 0, 1), (1859, .iload 4, 2), (1861, .iconst 1, 1), (1862, .iadd, 1), (1863, .iaload, 1), (1864, .aload_n 3, 1), (1865, .invokestatic 220, 3), (1868, .istore 5, 2), (1870, .aload_n 2, 1), (1871, .aload_n 0, 1), (1872, .iload 4, 2), (1874, .iconst 1, 1), (1875, .iadd, 1), (1876, .iaload, 1), (1877, .invokevirtual 222, 3), (1880, .istore 6, 2), (1882, .aload_n 2, 1), (1883, .invokevirtual 123, 3), (1886, .iload 5, 2), (1888, .if_icmp .eq 5, 3), (1891, .iconst 0, 1), (1892, .ireturn, 1), (1893, .iload 5, 2), (1895, .ifCond .ne 15, 3), (1898, .aload_n 3, 1), (1899, .iconst 0, 1), (1900, .laload, 1), (1901, .iload 6, 2), (1903, .i2l, 1), (1904, .lcmp, 1), (1905, .ifCond .eq 5, 3), (1908, .iconst 0, 1), (1909, .ireturn, 1), (1910, .goto 610, 3)]
theorem isL_29 : PL29.all (okI code) = true := by decide +kernel
set_option maxHeartbeats 4000000 in
set_option maxRecDepth 100000 in
theorem lc_29 {B : Nat} {X : XT} {I : TI} {L : TL} {b d t n c0 s0 : Nat} {Q : Option Value → MU → Prop} {QX : String → MU → Prop} (h6 : 6 * n + 6 ≤ gL G) (hL : gL G ≤ 3072) (hB : 1000000 ≤ B) (hB2 : B < 2 ^ 30) (hc : c0 + 3 ≤ 601024) (hs : s0 + 18 ≤ 7293034) (ht : txOK t) (hI : INV I L b d X B) (kk : LE9 G n B (c0 + 3) (s0 + 18) Q QX) : V G (YL PL29) 1857 (Lk n) [] (I, L, RT b d t, 457) c0 s0 Q QX := by
  refine v_aload_n (pc' := 1858) 0 3 rfl rfl rfl rfl ?_
  refine v_arg (pc' := 1864) (j := 1) (o := 0) 1 rfl rfl rfl rfl rfl rfl rfl rfl (by decide) (by decide) h6 hL ?_
  refine v_aload_n (pc' := 1865) 6 1 rfl rfl rfl rfl ?_
  refine v_cSX (Y2 := Y_L_appeal) (As := [.ref 0, .int (AR G n 1), .ref 456]) (pc' := 1868) (c1 := c0 + 1) (s1 := s0 + 6) 7 rfl rfl mf_L_appeal rfl rfl ml_L_220 ms_L_appeal rfl (Nat.le_of_ble_eq_true rfl) ⟨show c0 + 1 ≤ 601024 by omega, show s0 + 6 ≤ 7293034 by omega⟩ rfl rfl (ok_L_appeal _ _ _ _ _ hI.2.2.1.1 hI.2.2.1.2.1 (op_appeal (P := fun k r J M => ∃ X2, OKL k r.toInt64 J M b d X2 (B + 10000)) hI hB2 (fun _ _ _ _ X2 h => ⟨X2, h⟩))) (fun _ _ q => q.elim) ?_
  intro v9 u9 hv9
  obtain ⟨k, I1, L1, rfl, rfl, h⟩ := hv9
  refine ⟨fun q => absurd q (Nat.lt_irrefl _), ?_⟩
  show V G (YL PL29) 1868 _ (.int k :: _) _ _ _ _ _
  refine v_istore (pc' := 1870) 8 rfl rfl (by decide) rfl ?_
  refine v_aload_n (pc' := 1871) 9 3 rfl rfl rfl rfl ?_
  refine v_arg (pc' := 1877) (j := 1) (o := 1) 10 rfl rfl rfl rfl rfl rfl rfl rfl (by decide) (by decide) h6 hL ?_
  refine v_cV (Y2 := Y_X9_appeal) (As := [.int (AR G n 1)]) (b := 436) (pc' := 1880) (c1 := c0 + 1) (s1 := s0 + 6) 15 rfl rfl mf_X9_appeal rfl rfl ml_L_222 mi_X9_appeal se_X9_appeal (ci := 8) rfl ly_436 (lay_lt ly_436 (by decide)) rfl (Nat.le_of_ble_eq_true rfl) ⟨show c0 + 1 + 0 ≤ 601024 by omega, show s0 + 6 + 0 ≤ 7293034 by omega⟩ rfl rfl (ok_X9_appeal _ _ _ h) (fun _ _ q => q.elim) ?_
  intro v9 u9 hv9
  obtain ⟨r, I2, L2, rfl, rfl, h⟩ := hv9
  refine ⟨fun q => absurd q (Nat.lt_irrefl _), ?_⟩
  show V G (YL PL29) 1880 _ (.int r :: _) _ _ _ _ _
  refine v_istore (pc' := 1882) 16 rfl rfl (by decide) rfl ?_
  refine v_aload_n (pc' := 1883) 17 4 rfl rfl rfl rfl ?_
  refine v_cV (Y2 := Y_X9_thrown) (As := []) (b := 436) (pc' := 1886) (c1 := c0 + 1) (s1 := s0 + 6) 18 rfl rfl mf_X9_thrown rfl rfl ml_L_123 mi_X9_thrown se_X9_thrown (ci := 8) rfl ly_436 (lay_lt ly_436 (by decide)) rfl (Nat.le_of_ble_eq_true rfl) ⟨show c0 + 1 + 0 ≤ 601024 by omega, show s0 + 6 + 0 ≤ 7293034 by omega⟩ rfl rfl (ok_X9_thrown _ _ (show W_X9_thrown _ _ (fun r => r = _) from rfl)) (fun _ _ q => q.elim) ?_
  intro v9 u9 hv9
  obtain ⟨w, rfl, rfl, hw⟩ := hv9
  refine ⟨fun q => absurd q (Nat.lt_irrefl _), ?_⟩
  show V G (YL PL29) 1886 _ (.int w :: _) _ _ _ _ _
  refine v_iload (pc' := 1888) 19 1 rfl rfl rfl ?_
  obtain ⟨X2, h⟩ := h
  refine v_icmp_eq (tgt := 1893) (pc' := 1891) 20 rfl rfl (by decide) (fun _ => ?_) (fun q => absurd (hw.trans h.1) q)
  refine v_iload (pc' := 1895) 23 1 rfl rfl rfl ?_
  refine v_if_ne (tgt := 1910) (pc' := 1898) 24 rfl rfl (by decide) (fun _ => v_goto (tgt := 2520) 34 rfl (by decide) (V.sub [2, 3, 4, 5, 6] rfl (V.widen (c1 := c0 + 3) (s1 := s0 + 18) (by omega) (by omega) (fun q => absurd q (Nat.lt_irrefl _)) (vw (P' := []) rfl (kk _ _ _ _ _ _ ht (h.2.2.mono (by omega))))))) (fun hk => ?_)
  refine v_aload_n (pc' := 1899) 25 3 rfl rfl rfl rfl ?_
  refine v_iconst (v := 0) (pc' := 1900) 26 rfl rfl (by decide) ?_
  refine v_lald (i := 0) (j := 0) (pc' := 1901) 27 rfl rfl ly_456 ln_456 (lay_lt ly_456 (by decide)) (vp_lit (by decide)) (by decide) ?_
  refine v_iload (pc' := 1903) 28 0 rfl rfl rfl ?_
  refine v_i2l (pc' := 1904) 29 rfl rfl ?_
  refine v_lcmp (pc' := 1905) 30 rfl rfl ?_
  exact v_if_eq (tgt := 1910) (pc' := 1908) 31 rfl rfl (by decide) (fun _ => v_goto (tgt := 2520) 34 rfl (by decide) (V.sub [2, 3, 4, 5, 6] rfl (V.widen (c1 := c0 + 3) (s1 := s0 + 18) (by omega) (by omega) (fun q => absurd q (Nat.lt_irrefl _)) (vw (P' := []) rfl (kk _ _ _ _ _ _ ht (h.2.2.mono (by omega))))))) (fun q => absurd (lgc_eq.mpr (h.2.1 hk)) q)
def PL30 : List (Nat × Instr × Nat) := [(1913, .aload_n 1, 1), (1914, .aload_n 0, 1), (1915, .iload 4, 2), (1917, .iconst 1, 1), (1918, .iadd, 1), (1919, .iaload, 1), (1920, .aload_n 3, 1), (1921, .invokestatic 223, 3), (1924, .istore 5, 2), (1926, .aload_n 2, 1), (1927, .aload_n 0, 1), (1928, .iload 4, 2), (1930, .iconst 1, 1), (1931, .iadd, 1), (1932, .iaload, 1), (1933, .invokevirtual 225, 3), (1936, .istore 6, 2), (1938, .aload_n 2, 1), (1939, .invokevirtual 123, 3), (1942, .iload 5, 2), (1944, .if_icmp .eq 5, 3), (1947, .iconst 0, 1), (1948, .ireturn, 1), (1949, .iload 5, 2), (1951, .ifCond .ne 15, 3), (1954, .aload_n 3, 1), (1955, .iconst 0, 1), (1956, .laload, 1), (1957, .iload 6, 2), (1959, .i2l, 1), (1960, .lcmp, 1), (1961, .ifCond .eq 5, 3), (1964, .iconst 0, 1), (1965, .ireturn, 1), (1966, .goto 554, 3)]
theorem isL_30 : PL30.all (okI code) = true := by decide +kernel
set_option maxHeartbeats 4000000 in
set_option maxRecDepth 100000 in
theorem lc_30 {B : Nat} {X : XT} {I : TI} {L : TL} {b d t n c0 s0 : Nat} {Q : Option Value → MU → Prop} {QX : String → MU → Prop} (h6 : 6 * n + 6 ≤ gL G) (hL : gL G ≤ 3072) (hB : 1000000 ≤ B) (hB2 : B < 2 ^ 30) (hc : c0 + 3 ≤ 601024) (hs : s0 + 18 ≤ 7293034) (ht : txOK t) (hI : INV I L b d X B) (kk : LE9 G n B (c0 + 3) (s0 + 18) Q QX) : V G (YL PL30) 1913 (Lk n) [] (I, L, RT b d t, 457) c0 s0 Q QX := by
  refine v_aload_n (pc' := 1914) 0 3 rfl rfl rfl rfl ?_
  refine v_arg (pc' := 1920) (j := 1) (o := 0) 1 rfl rfl rfl rfl rfl rfl rfl rfl (by decide) (by decide) h6 hL ?_
  refine v_aload_n (pc' := 1921) 6 1 rfl rfl rfl rfl ?_
  refine v_cSX (Y2 := Y_L_accept) (As := [.ref 0, .int (AR G n 1), .ref 456]) (pc' := 1924) (c1 := c0 + 1) (s1 := s0 + 6) 7 rfl rfl mf_L_accept rfl rfl ml_L_223 ms_L_accept rfl (Nat.le_of_ble_eq_true rfl) ⟨show c0 + 1 ≤ 601024 by omega, show s0 + 6 ≤ 7293034 by omega⟩ rfl rfl (ok_L_accept _ _ _ _ _ hI.2.2.1.1 hI.2.2.1.2.1 (op_accept (P := fun k r J M => ∃ X2, OKL k r.toInt64 J M b d X2 B) hI (fun _ _ _ _ X2 h => ⟨X2, h⟩))) (fun _ _ q => q.elim) ?_
  intro v9 u9 hv9
  obtain ⟨k, I1, L1, rfl, rfl, h⟩ := hv9
  refine ⟨fun q => absurd q (Nat.lt_irrefl _), ?_⟩
  show V G (YL PL30) 1924 _ (.int k :: _) _ _ _ _ _
  refine v_istore (pc' := 1926) 8 rfl rfl (by decide) rfl ?_
  refine v_aload_n (pc' := 1927) 9 3 rfl rfl rfl rfl ?_
  refine v_arg (pc' := 1933) (j := 1) (o := 1) 10 rfl rfl rfl rfl rfl rfl rfl rfl (by decide) (by decide) h6 hL ?_
  refine v_cV (Y2 := Y_X9_accept) (As := [.int (AR G n 1)]) (b := 436) (pc' := 1936) (c1 := c0 + 1) (s1 := s0 + 6) 15 rfl rfl mf_X9_accept rfl rfl ml_L_225 mi_X9_accept se_X9_accept (ci := 8) rfl ly_436 (lay_lt ly_436 (by decide)) rfl (Nat.le_of_ble_eq_true rfl) ⟨show c0 + 1 + 0 ≤ 601024 by omega, show s0 + 6 + 0 ≤ 7293034 by omega⟩ rfl rfl (ok_X9_accept _ _ _ h) (fun _ _ q => q.elim) ?_
  intro v9 u9 hv9
  obtain ⟨r, I2, L2, rfl, rfl, h⟩ := hv9
  refine ⟨fun q => absurd q (Nat.lt_irrefl _), ?_⟩
  show V G (YL PL30) 1936 _ (.int r :: _) _ _ _ _ _
  refine v_istore (pc' := 1938) 16 rfl rfl (by decide) rfl ?_
  refine v_aload_n (pc' := 1939) 17 4 rfl rfl rfl rfl ?_
  refine v_cV (Y2 := Y_X9_thrown) (As := []) (b := 436) (pc' := 1942) (c1 := c0 + 1) (s1 := s0 + 6) 18 rfl rfl mf_X9_thrown rfl rfl ml_L_123 mi_X9_thrown se_X9_thrown (ci := 8) rfl ly_436 (lay_lt ly_436 (by decide)) rfl (Nat.le_of_ble_eq_true rfl) ⟨show c0 + 1 + 0 ≤ 601024 by omega, show s0 + 6 + 0 ≤ 7293034 by omega⟩ rfl rfl (ok_X9_thrown _ _ (show W_X9_thrown _ _ (fun r => r = _) from rfl)) (fun _ _ q => q.elim) ?_
  intro v9 u9 hv9
  obtain ⟨w, rfl, rfl, hw⟩ := hv9
  refine ⟨fun q => absurd q (Nat.lt_irrefl _), ?_⟩
  show V G (YL PL30) 1942 _ (.int w :: _) _ _ _ _ _
  refine v_iload (pc' := 1944) 19 1 rfl rfl rfl ?_
  obtain ⟨X2, h⟩ := h
  refine v_icmp_eq (tgt := 1949) (pc' := 1947) 20 rfl rfl (by decide) (fun _ => ?_) (fun q => absurd (hw.trans h.1) q)
  refine v_iload (pc' := 1951) 23 1 rfl rfl rfl ?_
  refine v_if_ne (tgt := 1966) (pc' := 1954) 24 rfl rfl (by decide) (fun _ => v_goto (tgt := 2520) 34 rfl (by decide) (V.sub [2, 3, 4, 5, 6] rfl (V.widen (c1 := c0 + 3) (s1 := s0 + 18) (by omega) (by omega) (fun q => absurd q (Nat.lt_irrefl _)) (vw (P' := []) rfl (kk _ _ _ _ _ _ ht (h.2.2.mono (by omega))))))) (fun hk => ?_)
  refine v_aload_n (pc' := 1955) 25 3 rfl rfl rfl rfl ?_
  refine v_iconst (v := 0) (pc' := 1956) 26 rfl rfl (by decide) ?_
  refine v_lald (i := 0) (j := 0) (pc' := 1957) 27 rfl rfl ly_456 ln_456 (lay_lt ly_456 (by decide)) (vp_lit (by decide)) (by decide) ?_
  refine v_iload (pc' := 1959) 28 0 rfl rfl rfl ?_
  refine v_i2l (pc' := 1960) 29 rfl rfl ?_
  refine v_lcmp (pc' := 1961) 30 rfl rfl ?_
  exact v_if_eq (tgt := 1966) (pc' := 1964) 31 rfl rfl (by decide) (fun _ => v_goto (tgt := 2520) 34 rfl (by decide) (V.sub [2, 3, 4, 5, 6] rfl (V.widen (c1 := c0 + 3) (s1 := s0 + 18) (by omega) (by omega) (fun q => absurd q (Nat.lt_irrefl _)) (vw (P' := []) rfl (kk _ _ _ _ _ _ ht (h.2.2.mono (by omega))))))) (fun q => absurd (lgc_eq.mpr (h.2.1 hk)) q)
def PL31 : List (Nat × Instr × Nat) := [(1969, .aload_n 1, 1), (1970, .aload_n 0, 1), (1971, .iload 4, 2), (1973, .iconst 1, 1), (1974, .iadd, 1), (1975, .iaload, 1), (1976, .aload_n 0, 1), (1977, .iload 4, 2), (1979, .iconst 2, 1), (1980, .iadd, 1), (1981, .iaload, 1), (1982, .aload_n 0, 1), (1983, .iload 4, 2), (1985, .iconst 3, 1), (1986, .iadd, 1), (1987, .iaload, 1), (1988, .aload_n 3, 1), (1989, .invokestatic 226, 3), (1992, .istore 5, 2), (1994, .aload_n 2, 1), (1995, .aload_n 0, 1), (1996, .iload 4, 2), (1998, .iconst 1, 1), (1999, .iadd, 1), (2000, .iaload, 1), (2001, .aload_n 0, 1), (2002, .iload 4, 2), (2004, .iconst 2, 1), (2005, .iadd, 1), (2006, .iaload, 1), (2007, .aload_n 0, 1), (2008, .iload 4, 2), (2010, .iconst 3, 1), (2011, .iadd, 1), (2012, .iaload, 1), (2013, .invokevirtual 228, 3), (2016, .istore 6, 2), (2018, .aload_n 2, 1), (2019, .invokevirtual 123, 3), (2022, .iload 5, 2), (2024, .if_icmp .eq 5, 3), (2027, .iconst 0, 1), (2028, .ireturn, 1), (2029, .iload 5, 2), (2031, .ifCond .ne 15, 3), (2034, .aload_n 3, 1), (2035, .iconst 0, 1), (2036, .laload, 1), (2037, .iload 6, 2), (2039, .i2l, 1), (2040, .lcmp, 1), (2041, .ifCond .eq 5, 3), (2044, .iconst 0, 1), (2045, .ireturn, 1), (2046, .goto 474, 3)]
theorem isL_31 : PL31.all (okI code) = true := by decide +kernel
set_option maxHeartbeats 4000000 in
set_option maxRecDepth 100000 in
theorem lc_31 {B : Nat} {X : XT} {I : TI} {L : TL} {b d t n c0 s0 : Nat} {Q : Option Value → MU → Prop} {QX : String → MU → Prop} (h6 : 6 * n + 6 ≤ gL G) (hL : gL G ≤ 3072) (hB : 1000000 ≤ B) (hB2 : B < 2 ^ 30) (hc : c0 + 3 ≤ 601024) (hs : s0 + 18 ≤ 7293034) (ht : txOK t) (hI : INV I L b d X B) (kk : LE9 G n B (c0 + 3) (s0 + 18) Q QX) : V G (YL PL31) 1969 (Lk n) [] (I, L, RT b d t, 457) c0 s0 Q QX := by
  refine v_aload_n (pc' := 1970) 0 3 rfl rfl rfl rfl ?_
  refine v_arg (pc' := 1976) (j := 1) (o := 0) 1 rfl rfl rfl rfl rfl rfl rfl rfl (by decide) (by decide) h6 hL ?_
  refine v_arg (pc' := 1982) (j := 2) (o := 0) 6 rfl rfl rfl rfl rfl rfl rfl rfl (by decide) (by decide) h6 hL ?_
  refine v_arg (pc' := 1988) (j := 3) (o := 0) 11 rfl rfl rfl rfl rfl rfl rfl rfl (by decide) (by decide) h6 hL ?_
  refine v_aload_n (pc' := 1989) 16 1 rfl rfl rfl rfl ?_
  refine v_cSX (Y2 := Y_L_replay) (As := [.ref 0, .int (AR G n 1), .int (AR G n 2), .int (AR G n 3), .ref 456]) (pc' := 1992) (c1 := c0 + 2) (s1 := s0 + 12) 17 rfl rfl mf_L_replay rfl rfl ml_L_226 ms_L_replay rfl (Nat.le_of_ble_eq_true rfl) ⟨show c0 + 2 ≤ 601024 by omega, show s0 + 12 ≤ 7293034 by omega⟩ rfl rfl (ok_L_replay _ _ _ _ _ _ _ hI.2.2.1.1 hI.2.2.1.2.1 (op_replay (P := fun k r J M => ∃ X2, OKL k r.toInt64 J M b d X2 (B + 10000)) hI hB2 (fun _ _ _ _ X2 h => ⟨X2, h⟩))) (fun _ _ q => q.elim) ?_
  intro v9 u9 hv9
  obtain ⟨k, I1, L1, rfl, rfl, h⟩ := hv9
  refine ⟨fun q => absurd q (Nat.lt_irrefl _), ?_⟩
  show V G (YL PL31) 1992 _ (.int k :: _) _ _ _ _ _
  refine v_istore (pc' := 1994) 18 rfl rfl (by decide) rfl ?_
  refine v_aload_n (pc' := 1995) 19 3 rfl rfl rfl rfl ?_
  refine v_arg (pc' := 2001) (j := 1) (o := 1) 20 rfl rfl rfl rfl rfl rfl rfl rfl (by decide) (by decide) h6 hL ?_
  refine v_arg (pc' := 2007) (j := 2) (o := 1) 25 rfl rfl rfl rfl rfl rfl rfl rfl (by decide) (by decide) h6 hL ?_
  refine v_arg (pc' := 2013) (j := 3) (o := 1) 30 rfl rfl rfl rfl rfl rfl rfl rfl (by decide) (by decide) h6 hL ?_
  refine v_cV (Y2 := Y_X9_replay) (As := [.int (AR G n 1), .int (AR G n 2), .int (AR G n 3)]) (b := 436) (pc' := 2016) (c1 := c0 + 2) (s1 := s0 + 12) 35 rfl rfl mf_X9_replay rfl rfl ml_L_228 mi_X9_replay se_X9_replay (ci := 8) rfl ly_436 (lay_lt ly_436 (by decide)) rfl (Nat.le_of_ble_eq_true rfl) ⟨show c0 + 2 + 0 ≤ 601024 by omega, show s0 + 12 + 0 ≤ 7293034 by omega⟩ rfl rfl (ok_X9_replay _ _ _ _ _ h) (fun _ _ q => q.elim) ?_
  intro v9 u9 hv9
  obtain ⟨r, I2, L2, rfl, rfl, h⟩ := hv9
  refine ⟨fun q => absurd q (Nat.lt_irrefl _), ?_⟩
  show V G (YL PL31) 2016 _ (.int r :: _) _ _ _ _ _
  refine v_istore (pc' := 2018) 36 rfl rfl (by decide) rfl ?_
  refine v_aload_n (pc' := 2019) 37 4 rfl rfl rfl rfl ?_
  refine v_cV (Y2 := Y_X9_thrown) (As := []) (b := 436) (pc' := 2022) (c1 := c0 + 2) (s1 := s0 + 12) 38 rfl rfl mf_X9_thrown rfl rfl ml_L_123 mi_X9_thrown se_X9_thrown (ci := 8) rfl ly_436 (lay_lt ly_436 (by decide)) rfl (Nat.le_of_ble_eq_true rfl) ⟨show c0 + 2 + 0 ≤ 601024 by omega, show s0 + 12 + 0 ≤ 7293034 by omega⟩ rfl rfl (ok_X9_thrown _ _ (show W_X9_thrown _ _ (fun r => r = _) from rfl)) (fun _ _ q => q.elim) ?_
  intro v9 u9 hv9
  obtain ⟨w, rfl, rfl, hw⟩ := hv9
  refine ⟨fun q => absurd q (Nat.lt_irrefl _), ?_⟩
  show V G (YL PL31) 2022 _ (.int w :: _) _ _ _ _ _
  refine v_iload (pc' := 2024) 39 1 rfl rfl rfl ?_
  obtain ⟨X2, h⟩ := h
  refine v_icmp_eq (tgt := 2029) (pc' := 2027) 40 rfl rfl (by decide) (fun _ => ?_) (fun q => absurd (hw.trans h.1) q)
  refine v_iload (pc' := 2031) 43 1 rfl rfl rfl ?_
  refine v_if_ne (tgt := 2046) (pc' := 2034) 44 rfl rfl (by decide) (fun _ => v_goto (tgt := 2520) 54 rfl (by decide) (V.sub [2, 3, 4, 5, 6] rfl (V.widen (c1 := c0 + 3) (s1 := s0 + 18) (by omega) (by omega) (fun q => absurd q (Nat.lt_irrefl _)) (vw (P' := []) rfl (kk _ _ _ _ _ _ ht (h.2.2.mono (by omega))))))) (fun hk => ?_)
  refine v_aload_n (pc' := 2035) 45 3 rfl rfl rfl rfl ?_
  refine v_iconst (v := 0) (pc' := 2036) 46 rfl rfl (by decide) ?_
  refine v_lald (i := 0) (j := 0) (pc' := 2037) 47 rfl rfl ly_456 ln_456 (lay_lt ly_456 (by decide)) (vp_lit (by decide)) (by decide) ?_
  refine v_iload (pc' := 2039) 48 0 rfl rfl rfl ?_
  refine v_i2l (pc' := 2040) 49 rfl rfl ?_
  refine v_lcmp (pc' := 2041) 50 rfl rfl ?_
  exact v_if_eq (tgt := 2046) (pc' := 2044) 51 rfl rfl (by decide) (fun _ => v_goto (tgt := 2520) 54 rfl (by decide) (V.sub [2, 3, 4, 5, 6] rfl (V.widen (c1 := c0 + 3) (s1 := s0 + 18) (by omega) (by omega) (fun q => absurd q (Nat.lt_irrefl _)) (vw (P' := []) rfl (kk _ _ _ _ _ _ ht (h.2.2.mono (by omega))))))) (fun q => absurd (lgc_eq.mpr (h.2.1 hk)) q)
def PL32 : List (Nat × Instr × Nat) := [(2049, .aload_n 1, 1), (2050, .aload_n 0, 1), (2051, .iload 4, 2), (2053, .iconst 1, 1), (2054, .iadd, 1), (2055, .iaload, 1), (2056, .aload_n 0, 1), (2057, .iload 4, 2), (2059, .iconst 2, 1), (2060, .iadd, 1), (2061, .iaload, 1), (2062, .aload_n 0, 1), (2063, .iload 4, 2), (2065, .iconst 3, 1), (2066, .iadd, 1), (2067, .iaload, 1), (2068, .aload_n 3, 1), (2069, .invokestatic 229, 3), (2072, .istore 5, 2), (2074, .aload_n 2, 1), (2075, .aload_n 0, 1), (2076, .iload 4, 2), (2078, .iconst 1, 1), (2079, .iadd, 1), (2080, .iaload, 1), (2081, .aload_n 0, 1), (2082, .iload 4, 2), (2084, .iconst 2, 1), (2085, .iadd, 1), (2086, .iaload, 1), (2087, .aload_n 0, 1), (2088, .iload 4, 2), (2090, .iconst 3, 1), (2091, .iadd, 1), (2092, .iaload, 1), (2093, .invokevirtual 231, 3), (2096, .istore 6, 2), (2098, .aload_n 2, 1), (2099, .invokevirtual 123, 3), (2102, .iload 5, 2), (2104, .if_icmp .eq 5, 3), (2107, .iconst 0, 1), (2108, .ireturn, 1), (2109, .iload 5, 2), (2111, .ifCond .ne 15, 3), (2114, .aload_n 3, 1), (2115, .iconst 0, 1), (2116, .laload, 1), (2117, .iload 6, 2), (2119, .i2l, 1), (2120, .lcmp, 1), (2121, .ifCond .eq 5, 3), (2124, .iconst 0, 1), (2125, .ireturn, 1), (2126, .goto 394, 3)]
theorem isL_32 : PL32.all (okI code) = true := by decide +kernel
set_option maxHeartbeats 4000000 in
set_option maxRecDepth 100000 in
theorem lc_32 {B : Nat} {X : XT} {I : TI} {L : TL} {b d t n c0 s0 : Nat} {Q : Option Value → MU → Prop} {QX : String → MU → Prop} (h6 : 6 * n + 6 ≤ gL G) (hL : gL G ≤ 3072) (hB : 1000000 ≤ B) (hB2 : B < 2 ^ 30) (hc : c0 + 3 ≤ 601024) (hs : s0 + 18 ≤ 7293034) (ht : txOK t) (hI : INV I L b d X B) (kk : LE9 G n B (c0 + 3) (s0 + 18) Q QX) : V G (YL PL32) 2049 (Lk n) [] (I, L, RT b d t, 457) c0 s0 Q QX := by
  refine v_aload_n (pc' := 2050) 0 3 rfl rfl rfl rfl ?_
  refine v_arg (pc' := 2056) (j := 1) (o := 0) 1 rfl rfl rfl rfl rfl rfl rfl rfl (by decide) (by decide) h6 hL ?_
  refine v_arg (pc' := 2062) (j := 2) (o := 0) 6 rfl rfl rfl rfl rfl rfl rfl rfl (by decide) (by decide) h6 hL ?_
  refine v_arg (pc' := 2068) (j := 3) (o := 0) 11 rfl rfl rfl rfl rfl rfl rfl rfl (by decide) (by decide) h6 hL ?_
  refine v_aload_n (pc' := 2069) 16 1 rfl rfl rfl rfl ?_
  refine v_cSX (Y2 := Y_L_setDelay) (As := [.ref 0, .int (AR G n 1), .int (AR G n 2), .int (AR G n 3), .ref 456]) (pc' := 2072) (c1 := c0 + 2) (s1 := s0 + 12) 17 rfl rfl mf_L_setDelay rfl rfl ml_L_229 ms_L_setDelay rfl (Nat.le_of_ble_eq_true rfl) ⟨show c0 + 2 ≤ 601024 by omega, show s0 + 12 ≤ 7293034 by omega⟩ rfl rfl (ok_L_setDelay _ _ _ _ _ _ _ hI.2.2.1.1 hI.2.2.1.2.1 (op_setDelay (P := fun k r J M => ∃ X2, OKL k r.toInt64 J M b d X2 B) hI (fun _ _ _ _ X2 h => ⟨X2, h⟩))) (fun _ _ q => q.elim) ?_
  intro v9 u9 hv9
  obtain ⟨k, I1, L1, rfl, rfl, h⟩ := hv9
  refine ⟨fun q => absurd q (Nat.lt_irrefl _), ?_⟩
  show V G (YL PL32) 2072 _ (.int k :: _) _ _ _ _ _
  refine v_istore (pc' := 2074) 18 rfl rfl (by decide) rfl ?_
  refine v_aload_n (pc' := 2075) 19 3 rfl rfl rfl rfl ?_
  refine v_arg (pc' := 2081) (j := 1) (o := 1) 20 rfl rfl rfl rfl rfl rfl rfl rfl (by decide) (by decide) h6 hL ?_
  refine v_arg (pc' := 2087) (j := 2) (o := 1) 25 rfl rfl rfl rfl rfl rfl rfl rfl (by decide) (by decide) h6 hL ?_
  refine v_arg (pc' := 2093) (j := 3) (o := 1) 30 rfl rfl rfl rfl rfl rfl rfl rfl (by decide) (by decide) h6 hL ?_
  refine v_cV (Y2 := Y_X9_setDelay) (As := [.int (AR G n 1), .int (AR G n 2), .int (AR G n 3)]) (b := 436) (pc' := 2096) (c1 := c0 + 2) (s1 := s0 + 12) 35 rfl rfl mf_X9_setDelay rfl rfl ml_L_231 mi_X9_setDelay se_X9_setDelay (ci := 8) rfl ly_436 (lay_lt ly_436 (by decide)) rfl (Nat.le_of_ble_eq_true rfl) ⟨show c0 + 2 + 0 ≤ 601024 by omega, show s0 + 12 + 0 ≤ 7293034 by omega⟩ rfl rfl (ok_X9_setDelay _ _ _ _ _ h) (fun _ _ q => q.elim) ?_
  intro v9 u9 hv9
  obtain ⟨r, I2, L2, rfl, rfl, h⟩ := hv9
  refine ⟨fun q => absurd q (Nat.lt_irrefl _), ?_⟩
  show V G (YL PL32) 2096 _ (.int r :: _) _ _ _ _ _
  refine v_istore (pc' := 2098) 36 rfl rfl (by decide) rfl ?_
  refine v_aload_n (pc' := 2099) 37 4 rfl rfl rfl rfl ?_
  refine v_cV (Y2 := Y_X9_thrown) (As := []) (b := 436) (pc' := 2102) (c1 := c0 + 2) (s1 := s0 + 12) 38 rfl rfl mf_X9_thrown rfl rfl ml_L_123 mi_X9_thrown se_X9_thrown (ci := 8) rfl ly_436 (lay_lt ly_436 (by decide)) rfl (Nat.le_of_ble_eq_true rfl) ⟨show c0 + 2 + 0 ≤ 601024 by omega, show s0 + 12 + 0 ≤ 7293034 by omega⟩ rfl rfl (ok_X9_thrown _ _ (show W_X9_thrown _ _ (fun r => r = _) from rfl)) (fun _ _ q => q.elim) ?_
  intro v9 u9 hv9
  obtain ⟨w, rfl, rfl, hw⟩ := hv9
  refine ⟨fun q => absurd q (Nat.lt_irrefl _), ?_⟩
  show V G (YL PL32) 2102 _ (.int w :: _) _ _ _ _ _
  refine v_iload (pc' := 2104) 39 1 rfl rfl rfl ?_
  obtain ⟨X2, h⟩ := h
  refine v_icmp_eq (tgt := 2109) (pc' := 2107) 40 rfl rfl (by decide) (fun _ => ?_) (fun q => absurd (hw.trans h.1) q)
  refine v_iload (pc' := 2111) 43 1 rfl rfl rfl ?_
  refine v_if_ne (tgt := 2126) (pc' := 2114) 44 rfl rfl (by decide) (fun _ => v_goto (tgt := 2520) 54 rfl (by decide) (V.sub [2, 3, 4, 5, 6] rfl (V.widen (c1 := c0 + 3) (s1 := s0 + 18) (by omega) (by omega) (fun q => absurd q (Nat.lt_irrefl _)) (vw (P' := []) rfl (kk _ _ _ _ _ _ ht (h.2.2.mono (by omega))))))) (fun hk => ?_)
  refine v_aload_n (pc' := 2115) 45 3 rfl rfl rfl rfl ?_
  refine v_iconst (v := 0) (pc' := 2116) 46 rfl rfl (by decide) ?_
  refine v_lald (i := 0) (j := 0) (pc' := 2117) 47 rfl rfl ly_456 ln_456 (lay_lt ly_456 (by decide)) (vp_lit (by decide)) (by decide) ?_
  refine v_iload (pc' := 2119) 48 0 rfl rfl rfl ?_
  refine v_i2l (pc' := 2120) 49 rfl rfl ?_
  refine v_lcmp (pc' := 2121) 50 rfl rfl ?_
  exact v_if_eq (tgt := 2126) (pc' := 2124) 51 rfl rfl (by decide) (fun _ => v_goto (tgt := 2520) 54 rfl (by decide) (V.sub [2, 3, 4, 5, 6] rfl (V.widen (c1 := c0 + 3) (s1 := s0 + 18) (by omega) (by omega) (fun q => absurd q (Nat.lt_irrefl _)) (vw (P' := []) rfl (kk _ _ _ _ _ _ ht (h.2.2.mono (by omega))))))) (fun q => absurd (lgc_eq.mpr (h.2.1 hk)) q)
end LC2
