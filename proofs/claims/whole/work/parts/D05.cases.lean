/-! the law: cases 33 to 42 -/
section LC3
variable {G : GT}
def PL33 : List (Nat × Instr × Nat) := [(2129, .aload_n 1, 1), (2130, .aload_n 0, 1), (2131, .iload 4, 2), (2133, .iconst 1, 1), (2134, .iadd, 1), (2135, .iaload, 1), (2136, .aload_n 0, 1), (2137, .iload 4, 2), (2139, .iconst 2, 1), (2140, .iadd, 1), (2141, .iaload, 1), (2142, .aload_n 3, 1), (2143, .invokestatic 232, 3), (2146, .istore 5, 2), (2148, .aload_n 2, 1), (2149, .aload_n 0, 1), (2150, .iload 4, 2), (2152, .iconst 1, 1), (2153, .iadd, 1), (2154, .iaload, 1), (2155, .aload_n 0, 1), (2156, .iload 4, 2), (2158, .iconst 2, 1), (2159, .iadd, 1), (2160, .iaload, 1), (2161, .invokevirtual 234, 3), (2164, .istore 6, 2), (2166, .aload_n 2, 1), (2167, .invokevirtual 123, 3), (2170, .iload 5, 2), (2172, .if_icmp .eq 5, 3), (2175, .iconst 0, 1), (2176, .ireturn, 1), (2177, .iload 5, 2), (2179, .ifCond .ne 15, 3), (2182, .aload_n 3, 1), (2183, .iconst 0, 1), (2184, .laload, 1), (2185, .iload 6, 2), (2187, .i2l, 1), (2188, .lcmp, 1), (2189, .ifCond .eq 5, 3), (2192, .iconst 0, 1), (2193, .ireturn, 1), (2194, .goto 326, 3)]
theorem isL_33 : PL33.all (okI code) = true := by decide +kernel
set_option maxHeartbeats 4000000 in
set_option maxRecDepth 100000 in
theorem lc_33 {B : Nat} {X : XT} {I : TI} {L : TL} {b d t n c0 s0 : Nat} {Q : Option Value → MU → Prop} {QX : String → MU → Prop} (h6 : 6 * n + 6 ≤ gL G) (hL : gL G ≤ 3072) (hB : 1000000 ≤ B) (hB2 : B < 2 ^ 30) (hc : c0 + 3 ≤ 601024) (hs : s0 + 18 ≤ 7293034) (ht : txOK t) (hI : INV I L b d X B) (kk : LE9 G n B (c0 + 3) (s0 + 18) Q QX) : V G (YL PL33) 2129 (Lk n) [] (I, L, RT b d t, 457) c0 s0 Q QX := by
  refine v_aload_n (pc' := 2130) 0 3 rfl rfl rfl rfl ?_
  refine v_arg (pc' := 2136) (j := 1) (o := 0) 1 rfl rfl rfl rfl rfl rfl rfl rfl (by decide) (by decide) h6 hL ?_
  refine v_arg (pc' := 2142) (j := 2) (o := 0) 6 rfl rfl rfl rfl rfl rfl rfl rfl (by decide) (by decide) h6 hL ?_
  refine v_aload_n (pc' := 2143) 11 1 rfl rfl rfl rfl ?_
  refine v_cSX (Y2 := Y_L_toggle) (As := [.ref 0, .int (AR G n 1), .int (AR G n 2), .ref 456]) (pc' := 2146) (c1 := c0 + 1) (s1 := s0 + 6) 12 rfl rfl mf_L_toggle rfl rfl ml_L_232 ms_L_toggle rfl (Nat.le_of_ble_eq_true rfl) ⟨show c0 + 1 ≤ 601024 by omega, show s0 + 6 ≤ 7293034 by omega⟩ rfl rfl (ok_L_toggle _ _ _ _ _ _ hI.2.2.1.1 hI.2.2.1.2.1 (op_toggle (P := fun k r J M => ∃ X2, OKL k r.toInt64 J M b d X2 B) hI (fun _ _ _ _ X2 h => ⟨X2, h⟩))) (fun _ _ q => q.elim) ?_
  intro v9 u9 hv9
  obtain ⟨k, I1, L1, rfl, rfl, h⟩ := hv9
  refine ⟨fun q => absurd q (Nat.lt_irrefl _), ?_⟩
  show V G (YL PL33) 2146 _ (.int k :: _) _ _ _ _ _
  refine v_istore (pc' := 2148) 13 rfl rfl (by decide) rfl ?_
  refine v_aload_n (pc' := 2149) 14 3 rfl rfl rfl rfl ?_
  refine v_arg (pc' := 2155) (j := 1) (o := 1) 15 rfl rfl rfl rfl rfl rfl rfl rfl (by decide) (by decide) h6 hL ?_
  refine v_arg (pc' := 2161) (j := 2) (o := 1) 20 rfl rfl rfl rfl rfl rfl rfl rfl (by decide) (by decide) h6 hL ?_
  refine v_cV (Y2 := Y_X9_toggle) (As := [.int (AR G n 1), .int (AR G n 2)]) (b := 436) (pc' := 2164) (c1 := c0 + 1) (s1 := s0 + 6) 25 rfl rfl mf_X9_toggle rfl rfl ml_L_234 mi_X9_toggle se_X9_toggle (ci := 8) rfl ly_436 (lay_lt ly_436 (by decide)) rfl (Nat.le_of_ble_eq_true rfl) ⟨show c0 + 1 + 0 ≤ 601024 by omega, show s0 + 6 + 0 ≤ 7293034 by omega⟩ rfl rfl (ok_X9_toggle _ _ _ _ h) (fun _ _ q => q.elim) ?_
  intro v9 u9 hv9
  obtain ⟨r, I2, L2, rfl, rfl, h⟩ := hv9
  refine ⟨fun q => absurd q (Nat.lt_irrefl _), ?_⟩
  show V G (YL PL33) 2164 _ (.int r :: _) _ _ _ _ _
  refine v_istore (pc' := 2166) 26 rfl rfl (by decide) rfl ?_
  refine v_aload_n (pc' := 2167) 27 4 rfl rfl rfl rfl ?_
  refine v_cV (Y2 := Y_X9_thrown) (As := []) (b := 436) (pc' := 2170) (c1 := c0 + 1) (s1 := s0 + 6) 28 rfl rfl mf_X9_thrown rfl rfl ml_L_123 mi_X9_thrown se_X9_thrown (ci := 8) rfl ly_436 (lay_lt ly_436 (by decide)) rfl (Nat.le_of_ble_eq_true rfl) ⟨show c0 + 1 + 0 ≤ 601024 by omega, show s0 + 6 + 0 ≤ 7293034 by omega⟩ rfl rfl (ok_X9_thrown _ _ (show W_X9_thrown _ _ (fun r => r = _) from rfl)) (fun _ _ q => q.elim) ?_
  intro v9 u9 hv9
  obtain ⟨w, rfl, rfl, hw⟩ := hv9
  refine ⟨fun q => absurd q (Nat.lt_irrefl _), ?_⟩
  show V G (YL PL33) 2170 _ (.int w :: _) _ _ _ _ _
  refine v_iload (pc' := 2172) 29 1 rfl rfl rfl ?_
  obtain ⟨X2, h⟩ := h
  refine v_icmp_eq (tgt := 2177) (pc' := 2175) 30 rfl rfl (by decide) (fun _ => ?_) (fun q => absurd (hw.trans h.1) q)
  refine v_iload (pc' := 2179) 33 1 rfl rfl rfl ?_
  refine v_if_ne (tgt := 2194) (pc' := 2182) 34 rfl rfl (by decide) (fun _ => v_goto (tgt := 2520) 44 rfl (by decide) (V.sub [2, 3, 4, 5, 6] rfl (V.widen (c1 := c0 + 3) (s1 := s0 + 18) (by omega) (by omega) (fun q => absurd q (Nat.lt_irrefl _)) (vw (P' := []) rfl (kk _ _ _ _ _ _ ht (h.2.2.mono (by omega))))))) (fun hk => ?_)
  refine v_aload_n (pc' := 2183) 35 3 rfl rfl rfl rfl ?_
  refine v_iconst (v := 0) (pc' := 2184) 36 rfl rfl (by decide) ?_
  refine v_lald (i := 0) (j := 0) (pc' := 2185) 37 rfl rfl ly_456 ln_456 (lay_lt ly_456 (by decide)) (vp_lit (by decide)) (by decide) ?_
  refine v_iload (pc' := 2187) 38 0 rfl rfl rfl ?_
  refine v_i2l (pc' := 2188) 39 rfl rfl ?_
  refine v_lcmp (pc' := 2189) 40 rfl rfl ?_
  exact v_if_eq (tgt := 2194) (pc' := 2192) 41 rfl rfl (by decide) (fun _ => v_goto (tgt := 2520) 44 rfl (by decide) (V.sub [2, 3, 4, 5, 6] rfl (V.widen (c1 := c0 + 3) (s1 := s0 + 18) (by omega) (by omega) (fun q => absurd q (Nat.lt_irrefl _)) (vw (P' := []) rfl (kk _ _ _ _ _ _ ht (h.2.2.mono (by omega))))))) (fun q => absurd (lgc_eq.mpr (h.2.1 hk)) q)
def PL34 : List (Nat × Instr × Nat) := [(2197, .aload_n 1, 1), (2198, .aload_n 0, 1), (2199, .iload 4, 2), (2201, .iconst 1, 1), (2202, .iadd, 1), (2203, .iaload, 1), (2204, .aload_n 0, 1), (2205, .iload 4, 2), (2207, .iconst 2, 1), (2208, .iadd, 1), (2209, .iaload, 1), (2210, .aload_n 3, 1), (2211, .invokestatic 235, 3), (2214, .istore 5, 2), (2216, .aload_n 2, 1), (2217, .aload_n 0, 1), (2218, .iload 4, 2), (2220, .iconst 1, 1), (2221, .iadd, 1), (2222, .iaload, 1), (2223, .aload_n 0, 1), (2224, .iload 4, 2), (2226, .iconst 2, 1), (2227, .iadd, 1), (2228, .iaload, 1), (2229, .invokevirtual 237, 3), (2232, .istore 6, 2), (2234, .aload_n 2, 1), (2235, .invokevirtual 123, 3), (2238, .iload 5, 2), (2240, .if_icmp .eq 5, 3), (2243, .iconst 0, 1), (2244, .ireturn, 1), (2245, .iload 5, 2), (2247, .ifCond .ne 15, 3), (2250, .aload_n 3, 1), (2251, .iconst 0, 1), (2252, .laload, 1), (2253, .iload 6, 2), (2255, .i2l, 1), (2256, .lcmp, 1), (2257, .ifCond .eq 5, 3), (2260, .iconst 0, 1), (2261, .ireturn, 1), (2262, .goto 258, 3)]
theorem isL_34 : PL34.all (okI code) = true := by decide +kernel
set_option maxHeartbeats 4000000 in
set_option maxRecDepth 100000 in
theorem lc_34 {B : Nat} {X : XT} {I : TI} {L : TL} {b d t n c0 s0 : Nat} {Q : Option Value → MU → Prop} {QX : String → MU → Prop} (h6 : 6 * n + 6 ≤ gL G) (hL : gL G ≤ 3072) (hB : 1000000 ≤ B) (hB2 : B < 2 ^ 30) (hc : c0 + 3 ≤ 601024) (hs : s0 + 18 ≤ 7293034) (ht : txOK t) (hI : INV I L b d X B) (kk : LE9 G n B (c0 + 3) (s0 + 18) Q QX) : V G (YL PL34) 2197 (Lk n) [] (I, L, RT b d t, 457) c0 s0 Q QX := by
  refine v_aload_n (pc' := 2198) 0 3 rfl rfl rfl rfl ?_
  refine v_arg (pc' := 2204) (j := 1) (o := 0) 1 rfl rfl rfl rfl rfl rfl rfl rfl (by decide) (by decide) h6 hL ?_
  refine v_arg (pc' := 2210) (j := 2) (o := 0) 6 rfl rfl rfl rfl rfl rfl rfl rfl (by decide) (by decide) h6 hL ?_
  refine v_aload_n (pc' := 2211) 11 1 rfl rfl rfl rfl ?_
  refine v_cSX (Y2 := Y_L_deposit) (As := [.ref 0, .int (AR G n 1), .int (AR G n 2), .ref 456]) (pc' := 2214) (c1 := c0 + 1) (s1 := s0 + 6) 12 rfl rfl mf_L_deposit rfl rfl ml_L_235 ms_L_deposit rfl (Nat.le_of_ble_eq_true rfl) ⟨show c0 + 1 ≤ 601024 by omega, show s0 + 6 ≤ 7293034 by omega⟩ rfl rfl (ok_L_deposit _ _ _ _ _ _ hI.2.2.1.1 hI.2.2.1.2.1 (op_deposit (P := fun k r J M => ∃ X2, OKL k r.toInt64 J M b d X2 B) hI hB hB2 (fun _ _ _ _ X2 h => ⟨X2, h⟩))) (fun _ _ q => q.elim) ?_
  intro v9 u9 hv9
  obtain ⟨k, I1, L1, rfl, rfl, h⟩ := hv9
  refine ⟨fun q => absurd q (Nat.lt_irrefl _), ?_⟩
  show V G (YL PL34) 2214 _ (.int k :: _) _ _ _ _ _
  refine v_istore (pc' := 2216) 13 rfl rfl (by decide) rfl ?_
  refine v_aload_n (pc' := 2217) 14 3 rfl rfl rfl rfl ?_
  refine v_arg (pc' := 2223) (j := 1) (o := 1) 15 rfl rfl rfl rfl rfl rfl rfl rfl (by decide) (by decide) h6 hL ?_
  refine v_arg (pc' := 2229) (j := 2) (o := 1) 20 rfl rfl rfl rfl rfl rfl rfl rfl (by decide) (by decide) h6 hL ?_
  refine v_cV (Y2 := Y_X9_deposit) (As := [.int (AR G n 1), .int (AR G n 2)]) (b := 436) (pc' := 2232) (c1 := c0 + 1) (s1 := s0 + 6) 25 rfl rfl mf_X9_deposit rfl rfl ml_L_237 mi_X9_deposit se_X9_deposit (ci := 8) rfl ly_436 (lay_lt ly_436 (by decide)) rfl (Nat.le_of_ble_eq_true rfl) ⟨show c0 + 1 + 0 ≤ 601024 by omega, show s0 + 6 + 0 ≤ 7293034 by omega⟩ rfl rfl (ok_X9_deposit _ _ _ _ h) (fun _ _ q => q.elim) ?_
  intro v9 u9 hv9
  obtain ⟨r, I2, L2, rfl, rfl, h⟩ := hv9
  refine ⟨fun q => absurd q (Nat.lt_irrefl _), ?_⟩
  show V G (YL PL34) 2232 _ (.int r :: _) _ _ _ _ _
  refine v_istore (pc' := 2234) 26 rfl rfl (by decide) rfl ?_
  refine v_aload_n (pc' := 2235) 27 4 rfl rfl rfl rfl ?_
  refine v_cV (Y2 := Y_X9_thrown) (As := []) (b := 436) (pc' := 2238) (c1 := c0 + 1) (s1 := s0 + 6) 28 rfl rfl mf_X9_thrown rfl rfl ml_L_123 mi_X9_thrown se_X9_thrown (ci := 8) rfl ly_436 (lay_lt ly_436 (by decide)) rfl (Nat.le_of_ble_eq_true rfl) ⟨show c0 + 1 + 0 ≤ 601024 by omega, show s0 + 6 + 0 ≤ 7293034 by omega⟩ rfl rfl (ok_X9_thrown _ _ (show W_X9_thrown _ _ (fun r => r = _) from rfl)) (fun _ _ q => q.elim) ?_
  intro v9 u9 hv9
  obtain ⟨w, rfl, rfl, hw⟩ := hv9
  refine ⟨fun q => absurd q (Nat.lt_irrefl _), ?_⟩
  show V G (YL PL34) 2238 _ (.int w :: _) _ _ _ _ _
  refine v_iload (pc' := 2240) 29 1 rfl rfl rfl ?_
  obtain ⟨X2, h⟩ := h
  refine v_icmp_eq (tgt := 2245) (pc' := 2243) 30 rfl rfl (by decide) (fun _ => ?_) (fun q => absurd (hw.trans h.1) q)
  refine v_iload (pc' := 2247) 33 1 rfl rfl rfl ?_
  refine v_if_ne (tgt := 2262) (pc' := 2250) 34 rfl rfl (by decide) (fun _ => v_goto (tgt := 2520) 44 rfl (by decide) (V.sub [2, 3, 4, 5, 6] rfl (V.widen (c1 := c0 + 3) (s1 := s0 + 18) (by omega) (by omega) (fun q => absurd q (Nat.lt_irrefl _)) (vw (P' := []) rfl (kk _ _ _ _ _ _ ht (h.2.2.mono (by omega))))))) (fun hk => ?_)
  refine v_aload_n (pc' := 2251) 35 3 rfl rfl rfl rfl ?_
  refine v_iconst (v := 0) (pc' := 2252) 36 rfl rfl (by decide) ?_
  refine v_lald (i := 0) (j := 0) (pc' := 2253) 37 rfl rfl ly_456 ln_456 (lay_lt ly_456 (by decide)) (vp_lit (by decide)) (by decide) ?_
  refine v_iload (pc' := 2255) 38 0 rfl rfl rfl ?_
  refine v_i2l (pc' := 2256) 39 rfl rfl ?_
  refine v_lcmp (pc' := 2257) 40 rfl rfl ?_
  exact v_if_eq (tgt := 2262) (pc' := 2260) 41 rfl rfl (by decide) (fun _ => v_goto (tgt := 2520) 44 rfl (by decide) (V.sub [2, 3, 4, 5, 6] rfl (V.widen (c1 := c0 + 3) (s1 := s0 + 18) (by omega) (by omega) (fun q => absurd q (Nat.lt_irrefl _)) (vw (P' := []) rfl (kk _ _ _ _ _ _ ht (h.2.2.mono (by omega))))))) (fun q => absurd (lgc_eq.mpr (h.2.1 hk)) q)
def PL35 : List (Nat × Instr × Nat) := [(2265, .aload_n 1, 1), (2266, .aload_n 0, 1), (2267, .iload 4, 2), (2269, .iconst 1, 1), (2270, .iadd, 1), (2271, .iaload, 1), (2272, .aload_n 3, 1), (2273, .invokestatic 238, 3), (2276, .istore 5, 2), (2278, .aload_n 2, 1), (2279, .aload_n 0, 1), (2280, .iload 4, 2), (2282, .iconst 1, 1), (2283, .iadd, 1), (2284, .iaload, 1), (2285, .invokevirtual 240, 3), (2288, .istore 6, 2), (2290, .aload_n 2, 1), (2291, .invokevirtual 123, 3), (2294, .iload 5, 2), (2296, .if_icmp .eq 5, 3), (2299, .iconst 0, 1), (2300, .ireturn, 1), (2301, .iload 5, 2), (2303, .ifCond .ne 15, 3), (2306, .aload_n 3, 1), (2307, .iconst 0, 1), (2308, .laload, 1), (2309, .iload 6, 2), (2311, .i2l, 1), (2312, .lcmp, 1), (2313, .ifCond .eq 5, 3), (2316, .iconst 0, 1), (2317, .ireturn, 1), (2318, .goto 202, 3)]
theorem isL_35 : PL35.all (okI code) = true := by decide +kernel
set_option maxHeartbeats 4000000 in
set_option maxRecDepth 100000 in
theorem lc_35 {B : Nat} {X : XT} {I : TI} {L : TL} {b d t n c0 s0 : Nat} {Q : Option Value → MU → Prop} {QX : String → MU → Prop} (h6 : 6 * n + 6 ≤ gL G) (hL : gL G ≤ 3072) (hB : 1000000 ≤ B) (hB2 : B < 2 ^ 30) (hc : c0 + 3 ≤ 601024) (hs : s0 + 18 ≤ 7293034) (ht : txOK t) (hI : INV I L b d X B) (kk : LE9 G n B (c0 + 3) (s0 + 18) Q QX) : V G (YL PL35) 2265 (Lk n) [] (I, L, RT b d t, 457) c0 s0 Q QX := by
  refine v_aload_n (pc' := 2266) 0 3 rfl rfl rfl rfl ?_
  refine v_arg (pc' := 2272) (j := 1) (o := 0) 1 rfl rfl rfl rfl rfl rfl rfl rfl (by decide) (by decide) h6 hL ?_
  refine v_aload_n (pc' := 2273) 6 1 rfl rfl rfl rfl ?_
  refine v_cSX (Y2 := Y_L_setLimit) (As := [.ref 0, .int (AR G n 1), .ref 456]) (pc' := 2276) (c1 := c0 + 1) (s1 := s0 + 6) 7 rfl rfl mf_L_setLimit rfl rfl ml_L_238 ms_L_setLimit rfl (Nat.le_of_ble_eq_true rfl) ⟨show c0 + 1 ≤ 601024 by omega, show s0 + 6 ≤ 7293034 by omega⟩ rfl rfl (ok_L_setLimit _ _ _ _ _ hI.2.2.1.1 hI.2.2.1.2.1 (op_setLimit (P := fun k r J M => ∃ X2, OKL k r.toInt64 J M b d X2 B) hI (fun _ _ _ _ X2 h => ⟨X2, h⟩))) (fun _ _ q => q.elim) ?_
  intro v9 u9 hv9
  obtain ⟨k, I1, L1, rfl, rfl, h⟩ := hv9
  refine ⟨fun q => absurd q (Nat.lt_irrefl _), ?_⟩
  show V G (YL PL35) 2276 _ (.int k :: _) _ _ _ _ _
  refine v_istore (pc' := 2278) 8 rfl rfl (by decide) rfl ?_
  refine v_aload_n (pc' := 2279) 9 3 rfl rfl rfl rfl ?_
  refine v_arg (pc' := 2285) (j := 1) (o := 1) 10 rfl rfl rfl rfl rfl rfl rfl rfl (by decide) (by decide) h6 hL ?_
  refine v_cV (Y2 := Y_X9_setLimit) (As := [.int (AR G n 1)]) (b := 436) (pc' := 2288) (c1 := c0 + 1) (s1 := s0 + 6) 15 rfl rfl mf_X9_setLimit rfl rfl ml_L_240 mi_X9_setLimit se_X9_setLimit (ci := 8) rfl ly_436 (lay_lt ly_436 (by decide)) rfl (Nat.le_of_ble_eq_true rfl) ⟨show c0 + 1 + 0 ≤ 601024 by omega, show s0 + 6 + 0 ≤ 7293034 by omega⟩ rfl rfl (ok_X9_setLimit _ _ _ h) (fun _ _ q => q.elim) ?_
  intro v9 u9 hv9
  obtain ⟨r, I2, L2, rfl, rfl, h⟩ := hv9
  refine ⟨fun q => absurd q (Nat.lt_irrefl _), ?_⟩
  show V G (YL PL35) 2288 _ (.int r :: _) _ _ _ _ _
  refine v_istore (pc' := 2290) 16 rfl rfl (by decide) rfl ?_
  refine v_aload_n (pc' := 2291) 17 4 rfl rfl rfl rfl ?_
  refine v_cV (Y2 := Y_X9_thrown) (As := []) (b := 436) (pc' := 2294) (c1 := c0 + 1) (s1 := s0 + 6) 18 rfl rfl mf_X9_thrown rfl rfl ml_L_123 mi_X9_thrown se_X9_thrown (ci := 8) rfl ly_436 (lay_lt ly_436 (by decide)) rfl (Nat.le_of_ble_eq_true rfl) ⟨show c0 + 1 + 0 ≤ 601024 by omega, show s0 + 6 + 0 ≤ 7293034 by omega⟩ rfl rfl (ok_X9_thrown _ _ (show W_X9_thrown _ _ (fun r => r = _) from rfl)) (fun _ _ q => q.elim) ?_
  intro v9 u9 hv9
  obtain ⟨w, rfl, rfl, hw⟩ := hv9
  refine ⟨fun q => absurd q (Nat.lt_irrefl _), ?_⟩
  show V G (YL PL35) 2294 _ (.int w :: _) _ _ _ _ _
  refine v_iload (pc' := 2296) 19 1 rfl rfl rfl ?_
  obtain ⟨X2, h⟩ := h
  refine v_icmp_eq (tgt := 2301) (pc' := 2299) 20 rfl rfl (by decide) (fun _ => ?_) (fun q => absurd (hw.trans h.1) q)
  refine v_iload (pc' := 2303) 23 1 rfl rfl rfl ?_
  refine v_if_ne (tgt := 2318) (pc' := 2306) 24 rfl rfl (by decide) (fun _ => v_goto (tgt := 2520) 34 rfl (by decide) (V.sub [2, 3, 4, 5, 6] rfl (V.widen (c1 := c0 + 3) (s1 := s0 + 18) (by omega) (by omega) (fun q => absurd q (Nat.lt_irrefl _)) (vw (P' := []) rfl (kk _ _ _ _ _ _ ht (h.2.2.mono (by omega))))))) (fun hk => ?_)
  refine v_aload_n (pc' := 2307) 25 3 rfl rfl rfl rfl ?_
  refine v_iconst (v := 0) (pc' := 2308) 26 rfl rfl (by decide) ?_
  refine v_lald (i := 0) (j := 0) (pc' := 2309) 27 rfl rfl ly_456 ln_456 (lay_lt ly_456 (by decide)) (vp_lit (by decide)) (by decide) ?_
  refine v_iload (pc' := 2311) 28 0 rfl rfl rfl ?_
  refine v_i2l (pc' := 2312) 29 rfl rfl ?_
  refine v_lcmp (pc' := 2313) 30 rfl rfl ?_
  exact v_if_eq (tgt := 2318) (pc' := 2316) 31 rfl rfl (by decide) (fun _ => v_goto (tgt := 2520) 34 rfl (by decide) (V.sub [2, 3, 4, 5, 6] rfl (V.widen (c1 := c0 + 3) (s1 := s0 + 18) (by omega) (by omega) (fun q => absurd q (Nat.lt_irrefl _)) (vw (P' := []) rfl (kk _ _ _ _ _ _ ht (h.2.2.mono (by omega))))))) (fun q => absurd (lgc_eq.mpr (h.2.1 hk)) q)
def PL36 : List (Nat × Instr × Nat) := [(2321, .aload_n 1, 1), (2322, .aload_n 0, 1), (2323, .iload 4, 2), (2325, .iconst 1, 1), (2326, .iadd, 1), (2327, .iaload, 1), (2328, .aload_n 0, 1), (2329, .iload 4, 2), (2331, .iconst 2, 1), (2332, .iadd, 1), (2333, .iaload, 1), (2334, .aload_n 3, 1), (2335, .invokestatic 241, 3), (2338, .istore 5, 2), (2340, .aload_n 2, 1), (2341, .aload_n 0, 1), (2342, .iload 4, 2), (2344, .iconst 1, 1), (2345, .iadd, 1), (2346, .iaload, 1), (2347, .aload_n 0, 1), (2348, .iload 4, 2), (2350, .iconst 2, 1), (2351, .iadd, 1), (2352, .iaload, 1), (2353, .invokevirtual 243, 3), (2356, .istore 6, 2), (2358, .aload_n 2, 1), (2359, .invokevirtual 123, 3), (2362, .iload 5, 2), (2364, .if_icmp .eq 5, 3), (2367, .iconst 0, 1), (2368, .ireturn, 1), (2369, .iload 5, 2), (2371, .ifCond .ne 15, 3), (2374, .aload_n 3, 1), (2375, .iconst 0, 1), (2376, .laload, 1), (2377, .iload 6, 2), (2379, .i2l, 1), (2380, .lcmp, 1), (2381, .ifCond .eq 5, 3), (2384, .iconst 0, 1), (2385, .ireturn, 1), (2386, .goto 134, 3)]
theorem isL_36 : PL36.all (okI code) = true := by decide +kernel
set_option maxHeartbeats 4000000 in
set_option maxRecDepth 100000 in
theorem lc_36 {B : Nat} {X : XT} {I : TI} {L : TL} {b d t n c0 s0 : Nat} {Q : Option Value → MU → Prop} {QX : String → MU → Prop} (h6 : 6 * n + 6 ≤ gL G) (hL : gL G ≤ 3072) (hB : 1000000 ≤ B) (hB2 : B < 2 ^ 30) (hc : c0 + 3 ≤ 601024) (hs : s0 + 18 ≤ 7293034) (ht : txOK t) (hI : INV I L b d X B) (kk : LE9 G n B (c0 + 3) (s0 + 18) Q QX) : V G (YL PL36) 2321 (Lk n) [] (I, L, RT b d t, 457) c0 s0 Q QX := by
  refine v_aload_n (pc' := 2322) 0 3 rfl rfl rfl rfl ?_
  refine v_arg (pc' := 2328) (j := 1) (o := 0) 1 rfl rfl rfl rfl rfl rfl rfl rfl (by decide) (by decide) h6 hL ?_
  refine v_arg (pc' := 2334) (j := 2) (o := 0) 6 rfl rfl rfl rfl rfl rfl rfl rfl (by decide) (by decide) h6 hL ?_
  refine v_aload_n (pc' := 2335) 11 1 rfl rfl rfl rfl ?_
  refine v_cSX (Y2 := Y_L_format) (As := [.ref 0, .int (AR G n 1), .int (AR G n 2), .ref 456]) (pc' := 2338) (c1 := c0 + 2) (s1 := s0 + 12) 12 rfl rfl mf_L_format rfl rfl ml_L_241 ms_L_format rfl (Nat.le_of_ble_eq_true rfl) ⟨show c0 + 2 ≤ 601024 by omega, show s0 + 12 ≤ 7293034 by omega⟩ rfl rfl (ok_L_format _ _ _ _ _ _ hI.2.2.1.1 hI.2.2.1.2.1 (op_format (P := fun k r J M => ∃ X2, OKL k r.toInt64 J M b d X2 B) hI (fun _ _ _ _ X2 h => ⟨X2, h⟩))) (fun _ _ q => q.elim) ?_
  intro v9 u9 hv9
  obtain ⟨k, I1, L1, rfl, rfl, h⟩ := hv9
  refine ⟨fun q => absurd q (Nat.lt_irrefl _), ?_⟩
  show V G (YL PL36) 2338 _ (.int k :: _) _ _ _ _ _
  refine v_istore (pc' := 2340) 13 rfl rfl (by decide) rfl ?_
  refine v_aload_n (pc' := 2341) 14 3 rfl rfl rfl rfl ?_
  refine v_arg (pc' := 2347) (j := 1) (o := 1) 15 rfl rfl rfl rfl rfl rfl rfl rfl (by decide) (by decide) h6 hL ?_
  refine v_arg (pc' := 2353) (j := 2) (o := 1) 20 rfl rfl rfl rfl rfl rfl rfl rfl (by decide) (by decide) h6 hL ?_
  refine v_cV (Y2 := Y_X9_format) (As := [.int (AR G n 1), .int (AR G n 2)]) (b := 436) (pc' := 2356) (c1 := c0 + 2) (s1 := s0 + 12) 25 rfl rfl mf_X9_format rfl rfl ml_L_243 mi_X9_format se_X9_format (ci := 8) rfl ly_436 (lay_lt ly_436 (by decide)) rfl (Nat.le_of_ble_eq_true rfl) ⟨show c0 + 2 + 0 ≤ 601024 by omega, show s0 + 12 + 0 ≤ 7293034 by omega⟩ rfl rfl (ok_X9_format _ _ _ _ h) (fun _ _ q => q.elim) ?_
  intro v9 u9 hv9
  obtain ⟨r, I2, L2, rfl, rfl, h⟩ := hv9
  refine ⟨fun q => absurd q (Nat.lt_irrefl _), ?_⟩
  show V G (YL PL36) 2356 _ (.int r :: _) _ _ _ _ _
  refine v_istore (pc' := 2358) 26 rfl rfl (by decide) rfl ?_
  refine v_aload_n (pc' := 2359) 27 4 rfl rfl rfl rfl ?_
  refine v_cV (Y2 := Y_X9_thrown) (As := []) (b := 436) (pc' := 2362) (c1 := c0 + 2) (s1 := s0 + 12) 28 rfl rfl mf_X9_thrown rfl rfl ml_L_123 mi_X9_thrown se_X9_thrown (ci := 8) rfl ly_436 (lay_lt ly_436 (by decide)) rfl (Nat.le_of_ble_eq_true rfl) ⟨show c0 + 2 + 0 ≤ 601024 by omega, show s0 + 12 + 0 ≤ 7293034 by omega⟩ rfl rfl (ok_X9_thrown _ _ (show W_X9_thrown _ _ (fun r => r = _) from rfl)) (fun _ _ q => q.elim) ?_
  intro v9 u9 hv9
  obtain ⟨w, rfl, rfl, hw⟩ := hv9
  refine ⟨fun q => absurd q (Nat.lt_irrefl _), ?_⟩
  show V G (YL PL36) 2362 _ (.int w :: _) _ _ _ _ _
  refine v_iload (pc' := 2364) 29 1 rfl rfl rfl ?_
  obtain ⟨X2, h⟩ := h
  refine v_icmp_eq (tgt := 2369) (pc' := 2367) 30 rfl rfl (by decide) (fun _ => ?_) (fun q => absurd (hw.trans h.1) q)
  refine v_iload (pc' := 2371) 33 1 rfl rfl rfl ?_
  refine v_if_ne (tgt := 2386) (pc' := 2374) 34 rfl rfl (by decide) (fun _ => v_goto (tgt := 2520) 44 rfl (by decide) (V.sub [2, 3, 4, 5, 6] rfl (V.widen (c1 := c0 + 3) (s1 := s0 + 18) (by omega) (by omega) (fun q => absurd q (Nat.lt_irrefl _)) (vw (P' := []) rfl (kk _ _ _ _ _ _ ht (h.2.2.mono (by omega))))))) (fun hk => ?_)
  refine v_aload_n (pc' := 2375) 35 3 rfl rfl rfl rfl ?_
  refine v_iconst (v := 0) (pc' := 2376) 36 rfl rfl (by decide) ?_
  refine v_lald (i := 0) (j := 0) (pc' := 2377) 37 rfl rfl ly_456 ln_456 (lay_lt ly_456 (by decide)) (vp_lit (by decide)) (by decide) ?_
  refine v_iload (pc' := 2379) 38 0 rfl rfl rfl ?_
  refine v_i2l (pc' := 2380) 39 rfl rfl ?_
  refine v_lcmp (pc' := 2381) 40 rfl rfl ?_
  exact v_if_eq (tgt := 2386) (pc' := 2384) 41 rfl rfl (by decide) (fun _ => v_goto (tgt := 2520) 44 rfl (by decide) (V.sub [2, 3, 4, 5, 6] rfl (V.widen (c1 := c0 + 3) (s1 := s0 + 18) (by omega) (by omega) (fun q => absurd q (Nat.lt_irrefl _)) (vw (P' := []) rfl (kk _ _ _ _ _ _ ht (h.2.2.mono (by omega))))))) (fun q => absurd (lgc_eq.mpr (h.2.1 hk)) q)
def PL37 : List (Nat × Instr × Nat) := [(2389, .aload_n 1, 1), (2390, .aload_n 0, 1), (2391, .iload 4, 2), (2393, .iconst 1, 1), (2394, .iadd, 1), (2395, .iaload, 1), (2396, .invokevirtual 244, 3), (2399, .aload_n 2, 1), (2400, .aload_n 0, 1), (2401, .iload 4, 2), (2403, .iconst 1, 1), (2404, .iadd, 1), (2405, .iaload, 1), (2406, .invokevirtual 247, 3), (2409, .if_icmp .eq 111, 3), (2412, .iconst 0, 1), (2413, .ireturn, 1)]
theorem isL_37 : PL37.all (okI code) = true := by decide +kernel
set_option maxHeartbeats 4000000 in
set_option maxRecDepth 100000 in
theorem lc_37 {B : Nat} {X : XT} {I : TI} {L : TL} {b d t n c0 s0 : Nat} {Q : Option Value → MU → Prop} {QX : String → MU → Prop} (h6 : 6 * n + 6 ≤ gL G) (hL : gL G ≤ 3072) (hB : 1000000 ≤ B) (hB2 : B < 2 ^ 30) (hc : c0 + 3 ≤ 601024) (hs : s0 + 18 ≤ 7293034) (ht : txOK t) (hI : INV I L b d X B) (kk : LE9 G n B (c0 + 3) (s0 + 18) Q QX) : V G (YL PL37) 2389 (Lk n) [] (I, L, RT b d t, 457) c0 s0 Q QX := by
  refine v_aload_n (pc' := 2390) 0 3 rfl rfl rfl rfl ?_
  refine v_arg (pc' := 2396) (j := 1) (o := 0) 1 rfl rfl rfl rfl rfl rfl rfl rfl (by decide) (by decide) h6 hL ?_
  refine v_cV (Y2 := Y_X8_formattedByte) (As := [.int (AR G n 1)]) (b := 0) (pc' := 2399) (c1 := c0) (s1 := s0) 6 rfl rfl mf_X8_formattedByte rfl rfl ml_L_244 mi_X8_formattedByte se_X8_formattedByte (ci := 7) rfl ly_0 (lay_lt ly_0 (by decide)) rfl (Nat.le_of_ble_eq_true rfl) ⟨show c0 + 0 ≤ 601024 by omega, show s0 + 0 ≤ 7293034 by omega⟩ rfl rfl (ok_X8_formattedByte _ _ _ (op_formattedByte (P := fun r r2 J M => r2 = r ∧ ∃ X2, INV J M b d X2 B) hI (fun _ _ _ h => ⟨rfl, _, h⟩))) (fun _ _ q => q.elim) ?_
  intro v9 u9 hv9
  obtain ⟨k, rfl, rfl, h⟩ := hv9
  refine ⟨fun q => absurd q (Nat.lt_irrefl _), ?_⟩
  show V G (YL PL37) 2399 _ (.int k :: _) _ _ _ _ _
  refine v_aload_n (pc' := 2400) 7 2 rfl rfl rfl rfl ?_
  refine v_arg (pc' := 2406) (j := 1) (o := 0) 8 rfl rfl rfl rfl rfl rfl rfl rfl (by decide) (by decide) h6 hL ?_
  refine v_cV (Y2 := Y_X9_formattedByte) (As := [.int (AR G n 1)]) (b := 436) (pc' := 2409) (c1 := c0) (s1 := s0) 13 rfl rfl mf_X9_formattedByte rfl rfl ml_L_247 mi_X9_formattedByte se_X9_formattedByte (ci := 8) rfl ly_436 (lay_lt ly_436 (by decide)) rfl (Nat.le_of_ble_eq_true rfl) ⟨show c0 + 0 ≤ 601024 by omega, show s0 + 0 ≤ 7293034 by omega⟩ rfl rfl (ok_X9_formattedByte _ _ _ h) (fun _ _ q => q.elim) ?_
  intro v9 u9 hv9
  obtain ⟨r, I2, rfl, rfl, h⟩ := hv9
  refine ⟨fun q => absurd q (Nat.lt_irrefl _), ?_⟩
  show V G (YL PL37) 2409 _ (.int r :: _) _ _ _ _ _
  obtain ⟨rfl, X2, h⟩ := h
  refine v_icmp_eq (tgt := 2520) (pc' := 2412) 14 rfl rfl (by decide) (fun _ => ?_) (fun q => absurd rfl q)
  exact V.widen (c1 := c0 + 3) (s1 := s0 + 18) (by omega) (by omega) (fun q => absurd q (Nat.lt_irrefl _)) (vw (P' := []) rfl (kk _ _ _ _ _ _ ht (h.mono (by omega))))
def PL38 : List (Nat × Instr × Nat) := [(2414, .aload_n 1, 1), (2415, .invokevirtual 248, 3), (2418, .aload_n 2, 1), (2419, .invokevirtual 251, 3), (2422, .if_icmp .eq 98, 3), (2425, .iconst 0, 1), (2426, .ireturn, 1)]
theorem isL_38 : PL38.all (okI code) = true := by decide +kernel
set_option maxHeartbeats 4000000 in
set_option maxRecDepth 100000 in
theorem lc_38 {B : Nat} {X : XT} {I : TI} {L : TL} {b d t n c0 s0 : Nat} {Q : Option Value → MU → Prop} {QX : String → MU → Prop} (h6 : 6 * n + 6 ≤ gL G) (hL : gL G ≤ 3072) (hB : 1000000 ≤ B) (hB2 : B < 2 ^ 30) (hc : c0 + 3 ≤ 601024) (hs : s0 + 18 ≤ 7293034) (ht : txOK t) (hI : INV I L b d X B) (kk : LE9 G n B (c0 + 3) (s0 + 18) Q QX) : V G (YL PL38) 2414 (Lk n) [] (I, L, RT b d t, 457) c0 s0 Q QX := by
  refine v_aload_n (pc' := 2415) 0 3 rfl rfl rfl rfl ?_
  refine v_cV (Y2 := Y_X8_undoCount) (As := []) (b := 0) (pc' := 2418) (c1 := c0) (s1 := s0) 1 rfl rfl mf_X8_undoCount rfl rfl ml_L_248 mi_X8_undoCount se_X8_undoCount (ci := 7) rfl ly_0 (lay_lt ly_0 (by decide)) rfl (Nat.le_of_ble_eq_true rfl) ⟨show c0 + 0 ≤ 601024 by omega, show s0 + 0 ≤ 7293034 by omega⟩ rfl rfl (ok_X8_undoCount _ _ (op_undoCount (P := fun r r2 J M => r2 = r ∧ ∃ X2, INV J M b d X2 B) hI (fun _ _ _ h => ⟨rfl, _, h⟩))) (fun _ _ q => q.elim) ?_
  intro v9 u9 hv9
  obtain ⟨k, rfl, rfl, h⟩ := hv9
  refine ⟨fun q => absurd q (Nat.lt_irrefl _), ?_⟩
  show V G (YL PL38) 2418 _ (.int k :: _) _ _ _ _ _
  refine v_aload_n (pc' := 2419) 2 2 rfl rfl rfl rfl ?_
  refine v_cV (Y2 := Y_X9_undoCount) (As := []) (b := 436) (pc' := 2422) (c1 := c0) (s1 := s0) 3 rfl rfl mf_X9_undoCount rfl rfl ml_L_251 mi_X9_undoCount se_X9_undoCount (ci := 8) rfl ly_436 (lay_lt ly_436 (by decide)) rfl (Nat.le_of_ble_eq_true rfl) ⟨show c0 + 0 ≤ 601024 by omega, show s0 + 0 ≤ 7293034 by omega⟩ rfl rfl (ok_X9_undoCount _ _ h) (fun _ _ q => q.elim) ?_
  intro v9 u9 hv9
  obtain ⟨r, I2, rfl, rfl, h⟩ := hv9
  refine ⟨fun q => absurd q (Nat.lt_irrefl _), ?_⟩
  show V G (YL PL38) 2422 _ (.int r :: _) _ _ _ _ _
  obtain ⟨rfl, X2, h⟩ := h
  refine v_icmp_eq (tgt := 2520) (pc' := 2425) 4 rfl rfl (by decide) (fun _ => ?_) (fun q => absurd rfl q)
  exact V.widen (c1 := c0 + 3) (s1 := s0 + 18) (by omega) (by omega) (fun q => absurd q (Nat.lt_irrefl _)) (vw (P' := []) rfl (kk _ _ _ _ _ _ ht (h.mono (by omega))))
def PL39 : List (Nat × Instr × Nat) := [(2427, .aload_n 1, 1), (2428, .invokevirtual 252, 3), (2431, .aload_n 2, 1), (2432, .invokevirtual 255, 3), (2435, .if_icmp .eq 85, 3), (2438, .iconst 0, 1), (2439, .ireturn, 1)]
theorem isL_39 : PL39.all (okI code) = true := by decide +kernel
set_option maxHeartbeats 4000000 in
set_option maxRecDepth 100000 in
theorem lc_39 {B : Nat} {X : XT} {I : TI} {L : TL} {b d t n c0 s0 : Nat} {Q : Option Value → MU → Prop} {QX : String → MU → Prop} (h6 : 6 * n + 6 ≤ gL G) (hL : gL G ≤ 3072) (hB : 1000000 ≤ B) (hB2 : B < 2 ^ 30) (hc : c0 + 3 ≤ 601024) (hs : s0 + 18 ≤ 7293034) (ht : txOK t) (hI : INV I L b d X B) (kk : LE9 G n B (c0 + 3) (s0 + 18) Q QX) : V G (YL PL39) 2427 (Lk n) [] (I, L, RT b d t, 457) c0 s0 Q QX := by
  refine v_aload_n (pc' := 2428) 0 3 rfl rfl rfl rfl ?_
  refine v_cV (Y2 := Y_X8_undo) (As := []) (b := 0) (pc' := 2431) (c1 := c0) (s1 := s0) 1 rfl rfl mf_X8_undo rfl rfl ml_L_252 mi_X8_undo se_X8_undo (ci := 7) rfl ly_0 (lay_lt ly_0 (by decide)) rfl (Nat.le_of_ble_eq_true rfl) ⟨show c0 + 0 ≤ 601024 by omega, show s0 + 0 ≤ 7293034 by omega⟩ rfl rfl (ok_X8_undo _ _ _ _ hI.2.2.1.1 hI.2.2.1.2.1 (op_undo (P := fun r r2 J M => r2 = r ∧ ∃ X2, INV J M b d X2 B) hI (fun _ _ _ X2 h => ⟨rfl, X2, h⟩))) (fun _ _ q => q.elim) ?_
  intro v9 u9 hv9
  obtain ⟨k, I1, L1, rfl, rfl, h⟩ := hv9
  refine ⟨fun q => absurd q (Nat.lt_irrefl _), ?_⟩
  show V G (YL PL39) 2431 _ (.int k :: _) _ _ _ _ _
  refine v_aload_n (pc' := 2432) 2 2 rfl rfl rfl rfl ?_
  refine v_cV (Y2 := Y_X9_undo) (As := []) (b := 436) (pc' := 2435) (c1 := c0) (s1 := s0) 3 rfl rfl mf_X9_undo rfl rfl ml_L_255 mi_X9_undo se_X9_undo (ci := 8) rfl ly_436 (lay_lt ly_436 (by decide)) rfl (Nat.le_of_ble_eq_true rfl) ⟨show c0 + 0 ≤ 601024 by omega, show s0 + 0 ≤ 7293034 by omega⟩ rfl rfl (ok_X9_undo _ _ h) (fun _ _ q => q.elim) ?_
  intro v9 u9 hv9
  obtain ⟨r, I2, L2, rfl, rfl, h⟩ := hv9
  refine ⟨fun q => absurd q (Nat.lt_irrefl _), ?_⟩
  show V G (YL PL39) 2435 _ (.int r :: _) _ _ _ _ _
  obtain ⟨rfl, X2, h⟩ := h
  refine v_icmp_eq (tgt := 2520) (pc' := 2438) 4 rfl rfl (by decide) (fun _ => ?_) (fun q => absurd rfl q)
  exact V.widen (c1 := c0 + 3) (s1 := s0 + 18) (by omega) (by omega) (fun q => absurd q (Nat.lt_irrefl _)) (vw (P' := []) rfl (kk _ _ _ _ _ _ ht (h.mono (by omega))))
def PL40 : List (Nat × Instr × Nat) := [(2440, .aload_n 1, 1), (2441, .invokevirtual 256, 3), (2444, .aload_n 2, 1), (2445, .invokevirtual 259, 3), (2448, .goto 72, 3)]
theorem isL_40 : PL40.all (okI code) = true := by decide +kernel
set_option maxHeartbeats 4000000 in
set_option maxRecDepth 100000 in
theorem lc_40 {B : Nat} {X : XT} {I : TI} {L : TL} {b d t n c0 s0 : Nat} {Q : Option Value → MU → Prop} {QX : String → MU → Prop} (h6 : 6 * n + 6 ≤ gL G) (hL : gL G ≤ 3072) (hB : 1000000 ≤ B) (hB2 : B < 2 ^ 30) (hc : c0 + 3 ≤ 601024) (hs : s0 + 18 ≤ 7293034) (ht : txOK t) (hI : INV I L b d X B) (kk : LE9 G n B (c0 + 3) (s0 + 18) Q QX) : V G (YL PL40) 2440 (Lk n) [] (I, L, RT b d t, 457) c0 s0 Q QX := by
  refine v_aload_n (pc' := 2441) 0 3 rfl rfl rfl rfl ?_
  refine v_cV (Y2 := Y_X8_saveSnapshot) (As := []) (b := 0) (pc' := 2444) (c1 := c0) (s1 := s0) 1 rfl rfl mf_X8_saveSnapshot rfl rfl ml_L_256 mi_X8_saveSnapshot se_X8_saveSnapshot (ci := 7) rfl ly_0 (lay_lt ly_0 (by decide)) rfl (Nat.le_of_ble_eq_true rfl) ⟨show c0 + 0 ≤ 601024 by omega, show s0 + 0 ≤ 7293034 by omega⟩ rfl rfl (ok_X8_saveSnapshot _ _ _ _ hI.2.2.1.1 hI.2.2.1.2.1 (op_save (P := fun J M => ∃ X2, INV J M b d X2 B) hI (fun _ _ X2 h => ⟨X2, h⟩))) (fun _ _ q => q.elim) ?_
  intro v9 u9 hv9
  obtain ⟨I1, L1, rfl, rfl, h⟩ := hv9
  refine ⟨fun q => absurd q (Nat.lt_irrefl _), ?_⟩
  show V G (YL PL40) 2444 _ _ _ _ _ _ _
  refine v_aload_n (pc' := 2445) 2 2 rfl rfl rfl rfl ?_
  refine v_cV (Y2 := Y_X9_saveSnapshot) (As := []) (b := 436) (pc' := 2448) (c1 := c0) (s1 := s0) 3 rfl rfl mf_X9_saveSnapshot rfl rfl ml_L_259 mi_X9_saveSnapshot se_X9_saveSnapshot (ci := 8) rfl ly_436 (lay_lt ly_436 (by decide)) rfl (Nat.le_of_ble_eq_true rfl) ⟨show c0 + 0 ≤ 601024 by omega, show s0 + 0 ≤ 7293034 by omega⟩ rfl rfl (ok_X9_saveSnapshot _ _ h) (fun _ _ q => q.elim) ?_
  intro v9 u9 hv9
  obtain ⟨I2, L2, rfl, rfl, h⟩ := hv9
  refine ⟨fun q => absurd q (Nat.lt_irrefl _), ?_⟩
  show V G (YL PL40) 2448 _ _ _ _ _ _ _
  obtain ⟨X2, h⟩ := h
  refine v_goto (tgt := 2520) 4 rfl (by decide) ?_
  exact V.widen (c1 := c0 + 3) (s1 := s0 + 18) (by omega) (by omega) (fun q => absurd q (Nat.lt_irrefl _)) (vw (P' := []) rfl (kk _ _ _ _ _ _ ht (h.mono (by omega))))
def PL41 : List (Nat × Instr × Nat) := [(2451, .aload_n 1, 1), (2452, .invokevirtual 260, 3), (2455, .aload_n 2, 1), (2456, .invokevirtual 264, 3), (2459, .if_icmp .eq 61, 3), (2462, .iconst 0, 1), (2463, .ireturn, 1)]
theorem isL_41 : PL41.all (okI code) = true := by decide +kernel
set_option maxHeartbeats 4000000 in
set_option maxRecDepth 100000 in
theorem lc_41 {B : Nat} {X : XT} {I : TI} {L : TL} {b d t n c0 s0 : Nat} {Q : Option Value → MU → Prop} {QX : String → MU → Prop} (h6 : 6 * n + 6 ≤ gL G) (hL : gL G ≤ 3072) (hB : 1000000 ≤ B) (hB2 : B < 2 ^ 30) (hc : c0 + 3 ≤ 601024) (hs : s0 + 18 ≤ 7293034) (ht : txOK t) (hI : INV I L b d X B) (kk : LE9 G n B (c0 + 3) (s0 + 18) Q QX) : V G (YL PL41) 2451 (Lk n) [] (I, L, RT b d t, 457) c0 s0 Q QX := by
  refine v_aload_n (pc' := 2452) 0 3 rfl rfl rfl rfl ?_
  refine v_cV (Y2 := Y_X8_restoreSnapshot) (As := []) (b := 0) (pc' := 2455) (c1 := c0) (s1 := s0) 1 rfl rfl mf_X8_restoreSnapshot rfl rfl ml_L_260 mi_X8_restoreSnapshot se_X8_restoreSnapshot (ci := 7) rfl ly_0 (lay_lt ly_0 (by decide)) rfl (Nat.le_of_ble_eq_true rfl) ⟨show c0 + 0 ≤ 601024 by omega, show s0 + 0 ≤ 7293034 by omega⟩ rfl rfl (ok_X8_restoreSnapshot _ _ _ _ hI.2.2.1.1 hI.2.2.1.2.1 (op_restore (P := fun r r2 J M => r2 = r ∧ ∃ X2, INV J M b d X2 B) hI (fun _ _ _ X2 h => ⟨rfl, X2, h⟩))) (fun _ _ q => q.elim) ?_
  intro v9 u9 hv9
  obtain ⟨k, I1, L1, rfl, rfl, h⟩ := hv9
  refine ⟨fun q => absurd q (Nat.lt_irrefl _), ?_⟩
  show V G (YL PL41) 2455 _ (.int k :: _) _ _ _ _ _
  refine v_aload_n (pc' := 2456) 2 2 rfl rfl rfl rfl ?_
  refine v_cV (Y2 := Y_X9_restoreSnapshot) (As := []) (b := 436) (pc' := 2459) (c1 := c0) (s1 := s0) 3 rfl rfl mf_X9_restoreSnapshot rfl rfl ml_L_264 mi_X9_restoreSnapshot se_X9_restoreSnapshot (ci := 8) rfl ly_436 (lay_lt ly_436 (by decide)) rfl (Nat.le_of_ble_eq_true rfl) ⟨show c0 + 0 ≤ 601024 by omega, show s0 + 0 ≤ 7293034 by omega⟩ rfl rfl (ok_X9_restoreSnapshot _ _ h) (fun _ _ q => q.elim) ?_
  intro v9 u9 hv9
  obtain ⟨r, I2, L2, rfl, rfl, h⟩ := hv9
  refine ⟨fun q => absurd q (Nat.lt_irrefl _), ?_⟩
  show V G (YL PL41) 2459 _ (.int r :: _) _ _ _ _ _
  obtain ⟨rfl, X2, h⟩ := h
  refine v_icmp_eq (tgt := 2520) (pc' := 2462) 4 rfl rfl (by decide) (fun _ => ?_) (fun q => absurd rfl q)
  exact V.widen (c1 := c0 + 3) (s1 := s0 + 18) (by omega) (by omega) (fun q => absurd q (Nat.lt_irrefl _)) (vw (P' := []) rfl (kk _ _ _ _ _ _ ht (h.mono (by omega))))
def PL42 : List (Nat × Instr × Nat) := [(2464, .aload_n 1, 1), (2465, .aload_n 0, 1), (2466, .iload 4, 2), (2468, .iconst 1, 1), (2469, .iadd, 1), (2470, .iaload, 1), (2471, .aload_n 3, 1), (2472, .invokestatic 265, 3), (2475, .istore 5, 2), (2477, .aload_n 2, 1), (2478, .aload_n 0, 1), (2479, .iload 4, 2), (2481, .iconst 1, 1), (2482, .iadd, 1), (2483, .iaload, 1), (2484, .invokevirtual 267, 3), (2487, .istore 6, 2), (2489, .aload_n 2, 1), (2490, .invokevirtual 123, 3), (2493, .iload 5, 2), (2495, .if_icmp .eq 5, 3), (2498, .iconst 0, 1), (2499, .ireturn, 1), (2500, .iload 5, 2), (2502, .ifCond .ne 15, 3), (2505, .aload_n 3, 1), (2506, .iconst 0, 1), (2507, .laload, 1), (2508, .iload 6, 2), (2510, .i2l, 1), (2511, .lcmp, 1), (2512, .ifCond .eq 5, 3), (2515, .iconst 0, 1), (2516, .ireturn, 1), (2517, .goto 3, 3)]
theorem isL_42 : PL42.all (okI code) = true := by decide +kernel
set_option maxHeartbeats 4000000 in
set_option maxRecDepth 100000 in
theorem lc_42 {B : Nat} {X : XT} {I : TI} {L : TL} {b d t n c0 s0 : Nat} {Q : Option Value → MU → Prop} {QX : String → MU → Prop} (h6 : 6 * n + 6 ≤ gL G) (hL : gL G ≤ 3072) (hB : 1000000 ≤ B) (hB2 : B < 2 ^ 30) (hc : c0 + 3 ≤ 601024) (hs : s0 + 18 ≤ 7293034) (ht : txOK t) (hI : INV I L b d X B) (kk : LE9 G n B (c0 + 3) (s0 + 18) Q QX) : V G (YL PL42) 2464 (Lk n) [] (I, L, RT b d t, 457) c0 s0 Q QX := by
  refine v_aload_n (pc' := 2465) 0 3 rfl rfl rfl rfl ?_
  refine v_arg (pc' := 2471) (j := 1) (o := 0) 1 rfl rfl rfl rfl rfl rfl rfl rfl (by decide) (by decide) h6 hL ?_
  refine v_aload_n (pc' := 2472) 6 1 rfl rfl rfl rfl ?_
  refine v_cSX (Y2 := Y_L_query) (As := [.ref 0, .int (AR G n 1), .ref 456]) (pc' := 2475) (c1 := c0 + 1) (s1 := s0 + 6) 7 rfl rfl mf_L_query rfl rfl ml_L_265 ms_L_query rfl (Nat.le_of_ble_eq_true rfl) ⟨show c0 + 1 ≤ 601024 by omega, show s0 + 6 ≤ 7293034 by omega⟩ rfl rfl (ok_L_query _ _ _ _ _ _ hI.2.2.1.1 hI.2.2.1.2.1 ht (op_query (P := fun k r J M t2 => ∃ X2, txOK t2 ∧ OKL k r.toInt64 J M b d X2 B) hI ht (fun _ _ _ _ _ X2 q h => ⟨X2, q, h⟩))) (fun _ _ q => q.elim) ?_
  intro v9 u9 hv9
  obtain ⟨k, I1, L1, t2, rfl, rfl, h⟩ := hv9
  refine ⟨fun q => absurd q (Nat.lt_irrefl _), ?_⟩
  show V G (YL PL42) 2475 _ (.int k :: _) _ _ _ _ _
  refine v_istore (pc' := 2477) 8 rfl rfl (by decide) rfl ?_
  refine v_aload_n (pc' := 2478) 9 3 rfl rfl rfl rfl ?_
  refine v_arg (pc' := 2484) (j := 1) (o := 1) 10 rfl rfl rfl rfl rfl rfl rfl rfl (by decide) (by decide) h6 hL ?_
  refine v_cV (Y2 := Y_X9_query) (As := [.int (AR G n 1)]) (b := 436) (pc' := 2487) (c1 := c0 + 1) (s1 := s0 + 6) 15 rfl rfl mf_X9_query rfl rfl ml_L_267 mi_X9_query se_X9_query (ci := 8) rfl ly_436 (lay_lt ly_436 (by decide)) rfl (Nat.le_of_ble_eq_true rfl) ⟨show c0 + 1 + 0 ≤ 601024 by omega, show s0 + 6 + 0 ≤ 7293034 by omega⟩ rfl rfl (ok_X9_query _ _ _ h) (fun _ _ q => q.elim) ?_
  intro v9 u9 hv9
  obtain ⟨r, I2, L2, rfl, rfl, h⟩ := hv9
  refine ⟨fun q => absurd q (Nat.lt_irrefl _), ?_⟩
  show V G (YL PL42) 2487 _ (.int r :: _) _ _ _ _ _
  refine v_istore (pc' := 2489) 16 rfl rfl (by decide) rfl ?_
  refine v_aload_n (pc' := 2490) 17 4 rfl rfl rfl rfl ?_
  refine v_cV (Y2 := Y_X9_thrown) (As := []) (b := 436) (pc' := 2493) (c1 := c0 + 1) (s1 := s0 + 6) 18 rfl rfl mf_X9_thrown rfl rfl ml_L_123 mi_X9_thrown se_X9_thrown (ci := 8) rfl ly_436 (lay_lt ly_436 (by decide)) rfl (Nat.le_of_ble_eq_true rfl) ⟨show c0 + 1 + 0 ≤ 601024 by omega, show s0 + 6 + 0 ≤ 7293034 by omega⟩ rfl rfl (ok_X9_thrown _ _ (show W_X9_thrown _ _ (fun r => r = _) from rfl)) (fun _ _ q => q.elim) ?_
  intro v9 u9 hv9
  obtain ⟨w, rfl, rfl, hw⟩ := hv9
  refine ⟨fun q => absurd q (Nat.lt_irrefl _), ?_⟩
  show V G (YL PL42) 2493 _ (.int w :: _) _ _ _ _ _
  refine v_iload (pc' := 2495) 19 1 rfl rfl rfl ?_
  obtain ⟨X2, ht2, h⟩ := h
  refine v_icmp_eq (tgt := 2500) (pc' := 2498) 20 rfl rfl (by decide) (fun _ => ?_) (fun q => absurd (hw.trans h.1) q)
  refine v_iload (pc' := 2502) 23 1 rfl rfl rfl ?_
  refine v_if_ne (tgt := 2517) (pc' := 2505) 24 rfl rfl (by decide) (fun _ => v_goto (tgt := 2520) 34 rfl (by decide) (V.sub [2, 3, 4, 5, 6] rfl (V.widen (c1 := c0 + 3) (s1 := s0 + 18) (by omega) (by omega) (fun q => absurd q (Nat.lt_irrefl _)) (vw (P' := []) rfl (kk _ _ _ _ _ _ ht2 (h.2.2.mono (by omega))))))) (fun hk => ?_)
  refine v_aload_n (pc' := 2506) 25 3 rfl rfl rfl rfl ?_
  refine v_iconst (v := 0) (pc' := 2507) 26 rfl rfl (by decide) ?_
  refine v_lald (i := 0) (j := 0) (pc' := 2508) 27 rfl rfl ly_456 ln_456 (lay_lt ly_456 (by decide)) (vp_lit (by decide)) (by decide) ?_
  refine v_iload (pc' := 2510) 28 0 rfl rfl rfl ?_
  refine v_i2l (pc' := 2511) 29 rfl rfl ?_
  refine v_lcmp (pc' := 2512) 30 rfl rfl ?_
  exact v_if_eq (tgt := 2517) (pc' := 2515) 31 rfl rfl (by decide) (fun _ => v_goto (tgt := 2520) 34 rfl (by decide) (V.sub [2, 3, 4, 5, 6] rfl (V.widen (c1 := c0 + 3) (s1 := s0 + 18) (by omega) (by omega) (fun q => absurd q (Nat.lt_irrefl _)) (vw (P' := []) rfl (kk _ _ _ _ _ _ ht2 (h.2.2.mono (by omega))))))) (fun q => absurd (lgc_eq.mpr (h.2.1 hk)) q)
end LC3
