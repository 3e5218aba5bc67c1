set_option maxHeartbeats 4000000 in
set_option maxRecDepth 100000 in
theorem b_X8_misjudged_57 {G : GT} {t : Nat} (v1 : Int32) (v2 : Int32) (I : TI) (L : TL) (b : Nat) (d : Nat) (hb : bnOK b) (hd : bnOK d) (Q : Int32 → Prop) (R4 : Int32 → Int32 → Prop) (hR4 : ∀ (v1 : Int32) (v2 : Int32), R4 v1 v2 → V G Y_X8_misjudged 4 [(0, .ref 0), (1, .int v1), (2, .int v2)] [] (I, L, RT b d t, 457) 0 0 (fun v9 u9 => ∃ (r9 : Int32), v9 = some (.int r9) ∧ u9 = (I, L, RT b d t, 457) ∧ Q r9) (fun _ _ => False)) (h : B_X8_misjudged_57 v1 v2 I L b d Q R4) : V G Y_X8_misjudged 57 [(0, .ref 0), (1, .int v1), (2, .int v2)] [] (I, L, RT b d t, 457) 0 0 (fun v9 u9 => ∃ (r9 : Int32), v9 = some (.int r9) ∧ u9 = (I, L, RT b d t, 457) ∧ Q r9) (fun _ _ => False) := by
  unfold B_X8_misjudged_57 at h
  refine v_iinc (v := (v2 + 1)) (ls' := [(2, .int (v2 + 1)), (0, .ref 0), (1, .int v1)]) (pc' := 60) 29 2 rfl rfl rfl rfl (by decide) rfl ?_
  refine v_goto (tgt := 4) 30 rfl (by decide) ?_
  refine V.sub [1, 2, 0] rfl ?_
  exact hR4 v1 (v2 + 1) h
set_option maxHeartbeats 4000000 in
set_option maxRecDepth 100000 in
theorem d_X8_misjudged_4 {G : GT} {t : Nat} (I : TI) (L : TL) (b : Nat) (d : Nat) (hb : bnOK b) (hd : bnOK d) (Q : Int32 → Prop) (R4 : Int32 → Int32 → Prop)  (hR4 : ∀ (v1 : Int32) (v2 : Int32), R4 v1 v2 → V G Y_X8_misjudged 4 [(0, .ref 0), (1, .int v1), (2, .int v2)] [] (I, L, RT b d t, 457) 0 0 (fun v9 u9 => ∃ (r9 : Int32), v9 = some (.int r9) ∧ u9 = (I, L, RT b d t, 457) ∧ Q r9) (fun _ _ => False)) (v1 : Int32) (v2 : Int32)  (h : D_X8_misjudged_4 I L b d Q R4 v1 v2) : V G Y_X8_misjudged 4 [(0, .ref 0), (1, .int v1), (2, .int v2)] [] (I, L, RT b d t, 457) 0 0 (fun v9 u9 => ∃ (r9 : Int32), v9 = some (.int r9) ∧ u9 = (I, L, RT b d t, 457) ∧ Q r9) (fun _ _ => False) := by
  unfold D_X8_misjudged_4 at h
  refine v_iload_n (pc' := 5) 4 2 rfl rfl rfl rfl ?_
  refine v_aload_n (pc' := 6) 5 0 rfl rfl rfl rfl ?_
  refine v_getR (t := b) (pc' := 9) 6 rfl rfl pf_X8_40 ly_0 (lay_lt ly_0 (by decide)) rt_0_5 ?_
  refine v_getR (t := (b + 6)) (pc' := 12) 7 rfl rfl pf_X8_114 (bn0l hb) (lay_lt (bn0l hb) (by decide)) (rt_bn_1 hb) ?_
  refine v_getI (pc' := 15) 8 rfl rfl pf_X8_129 (bn6l hb) (lay_lt (bn6l hb) (by decide)) ?_
  refine v_icmp_ge (tgt := 63) (pc' := 18) 9 rfl rfl (by decide) (fun hc => ?_) (fun hc => ?_)
  · replace h := h.1 hc
    refine v_iload_n (pc' := 64) 31 1 rfl rfl rfl rfl ?_
    exact v_iret 32 rfl rfl (by decide) (by decide) ⟨_, rfl, rfl, h⟩
  replace h := h.2 hc
  refine v_aload_n (pc' := 19) 10 0 rfl rfl rfl rfl ?_
  refine v_getR (t := b) (pc' := 22) 11 rfl rfl pf_X8_40 ly_0 (lay_lt ly_0 (by decide)) rt_0_5 ?_
  refine v_getR (t := (b + 6)) (pc' := 25) 12 rfl rfl pf_X8_114 (bn0l hb) (lay_lt (bn0l hb) (by decide)) (rt_bn_1 hb) ?_
  refine v_getR (t := (b + 16)) (pc' := 28) 13 rfl rfl pf_X8_251 (bn6l hb) (lay_lt (bn6l hb) (by decide)) (rt_st_6 (bn_st hb)) ?_
  refine v_iload_n (pc' := 29) 14 2 rfl rfl rfl rfl ?_
  obtain ⟨hi1247, h⟩ := h
  refine v_aald5 (i := v2) (r := ((b + 17) + v2.toNatClampNeg)) (j := v2.toNatClampNeg) (pc' := 30) 15 rfl rfl (bn16l hb) (bn16n hb) (lay_lt (bn16l hb) (by decide)) hi1247 rfl (rt_dis (bn_st hb) (vp_nat hi1247)) ?_
  refine v_astore_n (ls' := [(3, .ref ((b + 17) + v2.toNatClampNeg)), (0, .ref 0), (1, .int v1), (2, .int v2)]) (pc' := 31) 16 rfl rfl rfl (by decide) rfl ?_
  refine v_aload_n (pc' := 32) 17 0 rfl rfl rfl rfl ?_
  refine v_getI (pc' := 35) 18 rfl rfl pf_X8_295 (st_disl (bn_st hb) (vp_nat hi1247)) (lay_lt (st_disl (bn_st hb) (vp_nat hi1247)) (by decide)) ?_
  refine v_iconst (v := -1) (pc' := 36) 19 rfl rfl (by decide) ?_
  refine v_icmp_eq (tgt := 57) (pc' := 39) 20 rfl rfl (by decide) (fun hc => ?_) (fun hc => ?_)
  · replace h := h.1 hc
    refine V.sub [1, 2, 3] rfl ?_
    exact b_X8_misjudged_57 v1 v2 I L b d hb hd Q R4 hR4 h
  replace h := h.2 hc
  refine v_aload_n (pc' := 40) 21 0 rfl rfl rfl rfl ?_
  refine v_getI (pc' := 43) 22 rfl rfl pf_X8_295 (st_disl (bn_st hb) (vp_nat hi1247)) (lay_lt (st_disl (bn_st hb) (vp_nat hi1247)) (by decide)) ?_
  refine v_aload_n (pc' := 44) 23 1 rfl rfl rfl rfl ?_
  refine v_getR (t := b) (pc' := 47) 24 rfl rfl pf_X8_40 ly_0 (lay_lt ly_0 (by decide)) rt_0_5 ?_
  refine v_aload_n (pc' := 48) 25 0 rfl rfl rfl rfl ?_
  refine v_cV (Y2 := Y_X0_dearVerdict) (As := [.ref ((b + 17) + v2.toNatClampNeg)]) (b := b) (pc' := 51) (c1 := 0) (s1 := 0) 26 rfl rfl mf_X0_dearVerdict rfl rfl ml_X8_309 mi_X0_dearVerdict se_X0_dearVerdict (ci := 0) rfl (bn0l hb) (lay_lt (bn0l hb) (by decide)) rfl (Nat.le_of_ble_eq_true rfl) ⟨Nat.le_of_ble_eq_true rfl, Nat.le_of_ble_eq_true rfl⟩ rfl rfl (ok_X0_dearVerdict b ((b + 17) + v2.toNatClampNeg) I L hb (st_disl (bn_st hb) (vp_nat hi1247)) h) ?_ ?_
  · intro e9 u9 hx9
    exact hx9.elim
  intro v9 u9 hv9
  obtain ⟨r1248, rfl, rfl, h⟩ := hv9
  refine ⟨fun q => absurd q (Nat.lt_irrefl _), ?_⟩
  show V G Y_X8_misjudged 51 _ (.int r1248 :: _) _ _ _ _ _
  refine v_icmp_eq (tgt := 57) (pc' := 54) 27 rfl rfl (by decide) (fun hc => ?_) (fun hc => ?_)
  · replace h := h.1 hc
    refine V.sub [1, 2, 3] rfl ?_
    exact b_X8_misjudged_57 v1 v2 I L b d hb hd Q R4 hR4 h
  replace h := h.2 hc
  refine v_iinc (v := (v1 + 1)) (ls' := [(1, .int (v1 + 1)), (3, .ref ((b + 17) + v2.toNatClampNeg)), (0, .ref 0), (2, .int v2)]) (pc' := 57) 28 2 rfl rfl rfl rfl (by decide) rfl ?_
  refine V.sub [2, 0, 3] rfl ?_
  exact b_X8_misjudged_57 (v1 + 1) v2 I L b d hb hd Q R4 hR4 h
theorem l_X8_misjudged_4 {G : GT} {t : Nat} (I : TI) (L : TL) (b : Nat) (d : Nat) (hb : bnOK b) (hd : bnOK d) (Q : Int32 → Prop)  : ∀ (n9 : Nat) (v1 : Int32) (v2 : Int32), L_X8_misjudged_4 I L b d Q n9 v1 v2 → V G Y_X8_misjudged 4 [(0, .ref 0), (1, .int v1), (2, .int v2)] [] (I, L, RT b d t, 457) 0 0 (fun v9 u9 => ∃ (r9 : Int32), v9 = some (.int r9) ∧ u9 = (I, L, RT b d t, 457) ∧ Q r9) (fun _ _ => False)
  | 0, _, _, h => h.elim
  | n9 + 1, v1, v2, h => d_X8_misjudged_4 I L b d hb hd Q _ (l_X8_misjudged_4 I L b d hb hd Q n9) v1 v2 h
set_option maxHeartbeats 4000000 in
set_option maxRecDepth 100000 in
theorem ok_X8_misjudged {G : GT} {t : Nat} (I : TI) (L : TL) (b : Nat) (d : Nat) (hb : bnOK b) (hd : bnOK d) {Q : Int32 → Prop} (h : W_X8_misjudged I L b d Q) : MW G Y_X8_misjudged [.ref 0] (I, L, RT b d t, 457) (fun v9 u9 => ∃ (r9 : Int32), v9 = some (.int r9) ∧ u9 = (I, L, RT b d t, 457) ∧ Q r9) (fun _ _ => False) := by
  unfold W_X8_misjudged at h
  refine MW.intro rfl (by decide) is_X8_misjudged (Nat.le_of_ble_eq_true rfl) ?_
  show V G Y_X8_misjudged 0 [(0, .ref 0)] [] (I, L, RT b d t, 457) 0 0 _ _
  refine v_iconst (v := 0) (pc' := 1) 0 rfl rfl (by decide) ?_
  refine v_istore_n (ls' := [(1, .int 0), (0, .ref 0)]) (pc' := 2) 1 rfl rfl rfl (by decide) rfl ?_
  refine v_iconst (v := 0) (pc' := 3) 2 rfl rfl (by decide) ?_
  refine v_istore_n (ls' := [(2, .int 0), (1, .int 0), (0, .ref 0)]) (pc' := 4) 3 rfl rfl rfl (by decide) rfl ?_
  refine V.sub [2, 1, 0] rfl ?_
  obtain ⟨n1249, h⟩ := h
  exact l_X8_misjudged_4 I L b d hb hd Q n1249 (0 : Int32) (0 : Int32) h
set_option maxHeartbeats 4000000 in
set_option maxRecDepth 100000 in
theorem ok_X8_excess {G : GT} {t : Nat} (I : TI) (L : TL) (b : Nat) (d : Nat) (hb : bnOK b) (hd : bnOK d) {Q : UInt64 → Prop} (h : W_X8_excess I L b d Q) : MW G Y_X8_excess [.ref 0] (I, L, RT b d t, 457) (fun v9 u9 => ∃ (r9 : UInt64), v9 = some (.double r9) ∧ u9 = (I, L, RT b d t, 457) ∧ Q r9) (fun _ _ => False) := by
  unfold W_X8_excess at h
  refine MW.intro rfl (by decide) is_X8_excess (Nat.le_of_ble_eq_true rfl) ?_
  show V G Y_X8_excess 0 [(0, .ref 0)] [] (I, L, RT b d t, 457) 0 0 _ _
  refine v_aload_n (pc' := 1) 0 0 rfl rfl rfl rfl ?_
  refine v_getR (t := b) (pc' := 4) 1 rfl rfl pf_X8_40 ly_0 (lay_lt ly_0 (by decide)) rt_0_5 ?_
  refine v_aload_n (pc' := 5) 2 0 rfl rfl rfl rfl ?_
  refine v_getR (t := b) (pc' := 8) 3 rfl rfl pf_X8_40 ly_0 (lay_lt ly_0 (by decide)) rt_0_5 ?_
  refine v_getR (t := (b + 37)) (pc' := 11) 4 rfl rfl pf_X8_189 (bn0l hb) (lay_lt (bn0l hb) (by decide)) (rt_bn_2 hb) ?_
  refine v_cV (Y2 := Y_X0_gateChanges) (As := [.ref (b + 37)]) (b := b) (pc' := 14) (c1 := 0) (s1 := 0) 5 rfl rfl mf_X0_gateChanges rfl rfl ml_X8_313 mi_X0_gateChanges se_X0_gateChanges (ci := 0) rfl (bn0l hb) (lay_lt (bn0l hb) (by decide)) rfl (Nat.le_of_ble_eq_true rfl) ⟨Nat.le_of_ble_eq_true rfl, Nat.le_of_ble_eq_true rfl⟩ rfl rfl (ok_X0_gateChanges b (b + 37) I L hb (bn37l hb) (bn37n hb) h) ?_ ?_
  · intro e9 u9 hx9
    exact hx9.elim
  intro v9 u9 hv9
  obtain ⟨r1253, rfl, rfl, h⟩ := hv9
  refine ⟨fun q => absurd q (Nat.lt_irrefl _), ?_⟩
  show V G Y_X8_excess 14 _ (.int r1253 :: _) _ _ _ _ _
  refine v_istore_n (ls' := [(1, .int r1253), (0, .ref 0)]) (pc' := 15) 6 rfl rfl rfl (by decide) rfl ?_
  refine v_aload_n (pc' := 16) 7 1 rfl rfl rfl rfl ?_
  refine v_getR (t := b) (pc' := 19) 8 rfl rfl pf_X8_40 ly_0 (lay_lt ly_0 (by decide)) rt_0_5 ?_
  refine v_aload_n (pc' := 20) 9 1 rfl rfl rfl rfl ?_
  refine v_getR (t := b) (pc' := 23) 10 rfl rfl pf_X8_40 ly_0 (lay_lt ly_0 (by decide)) rt_0_5 ?_
  refine v_getR (t := (b + 39)) (pc' := 26) 11 rfl rfl pf_X8_196 (bn0l hb) (lay_lt (bn0l hb) (by decide)) (rt_bn_4 hb) ?_
  refine v_cV (Y2 := Y_X0_gateChanges) (As := [.ref (b + 39)]) (b := b) (pc' := 29) (c1 := 0) (s1 := 0) 12 rfl rfl mf_X0_gateChanges rfl rfl ml_X8_313 mi_X0_gateChanges se_X0_gateChanges (ci := 0) rfl (bn0l hb) (lay_lt (bn0l hb) (by decide)) rfl (Nat.le_of_ble_eq_true rfl) ⟨Nat.le_of_ble_eq_true rfl, Nat.le_of_ble_eq_true rfl⟩ rfl rfl (ok_X0_gateChanges b (b + 39) I L hb (bn39l hb) (bn39n hb) h) ?_ ?_
  · intro e9 u9 hx9
    exact hx9.elim
  intro v9 u9 hv9
  obtain ⟨r1254, rfl, rfl, h⟩ := hv9
  refine ⟨fun q => absurd q (Nat.lt_irrefl _), ?_⟩
  show V G Y_X8_excess 29 _ (.int r1254 :: _) _ _ _ _ _
  refine v_istore_n (ls' := [(2, .int r1254), (1, .int r1253), (0, .ref 0)]) (pc' := 30) 13 rfl rfl rfl (by decide) rfl ?_
  refine v_iload_n (pc' := 31) 14 0 rfl rfl rfl rfl ?_
  refine v_if_ne (tgt := 38) (pc' := 34) 15 rfl rfl (by decide) (fun hc => ?_) (fun hc => ?_)
  · replace h := h.1 hc
    refine v_iload_n (pc' := 39) 18 1 rfl rfl rfl rfl ?_
    refine v_i2d (pc' := 40) 19 rfl rfl ?_
    refine v_iload_n (pc' := 41) 20 0 rfl rfl rfl rfl ?_
    refine v_i2d (pc' := 42) 21 rfl rfl ?_
    obtain ⟨hn1255, h⟩ := h
    refine v_ddiv (pc' := 43) 22 rfl rfl hn1255 ?_
    exact v_dret 23 rfl rfl (by decide) (by decide) ⟨_, rfl, rfl, h⟩
  replace h := h.2 hc
  refine v_dconst0 (pc' := 35) 16 rfl rfl ?_
  refine v_goto (tgt := 43) 17 rfl (by decide) ?_
  exact v_dret 23 rfl rfl (by decide) (by decide) ⟨_, rfl, rfl, h⟩
set_option maxHeartbeats 4000000 in
set_option maxRecDepth 100000 in
theorem d_X8_settledShare_13 {G : GT} {t : Nat} (I : TI) (L : TL) (b : Nat) (d : Nat) (hb : bnOK b) (hd : bnOK d) (Q : UInt32 → Prop) (R13 : Int32 → Int32 → Prop)  (hR13 : ∀ (v1 : Int32) (v2 : Int32), R13 v1 v2 → V G Y_X8_settledShare 13 [(0, .ref 0), (1, .int v1), (2, .int v2)] [] (I, L, RT b d t, 457) 0 0 (fun v9 u9 => ∃ (r9 : UInt32), v9 = some (.float r9) ∧ u9 = (I, L, RT b d t, 457) ∧ Q r9) (fun _ _ => False)) (v1 : Int32) (v2 : Int32)  (h : D_X8_settledShare_13 I L b d Q R13 v1 v2) : V G Y_X8_settledShare 13 [(0, .ref 0), (1, .int v1), (2, .int v2)] [] (I, L, RT b d t, 457) 0 0 (fun v9 u9 => ∃ (r9 : UInt32), v9 = some (.float r9) ∧ u9 = (I, L, RT b d t, 457) ∧ Q r9) (fun _ _ => False) := by
  unfold D_X8_settledShare_13 at h
  refine v_iload_n (pc' := 14) 7 2 rfl rfl rfl rfl ?_
  refine v_aload_n (pc' := 15) 8 0 rfl rfl rfl rfl ?_
  refine v_getR (t := b) (pc' := 18) 9 rfl rfl pf_X8_40 ly_0 (lay_lt ly_0 (by decide)) rt_0_5 ?_
  refine v_getR (t := (b + 1)) (pc' := 21) 10 rfl rfl pf_X8_95 (bn0l hb) (lay_lt (bn0l hb) (by decide)) (rt_bn_0 hb) ?_
  refine v_cV (Y2 := Y_X2_nets) (As := []) (b := (b + 1)) (pc' := 24) (c1 := 0) (s1 := 0) 11 rfl rfl mf_X2_nets rfl rfl ml_X8_99 mi_X2_nets se_X2_nets (ci := 1) rfl (bn1l hb) (lay_lt (bn1l hb) (by decide)) rfl (Nat.le_of_ble_eq_true rfl) ⟨Nat.le_of_ble_eq_true rfl, Nat.le_of_ble_eq_true rfl⟩ rfl rfl (ok_X2_nets (b + 1) I L (bn_ck hb) h) ?_ ?_
  · intro e9 u9 hx9
    exact hx9.elim
  intro v9 u9 hv9
  obtain ⟨r1262, rfl, rfl, h⟩ := hv9
  refine ⟨fun q => absurd q (Nat.lt_irrefl _), ?_⟩
  show V G Y_X8_settledShare 24 _ (.int r1262 :: _) _ _ _ _ _
  refine v_icmp_ge (tgt := 47) (pc' := 27) 12 rfl rfl (by decide) (fun hc => ?_) (fun hc => ?_)
  · replace h := h.1 hc
    refine v_aload_n (pc' := 48) 23 0 rfl rfl rfl rfl ?_
    refine v_getR (t := b) (pc' := 51) 24 rfl rfl pf_X8_40 ly_0 (lay_lt ly_0 (by decide)) rt_0_5 ?_
    refine v_getR (t := (b + 1)) (pc' := 54) 25 rfl rfl pf_X8_95 (bn0l hb) (lay_lt (bn0l hb) (by decide)) (rt_bn_0 hb) ?_
    refine v_getI (pc' := 57) 26 rfl rfl pf_X8_108 (bn1l hb) (lay_lt (bn1l hb) (by decide)) ?_
    refine v_aload_n (pc' := 58) 27 0 rfl rfl rfl rfl ?_
    refine v_getR (t := b) (pc' := 61) 28 rfl rfl pf_X8_40 ly_0 (lay_lt ly_0 (by decide)) rt_0_5 ?_
    refine v_getR (t := (b + 1)) (pc' := 64) 29 rfl rfl pf_X8_95 (bn0l hb) (lay_lt (bn0l hb) (by decide)) (rt_bn_0 hb) ?_
    refine v_getI (pc' := 67) 30 rfl rfl pf_X8_111 (bn1l hb) (lay_lt (bn1l hb) (by decide)) ?_
    refine v_iconst (v := 1) (pc' := 68) 31 rfl rfl (by decide) ?_
    refine v_iadd (pc' := 69) 32 rfl rfl ?_
    refine v_imul (pc' := 70) 33 rfl rfl ?_
    refine nm_I (e := ((I (b + 1) 5) * ((I (b + 1) 6) + 1))) (fun x1263 hx1263 => ?_)
    replace h := h x1263 hx1263
    refine v_istore_n (ls' := [(2, .int x1263), (0, .ref 0), (1, .int v1)]) (pc' := 71) 34 rfl rfl rfl (by decide) rfl ?_
    refine v_iload_n (pc' := 72) 35 0 rfl rfl rfl rfl ?_
    refine v_if_ne (tgt := 79) (pc' := 75) 36 rfl rfl (by decide) (fun hc => ?_) (fun hc => ?_)
    · replace h := h.1 hc
      refine v_iload_n (pc' := 80) 39 2 rfl rfl rfl rfl ?_
      refine v_i2f (pc' := 81) 40 rfl rfl ?_
      refine v_iload_n (pc' := 82) 41 0 rfl rfl rfl rfl ?_
      refine v_i2f (pc' := 83) 42 rfl rfl ?_
      obtain ⟨hn1264, h⟩ := h
      refine v_fdiv (pc' := 84) 43 rfl rfl hn1264 ?_
      exact v_fret 44 rfl rfl (by decide) (by decide) ⟨_, rfl, rfl, h⟩
    replace h := h.2 hc
    refine v_fconst0 (pc' := 76) 37 rfl rfl ?_
    refine v_goto (tgt := 84) 38 rfl (by decide) ?_
    exact v_fret 44 rfl rfl (by decide) (by decide) ⟨_, rfl, rfl, h⟩
  replace h := h.2 hc
  refine v_iload_n (pc' := 28) 13 1 rfl rfl rfl rfl ?_
  refine v_aload_n (pc' := 29) 14 0 rfl rfl rfl rfl ?_
  refine v_getR (t := b) (pc' := 32) 15 rfl rfl pf_X8_40 ly_0 (lay_lt ly_0 (by decide)) rt_0_5 ?_
  refine v_getR (t := (b + 6)) (pc' := 35) 16 rfl rfl pf_X8_114 (bn0l hb) (lay_lt (bn0l hb) (by decide)) (rt_bn_1 hb) ?_
  refine v_iload_n (pc' := 36) 17 2 rfl rfl rfl rfl ?_
  refine v_cV (Y2 := Y_X6_settledTimes) (As := [.int v2]) (b := (b + 6)) (pc' := 39) (c1 := 0) (s1 := 0) 18 rfl rfl mf_X6_settledTimes rfl rfl ml_X8_161 mi_X6_settledTimes se_X6_settledTimes (ci := 5) rfl (bn6l hb) (lay_lt (bn6l hb) (by decide)) rfl (Nat.le_of_ble_eq_true rfl) ⟨Nat.le_of_ble_eq_true rfl, Nat.le_of_ble_eq_true rfl⟩ rfl rfl (ok_X6_settledTimes (b + 6) v2 I L (bn_st hb) h) ?_ ?_
  · intro e9 u9 hx9
    exact hx9.elim
  intro v9 u9 hv9
  obtain ⟨r1265, rfl, rfl, h⟩ := hv9
  refine ⟨fun q => absurd q (Nat.lt_irrefl _), ?_⟩
  show V G Y_X8_settledShare 39 _ (.int r1265 :: _) _ _ _ _ _
  refine v_iadd (pc' := 40) 19 rfl rfl ?_
  refine v_istore_n (ls' := [(1, .int (v1 + r1265)), (0, .ref 0), (2, .int v2)]) (pc' := 41) 20 rfl rfl rfl (by decide) rfl ?_
  refine v_iinc (v := (v2 + 1)) (ls' := [(2, .int (v2 + 1)), (1, .int (v1 + r1265)), (0, .ref 0)]) (pc' := 44) 21 2 rfl rfl rfl rfl (by decide) rfl ?_
  refine v_goto (tgt := 13) 22 rfl (by decide) ?_
  refine V.sub [2, 1, 0] rfl ?_
  exact hR13 (v1 + r1265) (v2 + 1) h
theorem l_X8_settledShare_13 {G : GT} {t : Nat} (I : TI) (L : TL) (b : Nat) (d : Nat) (hb : bnOK b) (hd : bnOK d) (Q : UInt32 → Prop)  : ∀ (n9 : Nat) (v1 : Int32) (v2 : Int32), L_X8_settledShare_13 I L b d Q n9 v1 v2 → V G Y_X8_settledShare 13 [(0, .ref 0), (1, .int v1), (2, .int v2)] [] (I, L, RT b d t, 457) 0 0 (fun v9 u9 => ∃ (r9 : UInt32), v9 = some (.float r9) ∧ u9 = (I, L, RT b d t, 457) ∧ Q r9) (fun _ _ => False)
  | 0, _, _, h => h.elim
  | n9 + 1, v1, v2, h => d_X8_settledShare_13 I L b d hb hd Q _ (l_X8_settledShare_13 I L b d hb hd Q n9) v1 v2 h
set_option maxHeartbeats 4000000 in
set_option maxRecDepth 100000 in
theorem ok_X8_settledShare {G : GT} {t : Nat} (I : TI) (L : TL) (b : Nat) (d : Nat) (hb : bnOK b) (hd : bnOK d) {Q : UInt32 → Prop} (h : W_X8_settledShare I L b d Q) : MW G Y_X8_settledShare [.ref 0] (I, L, RT b d t, 457) (fun v9 u9 => ∃ (r9 : UInt32), v9 = some (.float r9) ∧ u9 = (I, L, RT b d t, 457) ∧ Q r9) (fun _ _ => False) := by
  unfold W_X8_settledShare at h
  refine MW.intro rfl (by decide) is_X8_settledShare (Nat.le_of_ble_eq_true rfl) ?_
  show V G Y_X8_settledShare 0 [(0, .ref 0)] [] (I, L, RT b d t, 457) 0 0 _ _
  refine v_iconst (v := 0) (pc' := 1) 0 rfl rfl (by decide) ?_
  refine v_istore_n (ls' := [(1, .int 0), (0, .ref 0)]) (pc' := 2) 1 rfl rfl rfl (by decide) rfl ?_
  refine v_aload_n (pc' := 3) 2 1 rfl rfl rfl rfl ?_
  refine v_getR (t := b) (pc' := 6) 3 rfl rfl pf_X8_40 ly_0 (lay_lt ly_0 (by decide)) rt_0_5 ?_
  refine v_getR (t := (b + 1)) (pc' := 9) 4 rfl rfl pf_X8_95 (bn0l hb) (lay_lt (bn0l hb) (by decide)) (rt_bn_0 hb) ?_
  refine v_getI (pc' := 12) 5 rfl rfl pf_X8_105 (bn1l hb) (lay_lt (bn1l hb) (by decide)) ?_
  refine v_istore_n (ls' := [(2, .int (I (b + 1) 4)), (1, .int 0), (0, .ref 0)]) (pc' := 13) 6 rfl rfl rfl (by decide) rfl ?_
  refine V.sub [2, 1, 0] rfl ?_
  obtain ⟨n1266, h⟩ := h
  exact l_X8_settledShare_13 I L b d hb hd Q n1266 (0 : Int32) (I (b + 1) 4) h
set_option maxHeartbeats 4000000 in
set_option maxRecDepth 100000 in
theorem b_X8_open_28 {G : GT} {t : Nat} (v1 : Int32) (v2 : Int32) (v4 : Int32) (v5 : Int32) (I : TI) (L : TL) (b : Nat) (d : Nat) (hb : bnOK b) (hd : bnOK d) (Q : Int32 → TI → TL → Prop) (QX : String → TI → TL → Prop)  (h : B_X8_open_28 v1 v2 v4 v5 I L b d Q QX) : V G Y_X8_open 28 [(0, .ref 0), (1, .int v1), (2, .int v2), (4, .int v4), (5, .int v5)] [] (I, L, RT b d t, 457) 2 12 (fun v9 u9 => ∃ (r9 : Int32) (I9 : TI) (L9 : TL), v9 = some (.int r9) ∧ u9 = (I9, L9, RT b d t, 457) ∧ Q r9 I9 L9) (fun e9 u9 => ∃ (I9 : TI) (L9 : TL), u9 = (I9, L9, RT b d t, 457) ∧ QX e9 I9 L9) := by
  unfold B_X8_open_28 at h
  refine v_aload_n (pc' := 29) 15 0 rfl rfl rfl rfl ?_
  refine v_getR (t := b) (pc' := 32) 16 rfl rfl pf_X8_40 ly_0 (lay_lt ly_0 (by decide)) rt_0_5 ?_
  refine v_iload_n (pc' := 33) 17 2 rfl rfl rfl rfl ?_
  refine v_iload (pc' := 35) 18 4 rfl rfl rfl ?_
  refine v_cV (Y2 := Y_X0_runEnd) (As := [.int v2, .int v5]) (b := b) (pc' := 38) (c1 := 2) (s1 := 12) 19 rfl rfl mf_X0_runEnd rfl rfl ml_X8_258 mi_X0_runEnd se_X0_runEnd (ci := 0) rfl (bn0l hb) (lay_lt (bn0l hb) (by decide)) rfl (Nat.le_of_ble_eq_true rfl) ⟨Nat.le_of_ble_eq_true rfl, Nat.le_of_ble_eq_true rfl⟩ rfl rfl (ok_X0_runEnd b v2 v5 I L hb h) ?_ ?_
  · intro e9 u9 hx9
    exact hx9.elim
  intro v9 u9 hv9
  obtain ⟨r1285, rfl, rfl, h⟩ := hv9
  refine ⟨fun q => absurd q (Nat.lt_irrefl _), ?_⟩
  show V G Y_X8_open 38 _ (.int r1285 :: _) _ _ _ _ _
  refine v_istore (ls' := [(6, .int r1285), (0, .ref 0), (1, .int v1), (2, .int v2), (4, .int v4), (5, .int v5)]) (pc' := 40) 20 rfl rfl (by decide) rfl ?_
  refine v_aload_n (pc' := 41) 21 1 rfl rfl rfl rfl ?_
  refine v_getR (t := b) (pc' := 44) 22 rfl rfl pf_X8_40 ly_0 (lay_lt ly_0 (by decide)) rt_0_5 ?_
  refine v_getR (t := (b + 6)) (pc' := 47) 23 rfl rfl pf_X8_114 (bn0l hb) (lay_lt (bn0l hb) (by decide)) (rt_bn_1 hb) ?_
  refine v_iload_n (pc' := 48) 24 3 rfl rfl rfl rfl ?_
  refine v_iload (pc' := 50) 25 5 rfl rfl rfl ?_
  refine v_iload (pc' := 52) 26 0 rfl rfl rfl ?_
  refine v_cV (Y2 := Y_X6_hasPending) (As := [.int v2, .int v5, .int r1285]) (b := (b + 6)) (pc' := 55) (c1 := 2) (s1 := 12) 27 rfl rfl mf_X6_hasPending rfl rfl ml_X8_317 mi_X6_hasPending se_X6_hasPending (ci := 5) rfl (bn6l hb) (lay_lt (bn6l hb) (by decide)) rfl (Nat.le_of_ble_eq_true rfl) ⟨Nat.le_of_ble_eq_true rfl, Nat.le_of_ble_eq_true rfl⟩ rfl rfl (ok_X6_hasPending (b + 6) v2 v5 r1285 I L (bn_st hb) h) ?_ ?_
  · intro e9 u9 hx9
    exact hx9.elim
  intro v9 u9 hv9
  obtain ⟨r1286, rfl, rfl, h⟩ := hv9
  refine ⟨fun q => absurd q (Nat.lt_irrefl _), ?_⟩
  show V G Y_X8_open 55 _ (.int r1286 :: _) _ _ _ _ _
  refine v_if_eq (tgt := 61) (pc' := 58) 28 rfl rfl (by decide) (fun hc => ?_) (fun hc => ?_)
  · replace h := h.1 hc
    refine v_aload_n (pc' := 62) 31 1 rfl rfl rfl rfl ?_
    refine v_getR (t := b) (pc' := 65) 32 rfl rfl pf_X8_40 ly_0 (lay_lt ly_0 (by decide)) rt_0_5 ?_
    refine v_getR (t := (b + 6)) (pc' := 68) 33 rfl rfl pf_X8_114 (bn0l hb) (lay_lt (bn0l hb) (by decide)) (rt_bn_1 hb) ?_
    refine v_getI (pc' := 71) 34 rfl rfl pf_X8_129 (bn6l hb) (lay_lt (bn6l hb) (by decide)) ?_
    refine v_istore (ls' := [(7, .int (I (b + 6) 7)), (6, .int r1285), (0, .ref 0), (1, .int v1), (2, .int v2), (4, .int v4), (5, .int v5)]) (pc' := 73) 35 rfl rfl (by decide) rfl ?_
    refine v_iload (pc' := 75) 36 0 rfl rfl rfl ?_
    refine v_bipush (v := 20) (pc' := 77) 37 rfl rfl (by decide) ?_
    refine v_icmp_lt (tgt := 83) (pc' := 80) 38 rfl rfl (by decide) (fun hc => ?_) (fun hc => ?_)
    · replace h := h.1 hc
      refine v_aload_n (pc' := 84) 41 2 rfl rfl rfl rfl ?_
      refine v_getR (t := 1) (pc' := 87) 42 rfl rfl pf_X8_10 ly_0 (lay_lt ly_0 (by decide)) rt_0_0 ?_
      refine v_aload_n (pc' := 88) 43 2 rfl rfl rfl rfl ?_
      refine v_getR (t := b) (pc' := 91) 44 rfl rfl pf_X8_40 ly_0 (lay_lt ly_0 (by decide)) rt_0_5 ?_
      refine v_getR (t := (b + 6)) (pc' := 94) 45 rfl rfl pf_X8_114 (bn0l hb) (lay_lt (bn0l hb) (by decide)) (rt_bn_1 hb) ?_
      refine v_cV (Y2 := Y_X4_record) (As := [.ref (b + 6)]) (b := 1) (pc' := 97) (c1 := 2) (s1 := 12) 46 rfl rfl mf_X4_record rfl rfl ml_X8_321 mi_X4_record se_X4_record (ci := 3) rfl ly_1 (lay_lt ly_1 (by decide)) rfl (Nat.le_of_ble_eq_true rfl) ⟨Nat.le_of_ble_eq_true rfl, Nat.le_of_ble_eq_true rfl⟩ rfl rfl (ok_X4_record (b + 6) I L (bn_st hb) h) ?_ ?_
      · intro e9 u9 hx9
        exact hx9.elim
      intro v9 u9 hv9
      obtain ⟨I1287, L1288, rfl, rfl, h⟩ := hv9
      refine ⟨fun q => absurd q (Nat.lt_irrefl _), ?_⟩
      show V G Y_X8_open 97 _ _ _ _ _ _ _
      refine v_aload_n (pc' := 98) 47 2 rfl rfl rfl rfl ?_
      refine v_getR (t := b) (pc' := 101) 48 rfl rfl pf_X8_40 ly_0 (lay_lt ly_0 (by decide)) rt_0_5 ?_
      refine v_getR (t := (b + 6)) (pc' := 104) 49 rfl rfl pf_X8_114 (bn0l hb) (lay_lt (bn0l hb) (by decide)) (rt_bn_1 hb) ?_
      refine v_dup (pc' := 105) 50 rfl rfl rfl ?_
      refine v_getI (pc' := 108) 51 rfl rfl pf_X8_129 (bn6l hb) (lay_lt (bn6l hb) (by decide)) ?_
      refine v_iconst (v := 1) (pc' := 109) 52 rfl rfl (by decide) ?_
      refine v_iadd (pc' := 110) 53 rfl rfl ?_
      refine v_putI (pc' := 113) 54 rfl rfl pf_X8_129 (fun q => absurd q (by decide)) (bn6l hb) (lay_lt (bn6l hb) (by decide)) ?_
      refine v_aload_n (pc' := 114) 55 2 rfl rfl rfl rfl ?_
      refine v_getR (t := b) (pc' := 117) 56 rfl rfl pf_X8_40 ly_0 (lay_lt ly_0 (by decide)) rt_0_5 ?_
      refine v_getR (t := (b + 6)) (pc' := 120) 57 rfl rfl pf_X8_114 (bn0l hb) (lay_lt (bn0l hb) (by decide)) (rt_bn_1 hb) ?_
      refine v_getR (t := (b + 16)) (pc' := 123) 58 rfl rfl pf_X8_251 (bn6l hb) (lay_lt (bn6l hb) (by decide)) (rt_st_6 (bn_st hb)) ?_
      refine v_iload (pc' := 125) 59 0 rfl rfl rfl ?_
      obtain ⟨hi1289, h⟩ := h
      refine v_aald5 (i := (I (b + 6) 7)) (r := ((b + 17) + (I (b + 6) 7).toNatClampNeg)) (j := (I (b + 6) 7).toNatClampNeg) (pc' := 126) 60 rfl rfl (bn16l hb) (bn16n hb) (lay_lt (bn16l hb) (by decide)) hi1289 rfl (rt_dis (bn_st hb) (vp_nat hi1289)) ?_
      refine v_iload_n (pc' := 127) 61 4 rfl rfl rfl rfl ?_
      refine v_iload (pc' := 129) 62 6 rfl rfl rfl ?_
      refine v_iload (pc' := 131) 63 1 rfl rfl rfl ?_
      refine v_aload_n (pc' := 132) 64 2 rfl rfl rfl rfl ?_
      refine v_getR (t := b) (pc' := 135) 65 rfl rfl pf_X8_40 ly_0 (lay_lt ly_0 (by decide)) rt_0_5 ?_
      refine v_getR (t := (b + 37)) (pc' := 138) 66 rfl rfl pf_X8_189 (bn0l hb) (lay_lt (bn0l hb) (by decide)) (rt_bn_2 hb) ?_
      refine v_iload_n (pc' := 139) 67 4 rfl rfl rfl rfl ?_
      obtain ⟨hi1290, h⟩ := h
      refine v_lald (i := v2) (j := v2.toNatClampNeg) (pc' := 140) 68 rfl rfl (bn37l hb) (bn37n hb) (lay_lt (bn37l hb) (by decide)) hi1290 rfl ?_
      refine v_iload (pc' := 142) 69 6 rfl rfl rfl ?_
      refine v_cS (Y2 := Y_X8_bitOf) (As := [.long (L1288 (b + 37) (v2.toNatClampNeg)), .int v5]) (pc' := 145) (c1 := 2) (s1 := 12) 70 rfl rfl mf_X8_bitOf rfl rfl ml_X8_207 ms_X8_bitOf rfl (Nat.le_of_ble_eq_true rfl) ⟨Nat.le_of_ble_eq_true rfl, Nat.le_of_ble_eq_true rfl⟩ rfl rfl (ok_X8_bitOf (L1288 (b + 37) (v2.toNatClampNeg)) v5 (up2 I1287 (b + 6) 7 ((I1287 (b + 6) 7) + 1)) L1288 h) ?_ ?_
      · intro e9 u9 hx9
        exact hx9.elim
      intro v9 u9 hv9
      obtain ⟨r1291, rfl, rfl, h⟩ := hv9
      refine ⟨fun q => absurd q (Nat.lt_irrefl _), ?_⟩
      show V G Y_X8_open 145 _ (.int r1291 :: _) _ _ _ _ _
      refine v_iload_n (pc' := 146) 71 3 rfl rfl rfl rfl ?_
      refine v_iload (pc' := 148) 72 5 rfl rfl rfl ?_
      refine v_cV (Y2 := Y_X3_start) (As := [.int v2, .int v5, .int r1285, .int r1291, .int v1, .int v4]) (b := ((b + 17) + (I (b + 6) 7).toNatClampNeg)) (pc' := 151) (c1 := 2) (s1 := 12) 73 rfl rfl mf_X3_start rfl rfl ml_X8_325 mi_X3_start se_X3_start (ci := 2) rfl (st_disl (bn_st hb) (vp_nat hi1289)) (lay_lt (st_disl (bn_st hb) (vp_nat hi1289)) (by decide)) rfl (Nat.le_of_ble_eq_true rfl) ⟨Nat.le_of_ble_eq_true rfl, Nat.le_of_ble_eq_true rfl⟩ rfl rfl (ok_X3_start ((b + 17) + (I (b + 6) 7).toNatClampNeg) v2 v5 r1285 r1291 v1 v4 (up2 I1287 (b + 6) 7 ((I1287 (b + 6) 7) + 1)) L1288 (st_disl (bn_st hb) (vp_nat hi1289)) h) ?_ ?_
      · intro e9 u9 hx9
        exact hx9.elim
      intro v9 u9 hv9
      obtain ⟨I1292, rfl, rfl, h⟩ := hv9
      refine ⟨fun q => absurd q (Nat.lt_irrefl _), ?_⟩
      show V G Y_X8_open 151 _ _ _ _ _ _ _
      refine v_iload (pc' := 153) 74 0 rfl rfl rfl ?_
      exact v_iret 75 rfl rfl (by decide) (by decide) ⟨_, _, _, rfl, rfl, h⟩
    replace h := h.2 hc
    refine v_bipush (v := -3) (pc' := 82) 39 rfl rfl (by decide) ?_
    exact v_iret 40 rfl rfl (by decide) (by decide) ⟨_, _, _, rfl, rfl, h⟩
  replace h := h.2 hc
  refine v_bipush (v := -2) (pc' := 60) 29 rfl rfl (by decide) ?_
  exact v_iret 30 rfl rfl (by decide) (by decide) ⟨_, _, _, rfl, rfl, h⟩
set_option maxHeartbeats 4000000 in
set_option maxRecDepth 100000 in
theorem ok_X8_open {G : GT} {t : Nat} (p1 : Int32) (p2 : Int32) (p3 : Int32) (p4 : Int32) (I : TI) (L : TL) (b : Nat) (d : Nat) (hb : bnOK b) (hd : bnOK d) {Q : Int32 → TI → TL → Prop} {QX : String → TI → TL → Prop} (h : W_X8_open p1 p2 p3 p4 I L b d Q QX) : MW G Y_X8_open [.ref 0, .int p1, .int p2, .int p3, .int p4] (I, L, RT b d t, 457) (fun v9 u9 => ∃ (r9 : Int32) (I9 : TI) (L9 : TL), v9 = some (.int r9) ∧ u9 = (I9, L9, RT b d t, 457) ∧ Q r9 I9 L9) (fun e9 u9 => ∃ (I9 : TI) (L9 : TL), u9 = (I9, L9, RT b d t, 457) ∧ QX e9 I9 L9) := by
  unfold W_X8_open at h
  refine MW.intro rfl (by decide) is_X8_open (Nat.le_of_ble_eq_true rfl) ?_
  show V G Y_X8_open 0 [(0, .ref 0), (1, .int p1), (2, .int p2), (3, .int p3), (4, .int p4)] [] (I, L, RT b d t, 457) 0 0 _ _
  refine v_aload_n (pc' := 1) 0 0 rfl rfl rfl rfl ?_
  refine v_iload_n (pc' := 2) 1 2 rfl rfl rfl rfl ?_
  refine v_iload_n (pc' := 3) 2 3 rfl rfl rfl rfl ?_
  refine v_cV (Y2 := Y_X8_requirePulse) (As := [.int p2, .int p3]) (b := 0) (pc' := 6) (c1 := 2) (s1 := 12) 3 rfl rfl mf_X8_requirePulse rfl rfl ml_X8_255 mi_X8_requirePulse se_X8_requirePulse (ci := 7) rfl ly_0 (lay_lt ly_0 (by decide)) rfl (Nat.le_of_ble_eq_true rfl) ⟨Nat.le_of_ble_eq_true rfl, Nat.le_of_ble_eq_true rfl⟩ rfl rfl (ok_X8_requirePulse p2 p3 I L b d hb hd h) ?_ ?_
  · intro e9 u9 hx9
    obtain ⟨rfl, hx9⟩ := hx9
    exact vx_leave rfl (by decide) (by decide) ⟨_, _, rfl, hx9⟩
  intro v9 u9 hv9
  obtain ⟨r1293, rfl, rfl, h⟩ := hv9
  refine ⟨fun q => absurd q (Nat.lt_irrefl _), ?_⟩
  show V G Y_X8_open 6 _ (.int r1293 :: _) _ _ _ _ _
  refine v_istore (ls' := [(5, .int r1293), (0, .ref 0), (1, .int p1), (2, .int p2), (3, .int p3), (4, .int p4)]) (pc' := 8) 4 rfl rfl (by decide) rfl ?_
  refine v_iload_n (pc' := 9) 5 2 rfl rfl rfl rfl ?_
  refine v_if_eq (tgt := 28) (pc' := 12) 6 rfl rfl (by decide) (fun hc => ?_) (fun hc => ?_)
  · replace h := h.1 hc
    refine V.sub [1, 2, 3, 5, 0] rfl ?_
    exact b_X8_open_28 p1 p2 p4 r1293 I L b d hb hd Q QX h
  replace h := h.2 hc
  refine v_iload_n (pc' := 13) 7 2 rfl rfl rfl rfl ?_
  refine v_iconst (v := 1) (pc' := 14) 8 rfl rfl (by decide) ?_
  refine v_icmp_eq (tgt := 28) (pc' := 17) 9 rfl rfl (by decide) (fun hc => ?_) (fun hc => ?_)
  · replace h := h.1 hc
    refine V.sub [1, 2, 3, 5, 0] rfl ?_
    exact b_X8_open_28 p1 p2 p4 r1293 I L b d hb hd Q QX h
  replace h := h.2 hc
  exact v_throwW 10 11 12 13 14 rfl rfl rfl rfl rfl tf_X8_61_65 sr_X8_316 rfl (by decide) (Nat.le_of_ble_eq_true rfl) (by decide) (by decide) ⟨_, _, rfl, h⟩
set_option maxHeartbeats 4000000 in
set_option maxRecDepth 100000 in
theorem ok_X8_judge {G : GT} {t : Nat} (p1 : Int32) (I : TI) (L : TL) (b : Nat) (d : Nat) (hb : bnOK b) (hd : bnOK d) {Q : Int32 → TI → TL → Prop} {QX : String → TI → TL → Prop} (h : W_X8_judge p1 I L b d Q QX) : MW G Y_X8_judge [.ref 0, .int p1] (I, L, RT b d t, 457) (fun v9 u9 => ∃ (r9 : Int32) (I9 : TI) (L9 : TL), v9 = some (.int r9) ∧ u9 = (I9, L9, RT b d t, 457) ∧ Q r9 I9 L9) (fun e9 u9 => ∃ (I9 : TI) (L9 : TL), u9 = (I9, L9, RT b d t, 457) ∧ QX e9 I9 L9) := by
  unfold W_X8_judge at h
  refine MW.intro rfl (by decide) is_X8_judge (Nat.le_of_ble_eq_true rfl) ?_
  show V G Y_X8_judge 0 [(0, .ref 0), (1, .int p1)] [] (I, L, RT b d t, 457) 0 0 _ _
  refine v_aload_n (pc' := 1) 0 0 rfl rfl rfl rfl ?_
  refine v_iload_n (pc' := 2) 1 1 rfl rfl rfl rfl ?_
  refine v_cV (Y2 := Y_X8_requireDispute) (As := [.int p1]) (b := 0) (pc' := 5) (c1 := 1) (s1 := 6) 2 rfl rfl mf_X8_requireDispute rfl rfl ml_X8_268 mi_X8_requireDispute se_X8_requireDispute (ci := 7) rfl ly_0 (lay_lt ly_0 (by decide)) rfl (Nat.le_of_ble_eq_true rfl) ⟨Nat.le_of_ble_eq_true rfl, Nat.le_of_ble_eq_true rfl⟩ rfl rfl (ok_X8_requireDispute p1 I L b d hb hd h) ?_ ?_
  · intro e9 u9 hx9
    obtain ⟨rfl, hx9⟩ := hx9
    exact vx_leave rfl (by decide) (by decide) ⟨_, _, rfl, hx9⟩
  intro v9 u9 hv9
  obtain ⟨r1303, rfl, rfl, h⟩ := hv9
  refine ⟨fun q => absurd q (Nat.lt_irrefl _), ?_⟩
  obtain ⟨hr1304, h⟩ := h
  show V G Y_X8_judge 5 _ (.ref r1303 :: _) _ _ _ _ _
  refine v_astore_n (ls' := [(2, .ref r1303), (0, .ref 0), (1, .int p1)]) (pc' := 6) 3 rfl rfl rfl (by decide) rfl ?_
  refine v_aload_n (pc' := 7) 4 0 rfl rfl rfl rfl ?_
  refine v_getI (pc' := 10) 5 rfl rfl pf_X8_292 hr1304 (lay_lt hr1304 (by decide)) ?_
  refine v_if_eq (tgt := 16) (pc' := 13) 6 rfl rfl (by decide) (fun hc => ?_) (fun hc => ?_)
  · replace h := h.1 hc
    refine v_aload_n (pc' := 17) 9 1 rfl rfl rfl rfl ?_
    refine v_getR (t := b) (pc' := 20) 10 rfl rfl pf_X8_40 ly_0 (lay_lt ly_0 (by decide)) rt_0_5 ?_
    refine v_aload_n (pc' := 21) 11 0 rfl rfl rfl rfl ?_
    refine v_getI (pc' := 24) 12 rfl rfl pf_X8_272 hr1304 (lay_lt hr1304 (by decide)) ?_
    refine v_aload_n (pc' := 25) 13 0 rfl rfl rfl rfl ?_
    refine v_cV (Y2 := Y_X3_times) (As := []) (b := r1303) (pc' := 28) (c1 := 1) (s1 := 6) 14 rfl rfl mf_X3_times rfl rfl ml_X8_329 mi_X3_times se_X3_times (ci := 2) rfl hr1304 (lay_lt hr1304 (by decide)) rfl (Nat.le_of_ble_eq_true rfl) ⟨Nat.le_of_ble_eq_true rfl, Nat.le_of_ble_eq_true rfl⟩ rfl rfl (ok_X3_times r1303 I L hr1304 h) ?_ ?_
    · intro e9 u9 hx9
      exact hx9.elim
    intro v9 u9 hv9
    obtain ⟨r1305, rfl, rfl, h⟩ := hv9
    refine ⟨fun q => absurd q (Nat.lt_irrefl _), ?_⟩
    show V G Y_X8_judge 28 _ (.int r1305 :: _) _ _ _ _ _
    refine v_aload_n (pc' := 29) 15 0 rfl rfl rfl rfl ?_
    refine v_getI (pc' := 32) 16 rfl rfl pf_X8_282 hr1304 (lay_lt hr1304 (by decide)) ?_
    refine v_cV (Y2 := Y_X0_cheapVerdict) (As := [.int (I r1303 0), .int r1305, .int (I r1303 3)]) (b := b) (pc' := 35) (c1 := 1) (s1 := 6) 17 rfl rfl mf_X0_cheapVerdict rfl rfl ml_X8_265 mi_X0_cheapVerdict se_X0_cheapVerdict (ci := 0) rfl (bn0l hb) (lay_lt (bn0l hb) (by decide)) rfl (Nat.le_of_ble_eq_true rfl) ⟨Nat.le_of_ble_eq_true rfl, Nat.le_of_ble_eq_true rfl⟩ rfl rfl (ok_X0_cheapVerdict b (I r1303 0) r1305 (I r1303 3) I L hb h) ?_ ?_
    · intro e9 u9 hx9
      exact hx9.elim
    intro v9 u9 hv9
    obtain ⟨r1306, rfl, rfl, h⟩ := hv9
    refine ⟨fun q => absurd q (Nat.lt_irrefl _), ?_⟩
    show V G Y_X8_judge 35 _ (.int r1306 :: _) _ _ _ _ _
    refine v_istore_n (ls' := [(3, .int r1306), (2, .ref r1303), (0, .ref 0), (1, .int p1)]) (pc' := 36) 18 rfl rfl rfl (by decide) rfl ?_
    refine v_aload_n (pc' := 37) 19 1 rfl rfl rfl rfl ?_
    refine v_iload_n (pc' := 38) 20 0 rfl rfl rfl rfl ?_
    refine v_cV (Y2 := Y_X3_loserBy) (As := [.int r1306]) (b := r1303) (pc' := 41) (c1 := 1) (s1 := 6) 21 rfl rfl mf_X3_loserBy rfl rfl ml_X8_298 mi_X3_loserBy se_X3_loserBy (ci := 2) rfl hr1304 (lay_lt hr1304 (by decide)) rfl (Nat.le_of_ble_eq_true rfl) ⟨Nat.le_of_ble_eq_true rfl, Nat.le_of_ble_eq_true rfl⟩ rfl rfl (ok_X3_loserBy r1303 r1306 I L hr1304 h) ?_ ?_
    · intro e9 u9 hx9
      exact hx9.elim
    intro v9 u9 hv9
    obtain ⟨r1307, rfl, rfl, h⟩ := hv9
    refine ⟨fun q => absurd q (Nat.lt_irrefl _), ?_⟩
    show V G Y_X8_judge 41 _ (.int r1307 :: _) _ _ _ _ _
    refine v_istore (ls' := [(4, .int r1307), (3, .int r1306), (2, .ref r1303), (0, .ref 0), (1, .int p1)]) (pc' := 43) 22 rfl rfl (by decide) rfl ?_
    refine v_aload_n (pc' := 44) 23 3 rfl rfl rfl rfl ?_
    refine v_getR (t := b) (pc' := 47) 24 rfl rfl pf_X8_40 ly_0 (lay_lt ly_0 (by decide)) rt_0_5 ?_
    refine v_getR (t := (b + 1)) (pc' := 50) 25 rfl rfl pf_X8_95 (bn0l hb) (lay_lt (bn0l hb) (by decide)) (rt_bn_0 hb) ?_
    refine v_getI (pc' := 53) 26 rfl rfl pf_X8_126 (bn1l hb) (lay_lt (bn1l hb) (by decide)) ?_
    refine v_istore (ls' := [(5, .int (I (b + 1) 8)), (4, .int r1307), (3, .int r1306), (2, .ref r1303), (0, .ref 0), (1, .int p1)]) (pc' := 55) 27 rfl rfl (by decide) rfl ?_
    refine v_aload_n (pc' := 56) 28 4 rfl rfl rfl rfl ?_
    refine v_getR (t := b) (pc' := 59) 29 rfl rfl pf_X8_40 ly_0 (lay_lt ly_0 (by decide)) rt_0_5 ?_
    refine v_getR (t := (b + 6)) (pc' := 62) 30 rfl rfl pf_X8_114 (bn0l hb) (lay_lt (bn0l hb) (by decide)) (rt_bn_1 hb) ?_
    refine v_getR (t := (b + 15)) (pc' := 65) 31 rfl rfl pf_X8_132 (bn6l hb) (lay_lt (bn6l hb) (by decide)) (rt_st_5 (bn_st hb)) ?_
    refine v_iload (pc' := 67) 32 1 rfl rfl rfl ?_
    obtain ⟨hi1308, h⟩ := h
    refine v_iald (i := r1307) (j := r1307.toNatClampNeg) (pc' := 68) 33 rfl rfl (bn15l hb) (bn15n hb) (lay_lt (bn15l hb) (by decide)) hi1308 rfl ?_
    refine v_iload (pc' := 70) 34 0 rfl rfl rfl ?_
    refine v_icmp_ge (tgt := 76) (pc' := 73) 35 rfl rfl (by decide) (fun hc => ?_) (fun hc => ?_)
    · replace h := h.1 hc
      refine v_aload_n (pc' := 77) 38 4 rfl rfl rfl rfl ?_
      refine v_getR (t := 1) (pc' := 80) 39 rfl rfl pf_X8_10 ly_0 (lay_lt ly_0 (by decide)) rt_0_0 ?_
      refine v_aload_n (pc' := 81) 40 4 rfl rfl rfl rfl ?_
      refine v_getR (t := b) (pc' := 84) 41 rfl rfl pf_X8_40 ly_0 (lay_lt ly_0 (by decide)) rt_0_5 ?_
      refine v_getR (t := (b + 6)) (pc' := 87) 42 rfl rfl pf_X8_114 (bn0l hb) (lay_lt (bn0l hb) (by decide)) (rt_bn_1 hb) ?_
      refine v_cV (Y2 := Y_X4_record) (As := [.ref (b + 6)]) (b := 1) (pc' := 90) (c1 := 1) (s1 := 6) 43 rfl rfl mf_X4_record rfl rfl ml_X8_321 mi_X4_record se_X4_record (ci := 3) rfl ly_1 (lay_lt ly_1 (by decide)) rfl (Nat.le_of_ble_eq_true rfl) ⟨Nat.le_of_ble_eq_true rfl, Nat.le_of_ble_eq_true rfl⟩ rfl rfl (ok_X4_record (b + 6) I L (bn_st hb) h) ?_ ?_
      · intro e9 u9 hx9
        exact hx9.elim
      intro v9 u9 hv9
      obtain ⟨I1309, L1310, rfl, rfl, h⟩ := hv9
      refine ⟨fun q => absurd q (Nat.lt_irrefl _), ?_⟩
      show V G Y_X8_judge 90 _ _ _ _ _ _ _
      refine v_aload_n (pc' := 91) 44 4 rfl rfl rfl rfl ?_
      refine v_getR (t := b) (pc' := 94) 45 rfl rfl pf_X8_40 ly_0 (lay_lt ly_0 (by decide)) rt_0_5 ?_
      refine v_getR (t := (b + 6)) (pc' := 97) 46 rfl rfl pf_X8_114 (bn0l hb) (lay_lt (bn0l hb) (by decide)) (rt_bn_1 hb) ?_
      refine v_iload (pc' := 99) 47 1 rfl rfl rfl ?_
      refine v_iload (pc' := 101) 48 0 rfl rfl rfl ?_
      refine v_cV (Y2 := Y_X6_payCourt) (As := [.int r1307, .int (I (b + 1) 8)]) (b := (b + 6)) (pc' := 104) (c1 := 1) (s1 := 6) 49 rfl rfl mf_X6_payCourt rfl rfl ml_X8_331 mi_X6_payCourt se_X6_payCourt (ci := 5) rfl (bn6l hb) (lay_lt (bn6l hb) (by decide)) rfl (Nat.le_of_ble_eq_true rfl) ⟨Nat.le_of_ble_eq_true rfl, Nat.le_of_ble_eq_true rfl⟩ rfl rfl (ok_X6_payCourt (b + 6) r1307 (I (b + 1) 8) I1309 L1310 (bn_st hb) h) ?_ ?_
      · intro e9 u9 hx9
        exact hx9.elim
      intro v9 u9 hv9
      obtain ⟨I1311, rfl, rfl, h⟩ := hv9
      refine ⟨fun q => absurd q (Nat.lt_irrefl _), ?_⟩
      show V G Y_X8_judge 104 _ _ _ _ _ _ _
      refine v_aload_n (pc' := 105) 50 3 rfl rfl rfl rfl ?_
      refine v_iload_n (pc' := 106) 51 2 rfl rfl rfl rfl ?_
      refine v_putI (pc' := 109) 52 rfl rfl pf_X8_295 (fun q => absurd q (by decide)) hr1304 (lay_lt hr1304 (by decide)) ?_
      refine v_aload_n (pc' := 110) 53 3 rfl rfl rfl rfl ?_
      refine v_iconst (v := 1) (pc' := 111) 54 rfl rfl (by decide) ?_
      refine v_putI (pc' := 114) 55 rfl rfl pf_X8_292 (fun q => absurd q (by decide)) hr1304 (lay_lt hr1304 (by decide)) ?_
      refine v_iload_n (pc' := 115) 56 2 rfl rfl rfl rfl ?_
      exact v_iret 57 rfl rfl (by decide) (by decide) ⟨_, _, _, rfl, rfl, h⟩
    replace h := h.2 hc
    refine v_bipush (v := -3) (pc' := 75) 36 rfl rfl (by decide) ?_
    exact v_iret 37 rfl rfl (by decide) (by decide) ⟨_, _, _, rfl, rfl, h⟩
  replace h := h.2 hc
  refine v_bipush (v := -2) (pc' := 15) 7 rfl rfl (by decide) ?_
  exact v_iret 8 rfl rfl (by decide) (by decide) ⟨_, _, _, rfl, rfl, h⟩
set_option maxHeartbeats 4000000 in
set_option maxRecDepth 100000 in
theorem ok_X8_appeal {G : GT} {t : Nat} (p1 : Int32) (I : TI) (L : TL) (b : Nat) (d : Nat) (hb : bnOK b) (hd : bnOK d) {Q : Int32 → TI → TL → Prop} {QX : String → TI → TL → Prop} (h : W_X8_appeal p1 I L b d Q QX) : MW G Y_X8_appeal [.ref 0, .int p1] (I, L, RT b d t, 457) (fun v9 u9 => ∃ (r9 : Int32) (I9 : TI) (L9 : TL), v9 = some (.int r9) ∧ u9 = (I9, L9, RT b d t, 457) ∧ Q r9 I9 L9) (fun e9 u9 => ∃ (I9 : TI) (L9 : TL), u9 = (I9, L9, RT b d t, 457) ∧ QX e9 I9 L9) := by
  unfold W_X8_appeal at h
  refine MW.intro rfl (by decide) is_X8_appeal (Nat.le_of_ble_eq_true rfl) ?_
  show V G Y_X8_appeal 0 [(0, .ref 0), (1, .int p1)] [] (I, L, RT b d t, 457) 0 0 _ _
  refine v_aload_n (pc' := 1) 0 0 rfl rfl rfl rfl ?_
  refine v_iload_n (pc' := 2) 1 1 rfl rfl rfl rfl ?_
  refine v_cV (Y2 := Y_X8_requireDispute) (As := [.int p1]) (b := 0) (pc' := 5) (c1 := 1) (s1 := 6) 2 rfl rfl mf_X8_requireDispute rfl rfl ml_X8_268 mi_X8_requireDispute se_X8_requireDispute (ci := 7) rfl ly_0 (lay_lt ly_0 (by decide)) rfl (Nat.le_of_ble_eq_true rfl) ⟨Nat.le_of_ble_eq_true rfl, Nat.le_of_ble_eq_true rfl⟩ rfl rfl (ok_X8_requireDispute p1 I L b d hb hd h) ?_ ?_
  · intro e9 u9 hx9
    obtain ⟨rfl, hx9⟩ := hx9
    exact vx_leave rfl (by decide) (by decide) ⟨_, _, rfl, hx9⟩
  intro v9 u9 hv9
  obtain ⟨r1326, rfl, rfl, h⟩ := hv9
  refine ⟨fun q => absurd q (Nat.lt_irrefl _), ?_⟩
  obtain ⟨hr1327, h⟩ := h
  show V G Y_X8_appeal 5 _ (.ref r1326 :: _) _ _ _ _ _
  refine v_astore_n (ls' := [(2, .ref r1326), (0, .ref 0), (1, .int p1)]) (pc' := 6) 3 rfl rfl rfl (by decide) rfl ?_
  refine v_aload_n (pc' := 7) 4 0 rfl rfl rfl rfl ?_
  refine v_getI (pc' := 10) 5 rfl rfl pf_X8_292 hr1327 (lay_lt hr1327 (by decide)) ?_
  refine v_iconst (v := 1) (pc' := 11) 6 rfl rfl (by decide) ?_
  refine v_icmp_eq (tgt := 17) (pc' := 14) 7 rfl rfl (by decide) (fun hc => ?_) (fun hc => ?_)
  · replace h := h.1 hc
    refine v_aload_n (pc' := 18) 10 1 rfl rfl rfl rfl ?_
    refine v_getR (t := b) (pc' := 21) 11 rfl rfl pf_X8_40 ly_0 (lay_lt ly_0 (by decide)) rt_0_5 ?_
    refine v_aload_n (pc' := 22) 12 0 rfl rfl rfl rfl ?_
    refine v_getI (pc' := 25) 13 rfl rfl pf_X8_272 hr1327 (lay_lt hr1327 (by decide)) ?_
    refine v_aload_n (pc' := 26) 14 0 rfl rfl rfl rfl ?_
    refine v_getI (pc' := 29) 15 rfl rfl pf_X8_276 hr1327 (lay_lt hr1327 (by decide)) ?_
    refine v_aload_n (pc' := 30) 16 0 rfl rfl rfl rfl ?_
    refine v_getI (pc' := 33) 17 rfl rfl pf_X8_279 hr1327 (lay_lt hr1327 (by decide)) ?_
    refine v_cV (Y2 := Y_X0_price) (As := [.int (I r1326 0), .int (I r1326 1), .int (I r1326 2)]) (b := b) (pc' := 36) (c1 := 1) (s1 := 6) 18 rfl rfl mf_X0_price rfl rfl ml_X8_261 mi_X0_price se_X0_price (ci := 0) rfl (bn0l hb) (lay_lt (bn0l hb) (by decide)) rfl (Nat.le_of_ble_eq_true rfl) ⟨Nat.le_of_ble_eq_true rfl, Nat.le_of_ble_eq_true rfl⟩ rfl rfl (ok_X0_price b (I r1326 0) (I r1326 1) (I r1326 2) I L hb h) ?_ ?_
    · intro e9 u9 hx9
      exact hx9.elim
    intro v9 u9 hv9
    obtain ⟨r1328, rfl, rfl, h⟩ := hv9
    refine ⟨fun q => absurd q (Nat.lt_irrefl _), ?_⟩
    show V G Y_X8_appeal 36 _ (.int r1328 :: _) _ _ _ _ _
    refine v_istore_n (ls' := [(3, .int r1328), (2, .ref r1326), (0, .ref 0), (1, .int p1)]) (pc' := 37) 19 rfl rfl rfl (by decide) rfl ?_
    refine v_aload_n (pc' := 38) 20 2 rfl rfl rfl rfl ?_
    refine v_getR (t := b) (pc' := 41) 21 rfl rfl pf_X8_40 ly_0 (lay_lt ly_0 (by decide)) rt_0_5 ?_
    refine v_getR (t := (b + 6)) (pc' := 44) 22 rfl rfl pf_X8_114 (bn0l hb) (lay_lt (bn0l hb) (by decide)) (rt_bn_1 hb) ?_
    refine v_getR (t := (b + 15)) (pc' := 47) 23 rfl rfl pf_X8_132 (bn6l hb) (lay_lt (bn6l hb) (by decide)) (rt_st_5 (bn_st hb)) ?_
    refine v_aload_n (pc' := 48) 24 1 rfl rfl rfl rfl ?_
    refine v_aload_n (pc' := 49) 25 1 rfl rfl rfl rfl ?_
    refine v_getI (pc' := 52) 26 rfl rfl pf_X8_295 hr1327 (lay_lt hr1327 (by decide)) ?_
    refine v_cV (Y2 := Y_X3_loserBy) (As := [.int (I r1326 7)]) (b := r1326) (pc' := 55) (c1 := 1) (s1 := 6) 27 rfl rfl mf_X3_loserBy rfl rfl ml_X8_298 mi_X3_loserBy se_X3_loserBy (ci := 2) rfl hr1327 (lay_lt hr1327 (by decide)) rfl (Nat.le_of_ble_eq_true rfl) ⟨Nat.le_of_ble_eq_true rfl, Nat.le_of_ble_eq_true rfl⟩ rfl rfl (ok_X3_loserBy r1326 (I r1326 7) I L hr1327 h) ?_ ?_
    · intro e9 u9 hx9
      exact hx9.elim
    intro v9 u9 hv9
    obtain ⟨r1329, rfl, rfl, h⟩ := hv9
    refine ⟨fun q => absurd q (Nat.lt_irrefl _), ?_⟩
    show V G Y_X8_appeal 55 _ (.int r1329 :: _) _ _ _ _ _
    obtain ⟨hi1330, h⟩ := h
    refine v_iald (i := r1329) (j := r1329.toNatClampNeg) (pc' := 56) 28 rfl rfl (bn15l hb) (bn15n hb) (lay_lt (bn15l hb) (by decide)) hi1330 rfl ?_
    refine v_iload_n (pc' := 57) 29 0 rfl rfl rfl rfl ?_
    refine v_icmp_ge (tgt := 63) (pc' := 60) 30 rfl rfl (by decide) (fun hc => ?_) (fun hc => ?_)
    · replace h := h.1 hc
      refine v_aload_n (pc' := 64) 33 2 rfl rfl rfl rfl ?_
      refine v_getR (t := 1) (pc' := 67) 34 rfl rfl pf_X8_10 ly_0 (lay_lt ly_0 (by decide)) rt_0_0 ?_
      refine v_aload_n (pc' := 68) 35 2 rfl rfl rfl rfl ?_
      refine v_getR (t := b) (pc' := 71) 36 rfl rfl pf_X8_40 ly_0 (lay_lt ly_0 (by decide)) rt_0_5 ?_
      refine v_getR (t := (b + 6)) (pc' := 74) 37 rfl rfl pf_X8_114 (bn0l hb) (lay_lt (bn0l hb) (by decide)) (rt_bn_1 hb) ?_
      refine v_cV (Y2 := Y_X4_record) (As := [.ref (b + 6)]) (b := 1) (pc' := 77) (c1 := 1) (s1 := 6) 38 rfl rfl mf_X4_record rfl rfl ml_X8_321 mi_X4_record se_X4_record (ci := 3) rfl ly_1 (lay_lt ly_1 (by decide)) rfl (Nat.le_of_ble_eq_true rfl) ⟨Nat.le_of_ble_eq_true rfl, Nat.le_of_ble_eq_true rfl⟩ rfl rfl (ok_X4_record (b + 6) I L (bn_st hb) h) ?_ ?_
      · intro e9 u9 hx9
        exact hx9.elim
      intro v9 u9 hv9
      obtain ⟨I1331, L1332, rfl, rfl, h⟩ := hv9
      refine ⟨fun q => absurd q (Nat.lt_irrefl _), ?_⟩
      show V G Y_X8_appeal 77 _ _ _ _ _ _ _
      refine v_aload_n (pc' := 78) 39 1 rfl rfl rfl rfl ?_
      refine v_aload_n (pc' := 79) 40 2 rfl rfl rfl rfl ?_
      refine v_getR (t := b) (pc' := 82) 41 rfl rfl pf_X8_40 ly_0 (lay_lt ly_0 (by decide)) rt_0_5 ?_
      refine v_aload_n (pc' := 83) 42 1 rfl rfl rfl rfl ?_
      refine v_cV (Y2 := Y_X0_dearVerdict) (As := [.ref r1326]) (b := b) (pc' := 86) (c1 := 1) (s1 := 6) 43 rfl rfl mf_X0_dearVerdict rfl rfl ml_X8_309 mi_X0_dearVerdict se_X0_dearVerdict (ci := 0) rfl (bn0l hb) (lay_lt (bn0l hb) (by decide)) rfl (Nat.le_of_ble_eq_true rfl) ⟨Nat.le_of_ble_eq_true rfl, Nat.le_of_ble_eq_true rfl⟩ rfl rfl (ok_X0_dearVerdict b r1326 I1331 L1332 hb hr1327 h) ?_ ?_
      · intro e9 u9 hx9
        exact hx9.elim
      intro v9 u9 hv9
      obtain ⟨r1333, rfl, rfl, h⟩ := hv9
      refine ⟨fun q => absurd q (Nat.lt_irrefl _), ?_⟩
      show V G Y_X8_appeal 86 _ (.int r1333 :: _) _ _ _ _ _
      refine v_putI (pc' := 89) 44 rfl rfl pf_X8_295 (fun q => absurd q (by decide)) hr1327 (lay_lt hr1327 (by decide)) ?_
      refine v_aload_n (pc' := 90) 45 1 rfl rfl rfl rfl ?_
      refine v_iconst (v := 2) (pc' := 91) 46 rfl rfl (by decide) ?_
      refine v_putI (pc' := 94) 47 rfl rfl pf_X8_292 (fun q => absurd q (by decide)) hr1327 (lay_lt hr1327 (by decide)) ?_
      refine v_aload_n (pc' := 95) 48 1 rfl rfl rfl rfl ?_
      refine v_aload_n (pc' := 96) 49 1 rfl rfl rfl rfl ?_
      refine v_getI (pc' := 99) 50 rfl rfl pf_X8_295 hr1327 (lay_lt hr1327 (by decide)) ?_
      refine v_cV (Y2 := Y_X3_loserBy) (As := [.int ((up2 (up2 I1331 r1326 7 r1333) r1326 6 2) r1326 7)]) (b := r1326) (pc' := 102) (c1 := 1) (s1 := 6) 51 rfl rfl mf_X3_loserBy rfl rfl ml_X8_298 mi_X3_loserBy se_X3_loserBy (ci := 2) rfl hr1327 (lay_lt hr1327 (by decide)) rfl (Nat.le_of_ble_eq_true rfl) ⟨Nat.le_of_ble_eq_true rfl, Nat.le_of_ble_eq_true rfl⟩ rfl rfl (ok_X3_loserBy r1326 ((up2 (up2 I1331 r1326 7 r1333) r1326 6 2) r1326 7) (up2 (up2 I1331 r1326 7 r1333) r1326 6 2) L1332 hr1327 h) ?_ ?_
      · intro e9 u9 hx9
        exact hx9.elim
      intro v9 u9 hv9
      obtain ⟨r1334, rfl, rfl, h⟩ := hv9
      refine ⟨fun q => absurd q (Nat.lt_irrefl _), ?_⟩
      show V G Y_X8_appeal 102 _ (.int r1334 :: _) _ _ _ _ _
      refine v_istore (ls' := [(4, .int r1334), (3, .int r1328), (2, .ref r1326), (0, .ref 0), (1, .int p1)]) (pc' := 104) 52 rfl rfl (by decide) rfl ?_
      refine v_aload_n (pc' := 105) 53 3 rfl rfl rfl rfl ?_
      refine v_getR (t := b) (pc' := 108) 54 rfl rfl pf_X8_40 ly_0 (lay_lt ly_0 (by decide)) rt_0_5 ?_
      refine v_getR (t := (b + 6)) (pc' := 111) 55 rfl rfl pf_X8_114 (bn0l hb) (lay_lt (bn0l hb) (by decide)) (rt_bn_1 hb) ?_
      refine v_iload (pc' := 113) 56 0 rfl rfl rfl ?_
      refine v_iload_n (pc' := 114) 57 1 rfl rfl rfl rfl ?_
      refine v_aload_n (pc' := 115) 58 3 rfl rfl rfl rfl ?_
      refine v_getR (t := b) (pc' := 118) 59 rfl rfl pf_X8_40 ly_0 (lay_lt ly_0 (by decide)) rt_0_5 ?_
      refine v_getR (t := (b + 6)) (pc' := 121) 60 rfl rfl pf_X8_114 (bn0l hb) (lay_lt (bn0l hb) (by decide)) (rt_bn_1 hb) ?_
      refine v_getR (t := (b + 15)) (pc' := 124) 61 rfl rfl pf_X8_132 (bn6l hb) (lay_lt (bn6l hb) (by decide)) (rt_st_5 (bn_st hb)) ?_
      refine v_iload (pc' := 126) 62 0 rfl rfl rfl ?_
      obtain ⟨hi1335, h⟩ := h
      refine v_iald (i := r1334) (j := r1334.toNatClampNeg) (pc' := 127) 63 rfl rfl (bn15l hb) (bn15n hb) (lay_lt (bn15l hb) (by decide)) hi1335 rfl ?_
      refine v_mmin (pc' := 130) 64 rfl rfl mm_X8_334 (Nat.le_of_ble_eq_true rfl) (by decide) (by decide) ⟨Nat.le_of_ble_eq_true rfl, Nat.le_of_ble_eq_true rfl⟩ ?_
      refine v_cV (Y2 := Y_X6_payCourt) (As := [.int r1334, .int (mnI r1328 ((up2 (up2 I1331 r1326 7 r1333) r1326 6 2) (b + 15) (r1334.toNatClampNeg)))]) (b := (b + 6)) (pc' := 133) (c1 := 1) (s1 := 6) 65 rfl rfl mf_X6_payCourt rfl rfl ml_X8_331 mi_X6_payCourt se_X6_payCourt (ci := 5) rfl (bn6l hb) (lay_lt (bn6l hb) (by decide)) rfl (Nat.le_of_ble_eq_true rfl) ⟨Nat.le_of_ble_eq_true rfl, Nat.le_of_ble_eq_true rfl⟩ rfl rfl (ok_X6_payCourt (b + 6) r1334 (mnI r1328 ((up2 (up2 I1331 r1326 7 r1333) r1326 6 2) (b + 15) (r1334.toNatClampNeg))) (up2 (up2 I1331 r1326 7 r1333) r1326 6 2) L1332 (bn_st hb) h) ?_ ?_
      · intro e9 u9 hx9
        exact hx9.elim
      intro v9 u9 hv9
      obtain ⟨I1336, rfl, rfl, h⟩ := hv9
      refine ⟨fun q => absurd q (Nat.lt_irrefl _), ?_⟩
      show V G Y_X8_appeal 133 _ _ _ _ _ _ _
      refine v_aload_n (pc' := 134) 66 3 rfl rfl rfl rfl ?_
      refine v_getR (t := b) (pc' := 137) 67 rfl rfl pf_X8_40 ly_0 (lay_lt ly_0 (by decide)) rt_0_5 ?_
      refine v_aload_n (pc' := 138) 68 2 rfl rfl rfl rfl ?_
      refine v_getI (pc' := 141) 69 rfl rfl pf_X8_272 hr1327 (lay_lt hr1327 (by decide)) ?_
      refine v_aload_n (pc' := 142) 70 2 rfl rfl rfl rfl ?_
      refine v_getI (pc' := 145) 71 rfl rfl pf_X8_276 hr1327 (lay_lt hr1327 (by decide)) ?_
      refine v_aload_n (pc' := 146) 72 2 rfl rfl rfl rfl ?_
      refine v_getI (pc' := 149) 73 rfl rfl pf_X8_279 hr1327 (lay_lt hr1327 (by decide)) ?_
      refine v_cV (Y2 := Y_X0_settle) (As := [.int (I1336 r1326 0), .int (I1336 r1326 1), .int (I1336 r1326 2)]) (b := b) (pc' := 152) (c1 := 1) (s1 := 6) 74 rfl rfl mf_X0_settle rfl rfl ml_X8_339 mi_X0_settle se_X0_settle (ci := 0) rfl (bn0l hb) (lay_lt (bn0l hb) (by decide)) rfl (Nat.le_of_ble_eq_true rfl) ⟨Nat.le_of_ble_eq_true rfl, Nat.le_of_ble_eq_true rfl⟩ rfl rfl (ok_X0_settle b (I1336 r1326 0) (I1336 r1326 1) (I1336 r1326 2) I1336 L1332 hb h) ?_ ?_
      · intro e9 u9 hx9
        exact hx9.elim
      intro v9 u9 hv9
      obtain ⟨r1337, I1338, L1339, rfl, rfl, h⟩ := hv9
      refine ⟨fun q => absurd q (Nat.lt_irrefl _), ?_⟩
      show V G Y_X8_appeal 152 _ (.int r1337 :: _) _ _ _ _ _
      refine v_pop (pc' := 153) 75 rfl rfl rfl ?_
      refine v_aload_n (pc' := 154) 76 2 rfl rfl rfl rfl ?_
      refine v_getI (pc' := 157) 77 rfl rfl pf_X8_295 hr1327 (lay_lt hr1327 (by decide)) ?_
      exact v_iret 78 rfl rfl (by decide) (by decide) ⟨_, _, _, rfl, rfl, h⟩
    replace h := h.2 hc
    refine v_bipush (v := -3) (pc' := 62) 31 rfl rfl (by decide) ?_
    exact v_iret 32 rfl rfl (by decide) (by decide) ⟨_, _, _, rfl, rfl, h⟩
  replace h := h.2 hc
  refine v_bipush (v := -2) (pc' := 16) 8 rfl rfl (by decide) ?_
  exact v_iret 9 rfl rfl (by decide) (by decide) ⟨_, _, _, rfl, rfl, h⟩
set_option maxHeartbeats 4000000 in
set_option maxRecDepth 100000 in
theorem ok_X8_accept {G : GT} {t : Nat} (p1 : Int32) (I : TI) (L : TL) (b : Nat) (d : Nat) (hb : bnOK b) (hd : bnOK d) {Q : Int32 → TI → TL → Prop} {QX : String → TI → TL → Prop} (h : W_X8_accept p1 I L b d Q QX) : MW G Y_X8_accept [.ref 0, .int p1] (I, L, RT b d t, 457) (fun v9 u9 => ∃ (r9 : Int32) (I9 : TI) (L9 : TL), v9 = some (.int r9) ∧ u9 = (I9, L9, RT b d t, 457) ∧ Q r9 I9 L9) (fun e9 u9 => ∃ (I9 : TI) (L9 : TL), u9 = (I9, L9, RT b d t, 457) ∧ QX e9 I9 L9) := by
  unfold W_X8_accept at h
  refine MW.intro rfl (by decide) is_X8_accept (Nat.le_of_ble_eq_true rfl) ?_
  show V G Y_X8_accept 0 [(0, .ref 0), (1, .int p1)] [] (I, L, RT b d t, 457) 0 0 _ _
  refine v_aload_n (pc' := 1) 0 0 rfl rfl rfl rfl ?_
  refine v_iload_n (pc' := 2) 1 1 rfl rfl rfl rfl ?_
  refine v_cV (Y2 := Y_X8_requireDispute) (As := [.int p1]) (b := 0) (pc' := 5) (c1 := 1) (s1 := 6) 2 rfl rfl mf_X8_requireDispute rfl rfl ml_X8_268 mi_X8_requireDispute se_X8_requireDispute (ci := 7) rfl ly_0 (lay_lt ly_0 (by decide)) rfl (Nat.le_of_ble_eq_true rfl) ⟨Nat.le_of_ble_eq_true rfl, Nat.le_of_ble_eq_true rfl⟩ rfl rfl (ok_X8_requireDispute p1 I L b d hb hd h) ?_ ?_
  · intro e9 u9 hx9
    obtain ⟨rfl, hx9⟩ := hx9
    exact vx_leave rfl (by decide) (by decide) ⟨_, _, rfl, hx9⟩
  intro v9 u9 hv9
  obtain ⟨r1347, rfl, rfl, h⟩ := hv9
  refine ⟨fun q => absurd q (Nat.lt_irrefl _), ?_⟩
  obtain ⟨hr1348, h⟩ := h
  show V G Y_X8_accept 5 _ (.ref r1347 :: _) _ _ _ _ _
  refine v_astore_n (ls' := [(2, .ref r1347), (0, .ref 0), (1, .int p1)]) (pc' := 6) 3 rfl rfl rfl (by decide) rfl ?_
  refine v_aload_n (pc' := 7) 4 0 rfl rfl rfl rfl ?_
  refine v_getI (pc' := 10) 5 rfl rfl pf_X8_292 hr1348 (lay_lt hr1348 (by decide)) ?_
  refine v_iconst (v := 1) (pc' := 11) 6 rfl rfl (by decide) ?_
  refine v_icmp_eq (tgt := 17) (pc' := 14) 7 rfl rfl (by decide) (fun hc => ?_) (fun hc => ?_)
  · replace h := h.1 hc
    refine v_aload_n (pc' := 18) 10 1 rfl rfl rfl rfl ?_
    refine v_getR (t := 1) (pc' := 21) 11 rfl rfl pf_X8_10 ly_0 (lay_lt ly_0 (by decide)) rt_0_0 ?_
    refine v_aload_n (pc' := 22) 12 1 rfl rfl rfl rfl ?_
    refine v_getR (t := b) (pc' := 25) 13 rfl rfl pf_X8_40 ly_0 (lay_lt ly_0 (by decide)) rt_0_5 ?_
    refine v_getR (t := (b + 6)) (pc' := 28) 14 rfl rfl pf_X8_114 (bn0l hb) (lay_lt (bn0l hb) (by decide)) (rt_bn_1 hb) ?_
    refine v_cV (Y2 := Y_X4_record) (As := [.ref (b + 6)]) (b := 1) (pc' := 31) (c1 := 1) (s1 := 6) 15 rfl rfl mf_X4_record rfl rfl ml_X8_321 mi_X4_record se_X4_record (ci := 3) rfl ly_1 (lay_lt ly_1 (by decide)) rfl (Nat.le_of_ble_eq_true rfl) ⟨Nat.le_of_ble_eq_true rfl, Nat.le_of_ble_eq_true rfl⟩ rfl rfl (ok_X4_record (b + 6) I L (bn_st hb) h) ?_ ?_
    · intro e9 u9 hx9
      exact hx9.elim
    intro v9 u9 hv9
    obtain ⟨I1349, L1350, rfl, rfl, h⟩ := hv9
    refine ⟨fun q => absurd q (Nat.lt_irrefl _), ?_⟩
    show V G Y_X8_accept 31 _ _ _ _ _ _ _
    refine v_aload_n (pc' := 32) 16 0 rfl rfl rfl rfl ?_
    refine v_iconst (v := 3) (pc' := 33) 17 rfl rfl (by decide) ?_
    refine v_putI (pc' := 36) 18 rfl rfl pf_X8_292 (fun q => absurd q (by decide)) hr1348 (lay_lt hr1348 (by decide)) ?_
    refine v_aload_n (pc' := 37) 19 1 rfl rfl rfl rfl ?_
    refine v_getR (t := b) (pc' := 40) 20 rfl rfl pf_X8_40 ly_0 (lay_lt ly_0 (by decide)) rt_0_5 ?_
    refine v_aload_n (pc' := 41) 21 0 rfl rfl rfl rfl ?_
    refine v_cV (Y2 := Y_X0_rule) (As := [.ref r1347]) (b := b) (pc' := 44) (c1 := 1) (s1 := 6) 22 rfl rfl mf_X0_rule rfl rfl ml_X8_342 mi_X0_rule se_X0_rule (ci := 0) rfl (bn0l hb) (lay_lt (bn0l hb) (by decide)) rfl (Nat.le_of_ble_eq_true rfl) ⟨Nat.le_of_ble_eq_true rfl, Nat.le_of_ble_eq_true rfl⟩ rfl rfl (ok_X0_rule b r1347 (up2 I1349 r1347 6 3) L1350 hb hr1348 h) ?_ ?_
    · intro e9 u9 hx9
      exact hx9.elim
    intro v9 u9 hv9
    obtain ⟨r1351, I1352, L1353, rfl, rfl, h⟩ := hv9
    refine ⟨fun q => absurd q (Nat.lt_irrefl _), ?_⟩
    show V G Y_X8_accept 44 _ (.int r1351 :: _) _ _ _ _ _
    exact v_iret 23 rfl rfl (by decide) (by decide) ⟨_, _, _, rfl, rfl, h⟩
  replace h := h.2 hc
  refine v_bipush (v := -2) (pc' := 16) 8 rfl rfl (by decide) ?_
  exact v_iret 9 rfl rfl (by decide) (by decide) ⟨_, _, _, rfl, rfl, h⟩
set_option maxHeartbeats 4000000 in
set_option maxRecDepth 100000 in
theorem ok_X8_replay {G : GT} {t : Nat} (p1 : Int32) (p2 : Int32) (p3 : Int32) (I : TI) (L : TL) (b : Nat) (d : Nat) (hb : bnOK b) (hd : bnOK d) {Q : Int32 → TI → TL → Prop} {QX : String → TI → TL → Prop} (h : W_X8_replay p1 p2 p3 I L b d Q QX) : MW G Y_X8_replay [.ref 0, .int p1, .int p2, .int p3] (I, L, RT b d t, 457) (fun v9 u9 => ∃ (r9 : Int32) (I9 : TI) (L9 : TL), v9 = some (.int r9) ∧ u9 = (I9, L9, RT b d t, 457) ∧ Q r9 I9 L9) (fun e9 u9 => ∃ (I9 : TI) (L9 : TL), u9 = (I9, L9, RT b d t, 457) ∧ QX e9 I9 L9) := by
  unfold W_X8_replay at h
  refine MW.intro rfl (by decide) is_X8_replay (Nat.le_of_ble_eq_true rfl) ?_
  show V G Y_X8_replay 0 [(0, .ref 0), (1, .int p1), (2, .int p2), (3, .int p3)] [] (I, L, RT b d t, 457) 0 0 _ _
  refine v_aload_n (pc' := 1) 0 0 rfl rfl rfl rfl ?_
  refine v_iload_n (pc' := 2) 1 1 rfl rfl rfl rfl ?_
  refine v_cV (Y2 := Y_X8_requireGate) (As := [.int p1]) (b := 0) (pc' := 5) (c1 := 1) (s1 := 6) 2 rfl rfl mf_X8_requireGate rfl rfl ml_X8_141 mi_X8_requireGate se_X8_requireGate (ci := 7) rfl ly_0 (lay_lt ly_0 (by decide)) rfl (Nat.le_of_ble_eq_true rfl) ⟨Nat.le_of_ble_eq_true rfl, Nat.le_of_ble_eq_true rfl⟩ rfl rfl (ok_X8_requireGate p1 I L b d hb hd h) ?_ ?_
  · intro e9 u9 hx9
    obtain ⟨rfl, hx9⟩ := hx9
    exact vx_leave rfl (by decide) (by decide) ⟨_, _, rfl, hx9⟩
  intro v9 u9 hv9
  obtain ⟨rfl, rfl, h⟩ := hv9
  refine ⟨fun q => absurd q (Nat.lt_irrefl _), ?_⟩
  show V G Y_X8_replay 5 _ _ _ _ _ _ _
  refine v_aload_n (pc' := 6) 3 0 rfl rfl rfl rfl ?_
  refine v_iload_n (pc' := 7) 4 2 rfl rfl rfl rfl ?_
  refine v_iload_n (pc' := 8) 5 3 rfl rfl rfl rfl ?_
  refine v_cV (Y2 := Y_X8_requireTimes) (As := [.int p2, .int p3]) (b := 0) (pc' := 11) (c1 := 2) (s1 := 12) 6 rfl rfl mf_X8_requireTimes rfl rfl ml_X8_302 mi_X8_requireTimes se_X8_requireTimes (ci := 7) rfl ly_0 (lay_lt ly_0 (by decide)) rfl (Nat.le_of_ble_eq_true rfl) ⟨Nat.le_of_ble_eq_true rfl, Nat.le_of_ble_eq_true rfl⟩ rfl rfl (ok_X8_requireTimes p2 p3 I L b d hb hd h) ?_ ?_
  · intro e9 u9 hx9
    obtain ⟨rfl, hx9⟩ := hx9
    exact vx_leave rfl (by decide) (by decide) ⟨_, _, rfl, hx9⟩
  intro v9 u9 hv9
  obtain ⟨rfl, rfl, h⟩ := hv9
  refine ⟨fun q => absurd q (Nat.lt_irrefl _), ?_⟩
  show V G Y_X8_replay 11 _ _ _ _ _ _ _
  refine v_aload_n (pc' := 12) 7 0 rfl rfl rfl rfl ?_
  refine v_getR (t := b) (pc' := 15) 8 rfl rfl pf_X8_40 ly_0 (lay_lt ly_0 (by decide)) rt_0_5 ?_
  refine v_iload_n (pc' := 16) 9 1 rfl rfl rfl rfl ?_
  refine v_iload_n (pc' := 17) 10 2 rfl rfl rfl rfl ?_
  refine v_iload_n (pc' := 18) 11 3 rfl rfl rfl rfl ?_
  refine v_cV (Y2 := Y_X0_price) (As := [.int p1, .int p2, .int p3]) (b := b) (pc' := 21) (c1 := 2) (s1 := 12) 12 rfl rfl mf_X0_price rfl rfl ml_X8_261 mi_X0_price se_X0_price (ci := 0) rfl (bn0l hb) (lay_lt (bn0l hb) (by decide)) rfl (Nat.le_of_ble_eq_true rfl) ⟨Nat.le_of_ble_eq_true rfl, Nat.le_of_ble_eq_true rfl⟩ rfl rfl (ok_X0_price b p1 p2 p3 I L hb h) ?_ ?_
  · intro e9 u9 hx9
    exact hx9.elim
  intro v9 u9 hv9
  obtain ⟨r1360, rfl, rfl, h⟩ := hv9
  refine ⟨fun q => absurd q (Nat.lt_irrefl _), ?_⟩
  show V G Y_X8_replay 21 _ (.int r1360 :: _) _ _ _ _ _
  refine v_istore (ls' := [(4, .int r1360), (0, .ref 0), (1, .int p1), (2, .int p2), (3, .int p3)]) (pc' := 23) 13 rfl rfl (by decide) rfl ?_
  refine v_aload_n (pc' := 24) 14 1 rfl rfl rfl rfl ?_
  refine v_getR (t := b) (pc' := 27) 15 rfl rfl pf_X8_40 ly_0 (lay_lt ly_0 (by decide)) rt_0_5 ?_
  refine v_getR (t := (b + 6)) (pc' := 30) 16 rfl rfl pf_X8_114 (bn0l hb) (lay_lt (bn0l hb) (by decide)) (rt_bn_1 hb) ?_
  refine v_getR (t := (b + 15)) (pc' := 33) 17 rfl rfl pf_X8_132 (bn6l hb) (lay_lt (bn6l hb) (by decide)) (rt_st_5 (bn_st hb)) ?_
  refine v_iconst (v := 2) (pc' := 34) 18 rfl rfl (by decide) ?_
  refine v_iald (i := 2) (j := 2) (pc' := 35) 19 rfl rfl (bn15l hb) (bn15n hb) (lay_lt (bn15l hb) (by decide)) (vp_lit (by decide)) (by decide) ?_
  refine v_iload (pc' := 37) 20 0 rfl rfl rfl ?_
  refine v_icmp_ge (tgt := 43) (pc' := 40) 21 rfl rfl (by decide) (fun hc => ?_) (fun hc => ?_)
  · replace h := h.1 hc
    refine v_aload_n (pc' := 44) 24 1 rfl rfl rfl rfl ?_
    refine v_getR (t := 1) (pc' := 47) 25 rfl rfl pf_X8_10 ly_0 (lay_lt ly_0 (by decide)) rt_0_0 ?_
    refine v_aload_n (pc' := 48) 26 1 rfl rfl rfl rfl ?_
    refine v_getR (t := b) (pc' := 51) 27 rfl rfl pf_X8_40 ly_0 (lay_lt ly_0 (by decide)) rt_0_5 ?_
    refine v_getR (t := (b + 6)) (pc' := 54) 28 rfl rfl pf_X8_114 (bn0l hb) (lay_lt (bn0l hb) (by decide)) (rt_bn_1 hb) ?_
    refine v_cV (Y2 := Y_X4_record) (As := [.ref (b + 6)]) (b := 1) (pc' := 57) (c1 := 2) (s1 := 12) 29 rfl rfl mf_X4_record rfl rfl ml_X8_321 mi_X4_record se_X4_record (ci := 3) rfl ly_1 (lay_lt ly_1 (by decide)) rfl (Nat.le_of_ble_eq_true rfl) ⟨Nat.le_of_ble_eq_true rfl, Nat.le_of_ble_eq_true rfl⟩ rfl rfl (ok_X4_record (b + 6) I L (bn_st hb) h) ?_ ?_
    · intro e9 u9 hx9
      exact hx9.elim
    intro v9 u9 hv9
    obtain ⟨I1361, L1362, rfl, rfl, h⟩ := hv9
    refine ⟨fun q => absurd q (Nat.lt_irrefl _), ?_⟩
    show V G Y_X8_replay 57 _ _ _ _ _ _ _
    refine v_aload_n (pc' := 58) 30 1 rfl rfl rfl rfl ?_
    refine v_getR (t := b) (pc' := 61) 31 rfl rfl pf_X8_40 ly_0 (lay_lt ly_0 (by decide)) rt_0_5 ?_
    refine v_getR (t := (b + 6)) (pc' := 64) 32 rfl rfl pf_X8_114 (bn0l hb) (lay_lt (bn0l hb) (by decide)) (rt_bn_1 hb) ?_
    refine v_getR (t := (b + 15)) (pc' := 67) 33 rfl rfl pf_X8_132 (bn6l hb) (lay_lt (bn6l hb) (by decide)) (rt_st_5 (bn_st hb)) ?_
    refine v_iconst (v := 2) (pc' := 68) 34 rfl rfl (by decide) ?_
    refine v_dup2 (pc' := 69) 35 rfl rfl rfl rfl ?_
    refine v_iald (i := 2) (j := 2) (pc' := 70) 36 rfl rfl (bn15l hb) (bn15n hb) (lay_lt (bn15l hb) (by decide)) (vp_lit (by decide)) (by decide) ?_
    refine v_iload (pc' := 72) 37 0 rfl rfl rfl ?_
    refine v_isub (pc' := 73) 38 rfl rfl ?_
    refine v_iast (i := 2) (j := 2) (pc' := 74) 39 rfl rfl (bn15l hb) (bn15n hb) (lay_lt (bn15l hb) (by decide)) (vp_lit (by decide)) (by decide) ?_
    refine v_aload_n (pc' := 75) 40 1 rfl rfl rfl rfl ?_
    refine v_getR (t := b) (pc' := 78) 41 rfl rfl pf_X8_40 ly_0 (lay_lt ly_0 (by decide)) rt_0_5 ?_
    refine v_iload_n (pc' := 79) 42 2 rfl rfl rfl rfl ?_
    refine v_iload_n (pc' := 80) 43 3 rfl rfl rfl rfl ?_
    refine v_iload_n (pc' := 81) 44 4 rfl rfl rfl rfl ?_
    refine v_cV (Y2 := Y_X0_settle) (As := [.int p1, .int p2, .int p3]) (b := b) (pc' := 84) (c1 := 2) (s1 := 12) 45 rfl rfl mf_X0_settle rfl rfl ml_X8_339 mi_X0_settle se_X0_settle (ci := 0) rfl (bn0l hb) (lay_lt (bn0l hb) (by decide)) rfl (Nat.le_of_ble_eq_true rfl) ⟨Nat.le_of_ble_eq_true rfl, Nat.le_of_ble_eq_true rfl⟩ rfl rfl (ok_X0_settle b p1 p2 p3 (up2 I1361 (b + 15) 2 ((I1361 (b + 15) 2) - r1360)) L1362 hb h) ?_ ?_
    · intro e9 u9 hx9
      exact hx9.elim
    intro v9 u9 hv9
    obtain ⟨r1363, I1364, L1365, rfl, rfl, h⟩ := hv9
    refine ⟨fun q => absurd q (Nat.lt_irrefl _), ?_⟩
    show V G Y_X8_replay 84 _ (.int r1363 :: _) _ _ _ _ _
    exact v_iret 46 rfl rfl (by decide) (by decide) ⟨_, _, _, rfl, rfl, h⟩
  replace h := h.2 hc
  refine v_bipush (v := -3) (pc' := 42) 22 rfl rfl (by decide) ?_
  exact v_iret 23 rfl rfl (by decide) (by decide) ⟨_, _, _, rfl, rfl, h⟩
set_option maxHeartbeats 4000000 in
set_option maxRecDepth 100000 in
theorem ok_X8_setDelay {G : GT} {t : Nat} (p1 : Int32) (p2 : Int32) (p3 : Int32) (I : TI) (L : TL) (b : Nat) (d : Nat) (hb : bnOK b) (hd : bnOK d) {Q : Int32 → TI → TL → Prop} {QX : String → TI → TL → Prop} (h : W_X8_setDelay p1 p2 p3 I L b d Q QX) : MW G Y_X8_setDelay [.ref 0, .int p1, .int p2, .int p3] (I, L, RT b d t, 457) (fun v9 u9 => ∃ (r9 : Int32) (I9 : TI) (L9 : TL), v9 = some (.int r9) ∧ u9 = (I9, L9, RT b d t, 457) ∧ Q r9 I9 L9) (fun e9 u9 => ∃ (I9 : TI) (L9 : TL), u9 = (I9, L9, RT b d t, 457) ∧ QX e9 I9 L9) := by
  unfold W_X8_setDelay at h
  refine MW.intro rfl (by decide) is_X8_setDelay (Nat.le_of_ble_eq_true rfl) ?_
  show V G Y_X8_setDelay 0 [(0, .ref 0), (1, .int p1), (2, .int p2), (3, .int p3)] [] (I, L, RT b d t, 457) 0 0 _ _
  refine v_aload_n (pc' := 1) 0 0 rfl rfl rfl rfl ?_
  refine v_iload_n (pc' := 2) 1 1 rfl rfl rfl rfl ?_
  refine v_cV (Y2 := Y_X8_requireGate) (As := [.int p1]) (b := 0) (pc' := 5) (c1 := 1) (s1 := 6) 2 rfl rfl mf_X8_requireGate rfl rfl ml_X8_141 mi_X8_requireGate se_X8_requireGate (ci := 7) rfl ly_0 (lay_lt ly_0 (by decide)) rfl (Nat.le_of_ble_eq_true rfl) ⟨Nat.le_of_ble_eq_true rfl, Nat.le_of_ble_eq_true rfl⟩ rfl rfl (ok_X8_requireGate p1 I L b d hb hd h) ?_ ?_
  · intro e9 u9 hx9
    obtain ⟨rfl, hx9⟩ := hx9
    exact vx_leave rfl (by decide) (by decide) ⟨_, _, rfl, hx9⟩
  intro v9 u9 hv9
  obtain ⟨rfl, rfl, h⟩ := hv9
  refine ⟨fun q => absurd q (Nat.lt_irrefl _), ?_⟩
  show V G Y_X8_setDelay 5 _ _ _ _ _ _ _
  refine v_iload_n (pc' := 6) 3 2 rfl rfl rfl rfl ?_
  refine v_if_lt (tgt := 25) (pc' := 9) 4 rfl rfl (by decide) (fun hc => ?_) (fun hc => ?_)
  · replace h := h.1 hc
    exact v_throwW 14 15 16 17 18 rfl rfl rfl rfl rfl tf_X8_61_65 sr_X8_345 rfl (by decide) (Nat.le_of_ble_eq_true rfl) (by decide) (by decide) ⟨_, _, rfl, h⟩
  replace h := h.2 hc
  refine v_iload_n (pc' := 10) 5 2 rfl rfl rfl rfl ?_
  refine v_iconst (v := 3) (pc' := 11) 6 rfl rfl (by decide) ?_
  refine v_icmp_ge (tgt := 25) (pc' := 14) 7 rfl rfl (by decide) (fun hc => ?_) (fun hc => ?_)
  · replace h := h.1 hc
    exact v_throwW 14 15 16 17 18 rfl rfl rfl rfl rfl tf_X8_61_65 sr_X8_345 rfl (by decide) (Nat.le_of_ble_eq_true rfl) (by decide) (by decide) ⟨_, _, rfl, h⟩
  replace h := h.2 hc
  refine v_iload_n (pc' := 15) 8 3 rfl rfl rfl rfl ?_
  refine v_iconst (v := 1) (pc' := 16) 9 rfl rfl (by decide) ?_
  refine v_icmp_lt (tgt := 25) (pc' := 19) 10 rfl rfl (by decide) (fun hc => ?_) (fun hc => ?_)
  · replace h := h.1 hc
    exact v_throwW 14 15 16 17 18 rfl rfl rfl rfl rfl tf_X8_61_65 sr_X8_345 rfl (by decide) (Nat.le_of_ble_eq_true rfl) (by decide) (by decide) ⟨_, _, rfl, h⟩
  replace h := h.2 hc
  refine v_iload_n (pc' := 20) 11 3 rfl rfl rfl rfl ?_
  refine v_bipush (v := 9) (pc' := 22) 12 rfl rfl (by decide) ?_
  refine v_icmp_le (tgt := 36) (pc' := 25) 13 rfl rfl (by decide) (fun hc => ?_) (fun hc => ?_)
  · replace h := h.1 hc
    refine v_aload_n (pc' := 37) 19 0 rfl rfl rfl rfl ?_
    refine v_getR (t := 1) (pc' := 40) 20 rfl rfl pf_X8_10 ly_0 (lay_lt ly_0 (by decide)) rt_0_0 ?_
    refine v_aload_n (pc' := 41) 21 0 rfl rfl rfl rfl ?_
    refine v_getR (t := b) (pc' := 44) 22 rfl rfl pf_X8_40 ly_0 (lay_lt ly_0 (by decide)) rt_0_5 ?_
    refine v_getR (t := (b + 6)) (pc' := 47) 23 rfl rfl pf_X8_114 (bn0l hb) (lay_lt (bn0l hb) (by decide)) (rt_bn_1 hb) ?_
    refine v_cV (Y2 := Y_X4_record) (As := [.ref (b + 6)]) (b := 1) (pc' := 50) (c1 := 1) (s1 := 6) 24 rfl rfl mf_X4_record rfl rfl ml_X8_321 mi_X4_record se_X4_record (ci := 3) rfl ly_1 (lay_lt ly_1 (by decide)) rfl (Nat.le_of_ble_eq_true rfl) ⟨Nat.le_of_ble_eq_true rfl, Nat.le_of_ble_eq_true rfl⟩ rfl rfl (ok_X4_record (b + 6) I L (bn_st hb) h) ?_ ?_
    · intro e9 u9 hx9
      exact hx9.elim
    intro v9 u9 hv9
    obtain ⟨I1375, L1376, rfl, rfl, h⟩ := hv9
    refine ⟨fun q => absurd q (Nat.lt_irrefl _), ?_⟩
    show V G Y_X8_setDelay 50 _ _ _ _ _ _ _
    refine v_aload_n (pc' := 51) 25 0 rfl rfl rfl rfl ?_
    refine v_getR (t := b) (pc' := 54) 26 rfl rfl pf_X8_40 ly_0 (lay_lt ly_0 (by decide)) rt_0_5 ?_
    refine v_getR (t := (b + 6)) (pc' := 57) 27 rfl rfl pf_X8_114 (bn0l hb) (lay_lt (bn0l hb) (by decide)) (rt_bn_1 hb) ?_
    refine v_getR (t := (b + 7)) (pc' := 60) 28 rfl rfl pf_X8_153 (bn6l hb) (lay_lt (bn6l hb) (by decide)) (rt_st_0 (bn_st hb)) ?_
    refine v_iload_n (pc' := 61) 29 2 rfl rfl rfl rfl ?_
    obtain ⟨hi1377, h⟩ := h
    refine v_aald6 (i := p2) (r := ((b + 8) + p2.toNatClampNeg)) (j := p2.toNatClampNeg) (pc' := 62) 30 rfl rfl (bn7l hb) (bn7n hb) (lay_lt (bn7l hb) (by decide)) hi1377 rfl (rt_row (bn_st hb) (vp_nat hi1377)) ?_
    refine v_iload_n (pc' := 63) 31 1 rfl rfl rfl rfl ?_
    obtain ⟨hi1378, h⟩ := h
    refine v_iald (i := p1) (j := p1.toNatClampNeg) (pc' := 64) 32 rfl rfl (st_rowl (bn_st hb) (vp_nat hi1377)) (st_rown (bn_st hb) (vp_nat hi1377)) (lay_lt (st_rowl (bn_st hb) (vp_nat hi1377)) (by decide)) hi1378 rfl ?_
    refine nm_I (e := (I1375 ((b + 8) + p2.toNatClampNeg) (p1.toNatClampNeg))) (fun x1379 hx1379 => ?_)
    replace h := h x1379 hx1379
    refine v_istore (ls' := [(4, .int x1379), (0, .ref 0), (1, .int p1), (2, .int p2), (3, .int p3)]) (pc' := 66) 33 rfl rfl (by decide) rfl ?_
    refine v_iload (pc' := 68) 34 0 rfl rfl rfl ?_
    refine v_iload_n (pc' := 69) 35 4 rfl rfl rfl rfl ?_
    refine v_icmp_eq (tgt := 96) (pc' := 72) 36 rfl rfl (by decide) (fun hc => ?_) (fun hc => ?_)
    · replace h := h.1 hc
      refine v_iload (pc' := 98) 51 0 rfl rfl rfl ?_
      exact v_iret 52 rfl rfl (by decide) (by decide) ⟨_, _, _, rfl, rfl, h⟩
    replace h := h.2 hc
    refine v_aload_n (pc' := 73) 37 1 rfl rfl rfl rfl ?_
    refine v_getR (t := b) (pc' := 76) 38 rfl rfl pf_X8_40 ly_0 (lay_lt ly_0 (by decide)) rt_0_5 ?_
    refine v_getR (t := (b + 6)) (pc' := 79) 39 rfl rfl pf_X8_114 (bn0l hb) (lay_lt (bn0l hb) (by decide)) (rt_bn_1 hb) ?_
    refine v_getR (t := (b + 7)) (pc' := 82) 40 rfl rfl pf_X8_153 (bn6l hb) (lay_lt (bn6l hb) (by decide)) (rt_st_0 (bn_st hb)) ?_
    refine v_iload_n (pc' := 83) 41 3 rfl rfl rfl rfl ?_
    obtain ⟨hi1380, h⟩ := h
    refine v_aald6 (i := p2) (r := ((b + 8) + p2.toNatClampNeg)) (j := p2.toNatClampNeg) (pc' := 84) 42 rfl rfl (bn7l hb) (bn7n hb) (lay_lt (bn7l hb) (by decide)) hi1380 rfl (rt_row (bn_st hb) (vp_nat hi1380)) ?_
    refine v_iload_n (pc' := 85) 43 2 rfl rfl rfl rfl ?_
    refine v_iload_n (pc' := 86) 44 4 rfl rfl rfl rfl ?_
    obtain ⟨hi1381, h⟩ := h
    refine v_iast (i := p1) (j := p1.toNatClampNeg) (pc' := 87) 45 rfl rfl (st_rowl (bn_st hb) (vp_nat hi1380)) (st_rown (bn_st hb) (vp_nat hi1380)) (lay_lt (st_rowl (bn_st hb) (vp_nat hi1380)) (by decide)) hi1381 rfl ?_
    refine nm_M (e := (up2 I1375 ((b + 8) + p2.toNatClampNeg) (p1.toNatClampNeg) p3)) (fun I1382 hI1382 => ?_)
    replace h := h I1382 hI1382
    refine v_aload_n (pc' := 88) 46 1 rfl rfl rfl rfl ?_
    refine v_getR (t := b) (pc' := 91) 47 rfl rfl pf_X8_40 ly_0 (lay_lt ly_0 (by decide)) rt_0_5 ?_
    refine v_iload_n (pc' := 92) 48 2 rfl rfl rfl rfl ?_
    refine v_cV (Y2 := Y_X0_unsettle) (As := [.int p1]) (b := b) (pc' := 95) (c1 := 1) (s1 := 6) 49 rfl rfl mf_X0_unsettle rfl rfl ml_X8_347 mi_X0_unsettle se_X0_unsettle (ci := 0) rfl (bn0l hb) (lay_lt (bn0l hb) (by decide)) rfl (Nat.le_of_ble_eq_true rfl) ⟨Nat.le_of_ble_eq_true rfl, Nat.le_of_ble_eq_true rfl⟩ rfl rfl (ok_X0_unsettle b p1 I1382 L1376 hb h) ?_ ?_
    · intro e9 u9 hx9
      exact hx9.elim
    intro v9 u9 hv9
    obtain ⟨r1383, I1384, L1385, rfl, rfl, h⟩ := hv9
    refine ⟨fun q => absurd q (Nat.lt_irrefl _), ?_⟩
    show V G Y_X8_setDelay 95 _ (.int r1383 :: _) _ _ _ _ _
    refine v_pop (pc' := 96) 50 rfl rfl rfl ?_
    refine v_iload (pc' := 98) 51 0 rfl rfl rfl ?_
    exact v_iret 52 rfl rfl (by decide) (by decide) ⟨_, _, _, rfl, rfl, h⟩
  replace h := h.2 hc
  exact v_throwW 14 15 16 17 18 rfl rfl rfl rfl rfl tf_X8_61_65 sr_X8_345 rfl (by decide) (Nat.le_of_ble_eq_true rfl) (by decide) (by decide) ⟨_, _, rfl, h⟩
set_option maxHeartbeats 4000000 in
set_option maxRecDepth 100000 in
theorem ok_X8_toggle {G : GT} {t : Nat} (p1 : Int32) (p2 : Int32) (I : TI) (L : TL) (b : Nat) (d : Nat) (hb : bnOK b) (hd : bnOK d) {Q : Int32 → TI → TL → Prop} {QX : String → TI → TL → Prop} (h : W_X8_toggle p1 p2 I L b d Q QX) : MW G Y_X8_toggle [.ref 0, .int p1, .int p2] (I, L, RT b d t, 457) (fun v9 u9 => ∃ (r9 : Int32) (I9 : TI) (L9 : TL), v9 = some (.int r9) ∧ u9 = (I9, L9, RT b d t, 457) ∧ Q r9 I9 L9) (fun e9 u9 => ∃ (I9 : TI) (L9 : TL), u9 = (I9, L9, RT b d t, 457) ∧ QX e9 I9 L9) := by
  unfold W_X8_toggle at h
  refine MW.intro rfl (by decide) is_X8_toggle (Nat.le_of_ble_eq_true rfl) ?_
  show V G Y_X8_toggle 0 [(0, .ref 0), (1, .int p1), (2, .int p2)] [] (I, L, RT b d t, 457) 0 0 _ _
  refine v_iload_n (pc' := 1) 0 1 rfl rfl rfl rfl ?_
  refine v_if_lt (tgt := 18) (pc' := 4) 1 rfl rfl (by decide) (fun hc => ?_) (fun hc => ?_)
  · replace h := h.1 hc
    exact v_throwX 8 9 10 11 12 rfl rfl (Or.inr ⟨rfl, rfl⟩) rfl rfl tf_X8_136_140 sr_X8_350 rfl (by decide) (Nat.le_of_ble_eq_true rfl) (by decide) (by decide) ⟨_, _, rfl, h⟩
  replace h := h.2 hc
  refine v_iload_n (pc' := 5) 2 1 rfl rfl rfl rfl ?_
  refine v_aload_n (pc' := 6) 3 0 rfl rfl rfl rfl ?_
  refine v_getR (t := b) (pc' := 9) 4 rfl rfl pf_X8_40 ly_0 (lay_lt ly_0 (by decide)) rt_0_5 ?_
  refine v_getR (t := (b + 1)) (pc' := 12) 5 rfl rfl pf_X8_95 (bn0l hb) (lay_lt (bn0l hb) (by decide)) (rt_bn_0 hb) ?_
  refine v_getI (pc' := 15) 6 rfl rfl pf_X8_105 (bn1l hb) (lay_lt (bn1l hb) (by decide)) ?_
  refine v_icmp_lt (tgt := 29) (pc' := 18) 7 rfl rfl (by decide) (fun hc => ?_) (fun hc => ?_)
  · replace h := h.1 hc
    refine v_aload_n (pc' := 30) 13 0 rfl rfl rfl rfl ?_
    refine v_getR (t := b) (pc' := 33) 14 rfl rfl pf_X8_40 ly_0 (lay_lt ly_0 (by decide)) rt_0_5 ?_
    refine v_getR (t := (b + 1)) (pc' := 36) 15 rfl rfl pf_X8_95 (bn0l hb) (lay_lt (bn0l hb) (by decide)) (rt_bn_0 hb) ?_
    refine v_iload_n (pc' := 37) 16 2 rfl rfl rfl rfl ?_
    refine v_cV (Y2 := Y_X2_hasTime) (As := [.int p2]) (b := (b + 1)) (pc' := 40) (c1 := 0) (s1 := 0) 17 rfl rfl mf_X2_hasTime rfl rfl ml_X8_181 mi_X2_hasTime se_X2_hasTime (ci := 1) rfl (bn1l hb) (lay_lt (bn1l hb) (by decide)) rfl (Nat.le_of_ble_eq_true rfl) ⟨Nat.le_of_ble_eq_true rfl, Nat.le_of_ble_eq_true rfl⟩ rfl rfl (ok_X2_hasTime (b + 1) p2 I L (bn_ck hb) h) ?_ ?_
    · intro e9 u9 hx9
      exact hx9.elim
    intro v9 u9 hv9
    obtain ⟨r1395, rfl, rfl, h⟩ := hv9
    refine ⟨fun q => absurd q (Nat.lt_irrefl _), ?_⟩
    show V G Y_X8_toggle 40 _ (.int r1395 :: _) _ _ _ _ _
    refine v_if_ne (tgt := 53) (pc' := 43) 18 rfl rfl (by decide) (fun hc => ?_) (fun hc => ?_)
    · replace h := h.1 hc
      refine v_aload_n (pc' := 54) 24 0 rfl rfl rfl rfl ?_
      refine v_getR (t := 1) (pc' := 57) 25 rfl rfl pf_X8_10 ly_0 (lay_lt ly_0 (by decide)) rt_0_0 ?_
      refine v_aload_n (pc' := 58) 26 0 rfl rfl rfl rfl ?_
      refine v_getR (t := b) (pc' := 61) 27 rfl rfl pf_X8_40 ly_0 (lay_lt ly_0 (by decide)) rt_0_5 ?_
      refine v_getR (t := (b + 6)) (pc' := 64) 28 rfl rfl pf_X8_114 (bn0l hb) (lay_lt (bn0l hb) (by decide)) (rt_bn_1 hb) ?_
      refine v_cV (Y2 := Y_X4_record) (As := [.ref (b + 6)]) (b := 1) (pc' := 67) (c1 := 0) (s1 := 0) 29 rfl rfl mf_X4_record rfl rfl ml_X8_321 mi_X4_record se_X4_record (ci := 3) rfl ly_1 (lay_lt ly_1 (by decide)) rfl (Nat.le_of_ble_eq_true rfl) ⟨Nat.le_of_ble_eq_true rfl, Nat.le_of_ble_eq_true rfl⟩ rfl rfl (ok_X4_record (b + 6) I L (bn_st hb) h) ?_ ?_
      · intro e9 u9 hx9
        exact hx9.elim
      intro v9 u9 hv9
      obtain ⟨I1396, L1397, rfl, rfl, h⟩ := hv9
      refine ⟨fun q => absurd q (Nat.lt_irrefl _), ?_⟩
      show V G Y_X8_toggle 67 _ _ _ _ _ _ _
      refine v_aload_n (pc' := 68) 30 0 rfl rfl rfl rfl ?_
      refine v_getR (t := b) (pc' := 71) 31 rfl rfl pf_X8_40 ly_0 (lay_lt ly_0 (by decide)) rt_0_5 ?_
      refine v_getR (t := (b + 6)) (pc' := 74) 32 rfl rfl pf_X8_114 (bn0l hb) (lay_lt (bn0l hb) (by decide)) (rt_bn_1 hb) ?_
      refine v_getR (t := (b + 11)) (pc' := 77) 33 rfl rfl pf_X8_352 (bn6l hb) (lay_lt (bn6l hb) (by decide)) (rt_st_1 (bn_st hb)) ?_
      refine v_iload_n (pc' := 78) 34 1 rfl rfl rfl rfl ?_
      refine v_dup2 (pc' := 79) 35 rfl rfl rfl rfl ?_
      obtain ⟨hi1398, h⟩ := h
      refine v_lald (i := p1) (j := p1.toNatClampNeg) (pc' := 80) 36 rfl rfl (bn11l hb) (bn11n hb) (lay_lt (bn11l hb) (by decide)) hi1398 rfl ?_
      refine v_iload_n (pc' := 81) 37 2 rfl rfl rfl rfl ?_
      refine v_aload_n (pc' := 82) 38 0 rfl rfl rfl rfl ?_
      refine v_getR (t := b) (pc' := 85) 39 rfl rfl pf_X8_40 ly_0 (lay_lt ly_0 (by decide)) rt_0_5 ?_
      refine v_getR (t := (b + 1)) (pc' := 88) 40 rfl rfl pf_X8_95 (bn0l hb) (lay_lt (bn0l hb) (by decide)) (rt_bn_0 hb) ?_
      refine v_getI (pc' := 91) 41 rfl rfl pf_X8_111 (bn1l hb) (lay_lt (bn1l hb) (by decide)) ?_
      refine v_cS (Y2 := Y_X8_window) (As := [.int p2, .int (I1396 (b + 1) 6)]) (pc' := 94) (c1 := 0) (s1 := 0) 42 rfl rfl mf_X8_window rfl rfl ml_X8_355 ms_X8_window rfl (Nat.le_of_ble_eq_true rfl) ⟨Nat.le_of_ble_eq_true rfl, Nat.le_of_ble_eq_true rfl⟩ rfl rfl (ok_X8_window p2 (I1396 (b + 1) 6) I1396 L1397 h) ?_ ?_
      · intro e9 u9 hx9
        exact hx9.elim
      intro v9 u9 hv9
      obtain ⟨r1399, rfl, rfl, h⟩ := hv9
      refine ⟨fun q => absurd q (Nat.lt_irrefl _), ?_⟩
      show V G Y_X8_toggle 94 _ (.long r1399 :: _) _ _ _ _ _
      refine v_lxor (pc' := 95) 43 rfl rfl ?_
      obtain ⟨hi1400, h⟩ := h
      refine v_last (i := p1) (j := p1.toNatClampNeg) (pc' := 96) 44 rfl rfl (bn11l hb) (bn11n hb) (lay_lt (bn11l hb) (by decide)) hi1400 rfl ?_
      refine nm_N (e := (up2 L1397 (b + 11) (p1.toNatClampNeg) ((L1397 (b + 11) (p1.toNatClampNeg)) ^^^ r1399))) (fun L1401 hL1401 => ?_)
      replace h := h L1401 hL1401
      refine v_aload_n (pc' := 97) 45 0 rfl rfl rfl rfl ?_
      refine v_getR (t := b) (pc' := 100) 46 rfl rfl pf_X8_40 ly_0 (lay_lt ly_0 (by decide)) rt_0_5 ?_
      refine v_iload_n (pc' := 101) 47 1 rfl rfl rfl rfl ?_
      refine v_cV (Y2 := Y_X0_unsettle) (As := [.int p1]) (b := b) (pc' := 104) (c1 := 0) (s1 := 0) 48 rfl rfl mf_X0_unsettle rfl rfl ml_X8_347 mi_X0_unsettle se_X0_unsettle (ci := 0) rfl (bn0l hb) (lay_lt (bn0l hb) (by decide)) rfl (Nat.le_of_ble_eq_true rfl) ⟨Nat.le_of_ble_eq_true rfl, Nat.le_of_ble_eq_true rfl⟩ rfl rfl (ok_X0_unsettle b p1 I1396 L1401 hb h) ?_ ?_
      · intro e9 u9 hx9
        exact hx9.elim
      intro v9 u9 hv9
      obtain ⟨r1402, I1403, L1404, rfl, rfl, h⟩ := hv9
      refine ⟨fun q => absurd q (Nat.lt_irrefl _), ?_⟩
      show V G Y_X8_toggle 104 _ (.int r1402 :: _) _ _ _ _ _
      exact v_iret 49 rfl rfl (by decide) (by decide) ⟨_, _, _, rfl, rfl, h⟩
    replace h := h.2 hc
    exact v_throw 19 20 21 22 23 rfl rfl rfl rfl rfl tf_X8_61_65 sr_X8_205 rfl (by decide) (Nat.le_of_ble_eq_true rfl) (by decide) (by decide) ⟨_, _, rfl, h⟩
  replace h := h.2 hc
  exact v_throwX 8 9 10 11 12 rfl rfl (Or.inr ⟨rfl, rfl⟩) rfl rfl tf_X8_136_140 sr_X8_350 rfl (by decide) (Nat.le_of_ble_eq_true rfl) (by decide) (by decide) ⟨_, _, rfl, h⟩
set_option maxHeartbeats 4000000 in
set_option maxRecDepth 100000 in
theorem ok_X8_deposit {G : GT} {t : Nat} (p1 : Int32) (p2 : Int32) (I : TI) (L : TL) (b : Nat) (d : Nat) (hb : bnOK b) (hd : bnOK d) {Q : Int32 → TI → TL → Prop} {QX : String → TI → TL → Prop} (h : W_X8_deposit p1 p2 I L b d Q QX) : MW G Y_X8_deposit [.ref 0, .int p1, .int p2] (I, L, RT b d t, 457) (fun v9 u9 => ∃ (r9 : Int32) (I9 : TI) (L9 : TL), v9 = some (.int r9) ∧ u9 = (I9, L9, RT b d t, 457) ∧ Q r9 I9 L9) (fun e9 u9 => ∃ (I9 : TI) (L9 : TL), u9 = (I9, L9, RT b d t, 457) ∧ QX e9 I9 L9) := by
  unfold W_X8_deposit at h
  refine MW.intro rfl (by decide) is_X8_deposit (Nat.le_of_ble_eq_true rfl) ?_
  show V G Y_X8_deposit 0 [(0, .ref 0), (1, .int p1), (2, .int p2)] [] (I, L, RT b d t, 457) 0 0 _ _
  refine v_iload_n (pc' := 1) 0 1 rfl rfl rfl rfl ?_
  refine v_if_lt (tgt := 20) (pc' := 4) 1 rfl rfl (by decide) (fun hc => ?_) (fun hc => ?_)
  · replace h := h.1 hc
    exact v_throwW 10 11 12 13 14 rfl rfl rfl rfl rfl tf_X8_61_65 sr_X8_359 rfl (by decide) (Nat.le_of_ble_eq_true rfl) (by decide) (by decide) ⟨_, _, rfl, h⟩
  replace h := h.2 hc
  refine v_iload_n (pc' := 5) 2 1 rfl rfl rfl rfl ?_
  refine v_iconst (v := 3) (pc' := 6) 3 rfl rfl (by decide) ?_
  refine v_icmp_ge (tgt := 20) (pc' := 9) 4 rfl rfl (by decide) (fun hc => ?_) (fun hc => ?_)
  · replace h := h.1 hc
    exact v_throwW 10 11 12 13 14 rfl rfl rfl rfl rfl tf_X8_61_65 sr_X8_359 rfl (by decide) (Nat.le_of_ble_eq_true rfl) (by decide) (by decide) ⟨_, _, rfl, h⟩
  replace h := h.2 hc
  refine v_iload_n (pc' := 10) 5 2 rfl rfl rfl rfl ?_
  refine v_if_lt (tgt := 20) (pc' := 13) 6 rfl rfl (by decide) (fun hc => ?_) (fun hc => ?_)
  · replace h := h.1 hc
    exact v_throwW 10 11 12 13 14 rfl rfl rfl rfl rfl tf_X8_61_65 sr_X8_359 rfl (by decide) (Nat.le_of_ble_eq_true rfl) (by decide) (by decide) ⟨_, _, rfl, h⟩
  replace h := h.2 hc
  refine v_iload_n (pc' := 14) 7 2 rfl rfl rfl rfl ?_
  refine v_ldc_w (v := 99999) (pc' := 17) 8 rfl rfl ki_X8_358 ?_
  refine v_icmp_le (tgt := 31) (pc' := 20) 9 rfl rfl (by decide) (fun hc => ?_) (fun hc => ?_)
  · replace h := h.1 hc
    refine v_aload_n (pc' := 32) 15 0 rfl rfl rfl rfl ?_
    refine v_getR (t := b) (pc' := 35) 16 rfl rfl pf_X8_40 ly_0 (lay_lt ly_0 (by decide)) rt_0_5 ?_
    refine v_getR (t := (b + 6)) (pc' := 38) 17 rfl rfl pf_X8_114 (bn0l hb) (lay_lt (bn0l hb) (by decide)) (rt_bn_1 hb) ?_
    refine v_getR (t := (b + 15)) (pc' := 41) 18 rfl rfl pf_X8_132 (bn6l hb) (lay_lt (bn6l hb) (by decide)) (rt_st_5 (bn_st hb)) ?_
    refine v_iload_n (pc' := 42) 19 1 rfl rfl rfl rfl ?_
    obtain ⟨hi1409, h⟩ := h
    refine v_iald (i := p1) (j := p1.toNatClampNeg) (pc' := 43) 20 rfl rfl (bn15l hb) (bn15n hb) (lay_lt (bn15l hb) (by decide)) hi1409 rfl ?_
    refine v_iload_n (pc' := 44) 21 2 rfl rfl rfl rfl ?_
    refine v_iadd (pc' := 45) 22 rfl rfl ?_
    refine nm_I (e := ((I (b + 15) (p1.toNatClampNeg)) + p2)) (fun x1410 hx1410 => ?_)
    replace h := h x1410 hx1410
    refine v_istore_n (ls' := [(3, .int x1410), (0, .ref 0), (1, .int p1), (2, .int p2)]) (pc' := 46) 23 rfl rfl rfl (by decide) rfl ?_
    refine v_iload_n (pc' := 47) 24 0 rfl rfl rfl rfl ?_
    refine v_ldc_w (v := 1000000) (pc' := 50) 25 rfl rfl ki_X8_361 ?_
    refine v_icmp_le (tgt := 56) (pc' := 53) 26 rfl rfl (by decide) (fun hc => ?_) (fun hc => ?_)
    · replace h := h.1 hc
      refine v_aload_n (pc' := 57) 29 1 rfl rfl rfl rfl ?_
      refine v_getR (t := 1) (pc' := 60) 30 rfl rfl pf_X8_10 ly_0 (lay_lt ly_0 (by decide)) rt_0_0 ?_
      refine v_aload_n (pc' := 61) 31 1 rfl rfl rfl rfl ?_
      refine v_getR (t := b) (pc' := 64) 32 rfl rfl pf_X8_40 ly_0 (lay_lt ly_0 (by decide)) rt_0_5 ?_
      refine v_getR (t := (b + 6)) (pc' := 67) 33 rfl rfl pf_X8_114 (bn0l hb) (lay_lt (bn0l hb) (by decide)) (rt_bn_1 hb) ?_
      refine v_cV (Y2 := Y_X4_record) (As := [.ref (b + 6)]) (b := 1) (pc' := 70) (c1 := 0) (s1 := 0) 34 rfl rfl mf_X4_record rfl rfl ml_X8_321 mi_X4_record se_X4_record (ci := 3) rfl ly_1 (lay_lt ly_1 (by decide)) rfl (Nat.le_of_ble_eq_true rfl) ⟨Nat.le_of_ble_eq_true rfl, Nat.le_of_ble_eq_true rfl⟩ rfl rfl (ok_X4_record (b + 6) I L (bn_st hb) h) ?_ ?_
      · intro e9 u9 hx9
        exact hx9.elim
      intro v9 u9 hv9
      obtain ⟨I1411, L1412, rfl, rfl, h⟩ := hv9
      refine ⟨fun q => absurd q (Nat.lt_irrefl _), ?_⟩
      show V G Y_X8_deposit 70 _ _ _ _ _ _ _
      refine v_aload_n (pc' := 71) 35 1 rfl rfl rfl rfl ?_
      refine v_getR (t := b) (pc' := 74) 36 rfl rfl pf_X8_40 ly_0 (lay_lt ly_0 (by decide)) rt_0_5 ?_
      refine v_getR (t := (b + 6)) (pc' := 77) 37 rfl rfl pf_X8_114 (bn0l hb) (lay_lt (bn0l hb) (by decide)) (rt_bn_1 hb) ?_
      refine v_getR (t := (b + 15)) (pc' := 80) 38 rfl rfl pf_X8_132 (bn6l hb) (lay_lt (bn6l hb) (by decide)) (rt_st_5 (bn_st hb)) ?_
      refine v_iload_n (pc' := 81) 39 2 rfl rfl rfl rfl ?_
      refine v_iload_n (pc' := 82) 40 0 rfl rfl rfl rfl ?_
      obtain ⟨hi1413, h⟩ := h
      refine v_iast (i := p1) (j := p1.toNatClampNeg) (pc' := 83) 41 rfl rfl (bn15l hb) (bn15n hb) (lay_lt (bn15l hb) (by decide)) hi1413 rfl ?_
      refine v_iload_n (pc' := 84) 42 0 rfl rfl rfl rfl ?_
      exact v_iret 43 rfl rfl (by decide) (by decide) ⟨_, _, _, rfl, rfl, h⟩
    replace h := h.2 hc
    refine v_bipush (v := -3) (pc' := 55) 27 rfl rfl (by decide) ?_
    exact v_iret 28 rfl rfl (by decide) (by decide) ⟨_, _, _, rfl, rfl, h⟩
  replace h := h.2 hc
  exact v_throwW 10 11 12 13 14 rfl rfl rfl rfl rfl tf_X8_61_65 sr_X8_359 rfl (by decide) (Nat.le_of_ble_eq_true rfl) (by decide) (by decide) ⟨_, _, rfl, h⟩
set_option maxHeartbeats 4000000 in
set_option maxRecDepth 100000 in
theorem ok_X8_setLimit {G : GT} {t : Nat} (p1 : Int32) (I : TI) (L : TL) (b : Nat) (d : Nat) (hb : bnOK b) (hd : bnOK d) {Q : Int32 → TI → TL → Prop} {QX : String → TI → TL → Prop} (h : W_X8_setLimit p1 I L b d Q QX) : MW G Y_X8_setLimit [.ref 0, .int p1] (I, L, RT b d t, 457) (fun v9 u9 => ∃ (r9 : Int32) (I9 : TI) (L9 : TL), v9 = some (.int r9) ∧ u9 = (I9, L9, RT b d t, 457) ∧ Q r9 I9 L9) (fun e9 u9 => ∃ (I9 : TI) (L9 : TL), u9 = (I9, L9, RT b d t, 457) ∧ QX e9 I9 L9) := by
  unfold W_X8_setLimit at h
  refine MW.intro rfl (by decide) is_X8_setLimit (Nat.le_of_ble_eq_true rfl) ?_
  show V G Y_X8_setLimit 0 [(0, .ref 0), (1, .int p1)] [] (I, L, RT b d t, 457) 0 0 _ _
  refine v_iload_n (pc' := 1) 0 1 rfl rfl rfl rfl ?_
  refine v_iconst (v := 1) (pc' := 2) 1 rfl rfl (by decide) ?_
  refine v_icmp_lt (tgt := 11) (pc' := 5) 2 rfl rfl (by decide) (fun hc => ?_) (fun hc => ?_)
  · replace h := h.1 hc
    exact v_throwW 6 7 8 9 10 rfl rfl rfl rfl rfl tf_X8_61_65 sr_X8_362 rfl (by decide) (Nat.le_of_ble_eq_true rfl) (by decide) (by decide) ⟨_, _, rfl, h⟩
  replace h := h.2 hc
  refine v_iload_n (pc' := 6) 3 1 rfl rfl rfl rfl ?_
  refine v_bipush (v := 20) (pc' := 8) 4 rfl rfl (by decide) ?_
  refine v_icmp_le (tgt := 22) (pc' := 11) 5 rfl rfl (by decide) (fun hc => ?_) (fun hc => ?_)
  · replace h := h.1 hc
    refine v_aload_n (pc' := 23) 11 0 rfl rfl rfl rfl ?_
    refine v_getR (t := 1) (pc' := 26) 12 rfl rfl pf_X8_10 ly_0 (lay_lt ly_0 (by decide)) rt_0_0 ?_
    refine v_aload_n (pc' := 27) 13 0 rfl rfl rfl rfl ?_
    refine v_getR (t := b) (pc' := 30) 14 rfl rfl pf_X8_40 ly_0 (lay_lt ly_0 (by decide)) rt_0_5 ?_
    refine v_getR (t := (b + 6)) (pc' := 33) 15 rfl rfl pf_X8_114 (bn0l hb) (lay_lt (bn0l hb) (by decide)) (rt_bn_1 hb) ?_
    refine v_cV (Y2 := Y_X4_record) (As := [.ref (b + 6)]) (b := 1) (pc' := 36) (c1 := 0) (s1 := 0) 16 rfl rfl mf_X4_record rfl rfl ml_X8_321 mi_X4_record se_X4_record (ci := 3) rfl ly_1 (lay_lt ly_1 (by decide)) rfl (Nat.le_of_ble_eq_true rfl) ⟨Nat.le_of_ble_eq_true rfl, Nat.le_of_ble_eq_true rfl⟩ rfl rfl (ok_X4_record (b + 6) I L (bn_st hb) h) ?_ ?_
    · intro e9 u9 hx9
      exact hx9.elim
    intro v9 u9 hv9
    obtain ⟨I1416, L1417, rfl, rfl, h⟩ := hv9
    refine ⟨fun q => absurd q (Nat.lt_irrefl _), ?_⟩
    show V G Y_X8_setLimit 36 _ _ _ _ _ _ _
    refine v_aload_n (pc' := 37) 17 0 rfl rfl rfl rfl ?_
    refine v_getR (t := b) (pc' := 40) 18 rfl rfl pf_X8_40 ly_0 (lay_lt ly_0 (by decide)) rt_0_5 ?_
    refine v_getR (t := (b + 6)) (pc' := 43) 19 rfl rfl pf_X8_114 (bn0l hb) (lay_lt (bn0l hb) (by decide)) (rt_bn_1 hb) ?_
    refine v_getI (pc' := 46) 20 rfl rfl pf_X8_118 (bn6l hb) (lay_lt (bn6l hb) (by decide)) ?_
    refine v_istore_n (ls' := [(2, .int (I1416 (b + 6) 8)), (0, .ref 0), (1, .int p1)]) (pc' := 47) 21 rfl rfl rfl (by decide) rfl ?_
    refine v_aload_n (pc' := 48) 22 1 rfl rfl rfl rfl ?_
    refine v_getR (t := b) (pc' := 51) 23 rfl rfl pf_X8_40 ly_0 (lay_lt ly_0 (by decide)) rt_0_5 ?_
    refine v_getR (t := (b + 6)) (pc' := 54) 24 rfl rfl pf_X8_114 (bn0l hb) (lay_lt (bn0l hb) (by decide)) (rt_bn_1 hb) ?_
    refine v_iload_n (pc' := 55) 25 2 rfl rfl rfl rfl ?_
    refine v_putI (pc' := 58) 26 rfl rfl pf_X8_118 (fun q => absurd q (by decide)) (bn6l hb) (lay_lt (bn6l hb) (by decide)) ?_
    refine v_iload_n (pc' := 59) 27 0 rfl rfl rfl rfl ?_
    exact v_iret 28 rfl rfl (by decide) (by decide) ⟨_, _, _, rfl, rfl, h⟩
  replace h := h.2 hc
  exact v_throwW 6 7 8 9 10 rfl rfl rfl rfl rfl tf_X8_61_65 sr_X8_362 rfl (by decide) (Nat.le_of_ble_eq_true rfl) (by decide) (by decide) ⟨_, _, rfl, h⟩
set_option maxHeartbeats 4000000 in
set_option maxRecDepth 100000 in
theorem ok_X8_letter {G : GT} {b d t : Nat} (p0 : Int32) (p1 : Int32) (I : TI) (L : TL)  {Q : Int32 → Prop} (h : W_X8_letter p0 p1 I L Q) : MW G Y_X8_letter [.int p0, .int p1] (I, L, RT b d t, 457) (fun v9 u9 => ∃ (r9 : Int32), v9 = some (.int r9) ∧ u9 = (I, L, RT b d t, 457) ∧ Q r9) (fun _ _ => False) := by
  unfold W_X8_letter at h
  refine MW.intro rfl (by decide) is_X8_letter (Nat.le_of_ble_eq_true rfl) ?_
  show V G Y_X8_letter 0 [(0, .int p0), (1, .int p1)] [] (I, L, RT b d t, 457) 0 0 _ _
  refine v_iload_n (pc' := 1) 0 0 rfl rfl rfl rfl ?_
  refine v_lk2 (c1 := 1) (c2 := 2) (t1 := 40) (t2 := 28) (dt := 52) 1 rfl (by decide) (by decide) (by decide) (by decide) (by decide) (by decide) (fun hc => ?_) (fun hc => ?_) (fun hc hc2 => ?_)
  · replace h := h.1 hc
    refine v_iload_n (pc' := 41) 8 1 rfl rfl rfl rfl ?_
    refine v_if_ne (tgt := 49) (pc' := 44) 9 rfl rfl (by decide) (fun hc => ?_) (fun hc => ?_)
    · replace h := h.1 hc
      refine v_bipush (v := 104) (pc' := 51) 12 rfl rfl (by decide) ?_
      exact v_zret (ty := .char) 13 rfl rfl rfl (by decide) (by decide) ⟨_, rfl, rfl, h⟩
    replace h := h.2 hc
    refine v_bipush (v := 108) (pc' := 46) 10 rfl rfl (by decide) ?_
    refine v_goto (tgt := 51) 11 rfl (by decide) ?_
    exact v_zret (ty := .char) 13 rfl rfl rfl (by decide) (by decide) ⟨_, rfl, rfl, h⟩
  · replace h := h.2.1 hc
    refine v_iload_n (pc' := 29) 2 1 rfl rfl rfl rfl ?_
    refine v_if_ne (tgt := 37) (pc' := 32) 3 rfl rfl (by decide) (fun hc => ?_) (fun hc => ?_)
    · replace h := h.1 hc
      refine v_bipush (v := 72) (pc' := 39) 6 rfl rfl (by decide) ?_
      exact v_zret (ty := .char) 7 rfl rfl rfl (by decide) (by decide) ⟨_, rfl, rfl, h⟩
    replace h := h.2 hc
    refine v_bipush (v := 76) (pc' := 34) 4 rfl rfl (by decide) ?_
    refine v_goto (tgt := 39) 5 rfl (by decide) ?_
    exact v_zret (ty := .char) 7 rfl rfl rfl (by decide) (by decide) ⟨_, rfl, rfl, h⟩
  replace h := h.2.2 ⟨hc, hc2⟩
  refine v_iload_n (pc' := 53) 14 1 rfl rfl rfl rfl ?_
  refine v_if_ne (tgt := 61) (pc' := 56) 15 rfl rfl (by decide) (fun hc => ?_) (fun hc => ?_)
  · replace h := h.1 hc
    refine v_bipush (v := 49) (pc' := 63) 18 rfl rfl (by decide) ?_
    exact v_zret (ty := .char) 19 rfl rfl rfl (by decide) (by decide) ⟨_, rfl, rfl, h⟩
  replace h := h.2 hc
  refine v_bipush (v := 48) (pc' := 58) 16 rfl rfl (by decide) ?_
  refine v_goto (tgt := 63) 17 rfl (by decide) ?_
  exact v_zret (ty := .char) 19 rfl rfl rfl (by decide) (by decide) ⟨_, rfl, rfl, h⟩
set_option maxHeartbeats 4000000 in
set_option maxRecDepth 100000 in
theorem b_X8_format_66 {G : GT} {t : Nat} (v1 : Int32) (v2 : Int32) (v3 : Int64) (v5 : Int32) (s0 : Int32) (I : TI) (L : TL) (b : Nat) (d : Nat) (hb : bnOK b) (hd : bnOK d) (Q : Int32 → TI → Prop) (QX : String → TI → Prop) (R26 : Int32 → TI → Prop) (hR26 : ∀ (v5 : Int32) (I : TI), R26 v5 I → V G Y_X8_format 26 [(0, .ref 0), (1, .int v1), (2, .int v2), (3, .long v3), (5, .int v5)] [] (I, L, RT b d t, 457) 2 12 (fun v9 u9 => ∃ (r9 : Int32) (I9 : TI), v9 = some (.int r9) ∧ u9 = (I9, L, RT b d t, 457) ∧ Q r9 I9) (fun e9 u9 => ∃ (I9 : TI), u9 = (I9, L, RT b d t, 457) ∧ QX e9 I9)) (h : B_X8_format_66 v1 v2 v3 v5 s0 I L b d Q QX R26) : V G Y_X8_format 66 [(0, .ref 0), (1, .int v1), (2, .int v2), (3, .long v3), (5, .int v5)] [.int s0] (I, L, RT b d t, 457) 2 12 (fun v9 u9 => ∃ (r9 : Int32) (I9 : TI), v9 = some (.int r9) ∧ u9 = (I9, L, RT b d t, 457) ∧ Q r9 I9) (fun e9 u9 => ∃ (I9 : TI), u9 = (I9, L, RT b d t, 457) ∧ QX e9 I9) := by
  unfold B_X8_format_66 at h
  refine v_istore (ls' := [(6, .int s0), (0, .ref 0), (1, .int v1), (2, .int v2), (3, .long v3), (5, .int v5)]) (pc' := 68) 34 rfl rfl (by decide) rfl ?_
  refine v_aload_n (pc' := 69) 35 1 rfl rfl rfl rfl ?_
  refine v_getR (t := 351) (pc' := 72) 36 rfl rfl pf_X8_34 ly_0 (lay_lt ly_0 (by decide)) rt_0_4 ?_
  refine v_iload (pc' := 74) 37 5 rfl rfl rfl ?_
  refine v_iload (pc' := 76) 38 0 rfl rfl rfl ?_
  refine v_lload_n (pc' := 77) 39 4 rfl rfl rfl rfl ?_
  refine v_iload (pc' := 79) 40 5 rfl rfl rfl ?_
  refine v_cS (Y2 := Y_X8_bitOf) (As := [.long v3, .int v5]) (pc' := 82) (c1 := 2) (s1 := 12) 41 rfl rfl mf_X8_bitOf rfl rfl ml_X8_207 ms_X8_bitOf rfl (Nat.le_of_ble_eq_true rfl) ⟨Nat.le_of_ble_eq_true rfl, Nat.le_of_ble_eq_true rfl⟩ rfl rfl (ok_X8_bitOf v3 v5 I L h) ?_ ?_
  · intro e9 u9 hx9
    exact hx9.elim
  intro v9 u9 hv9
  obtain ⟨r1425, rfl, rfl, h⟩ := hv9
  refine ⟨fun q => absurd q (Nat.lt_irrefl _), ?_⟩
  show V G Y_X8_format 82 _ (.int r1425 :: _) _ _ _ _ _
  refine v_cS (Y2 := Y_X8_letter) (As := [.int s0, .int r1425]) (pc' := 85) (c1 := 2) (s1 := 12) 42 rfl rfl mf_X8_letter rfl rfl ml_X8_363 ms_X8_letter rfl (Nat.le_of_ble_eq_true rfl) ⟨Nat.le_of_ble_eq_true rfl, Nat.le_of_ble_eq_true rfl⟩ rfl rfl (ok_X8_letter s0 r1425 I L h) ?_ ?_
  · intro e9 u9 hx9
    exact hx9.elim
  intro v9 u9 hv9
  obtain ⟨r1426, rfl, rfl, h⟩ := hv9
  refine ⟨fun q => absurd q (Nat.lt_irrefl _), ?_⟩
  show V G Y_X8_format 85 _ (.int r1426 :: _) _ _ _ _ _
  refine v_i2b (pc' := 86) 43 rfl rfl ?_
  obtain ⟨hi1427, h⟩ := h
  refine v_bast (i := v5) (j := v5.toNatClampNeg) (pc' := 87) 44 rfl rfl ly_351 ln_351 (lay_lt ly_351 (by decide)) hi1427 rfl ?_
  refine nm_M (e := (up2 I 351 (v5.toNatClampNeg) (r1426.toInt8.toInt32).toInt8.toInt32)) (fun I1428 hI1428 => ?_)
  replace h := h I1428 hI1428
  refine v_iinc (v := (v5 + 1)) (ls' := [(5, .int (v5 + 1)), (6, .int s0), (0, .ref 0), (1, .int v1), (2, .int v2), (3, .long v3)]) (pc' := 90) 45 5 rfl rfl rfl rfl (by decide) rfl ?_
  refine v_goto (tgt := 26) 46 rfl (by decide) ?_
  refine V.sub [2, 3, 4, 5, 0] rfl ?_
  exact hR26 (v5 + 1) I1428 h
set_option maxHeartbeats 4000000 in
set_option maxRecDepth 100000 in
theorem d_X8_format_26 {G : GT} {t : Nat} (v1 : Int32) (v2 : Int32) (v3 : Int64) (L : TL) (b : Nat) (d : Nat) (hb : bnOK b) (hd : bnOK d) (Q : Int32 → TI → Prop) (QX : String → TI → Prop) (R26 : Int32 → TI → Prop)  (hR26 : ∀ (v5 : Int32) (I : TI), R26 v5 I → V G Y_X8_format 26 [(0, .ref 0), (1, .int v1), (2, .int v2), (3, .long v3), (5, .int v5)] [] (I, L, RT b d t, 457) 2 12 (fun v9 u9 => ∃ (r9 : Int32) (I9 : TI), v9 = some (.int r9) ∧ u9 = (I9, L, RT b d t, 457) ∧ Q r9 I9) (fun e9 u9 => ∃ (I9 : TI), u9 = (I9, L, RT b d t, 457) ∧ QX e9 I9)) (v5 : Int32) (I : TI)  (h : D_X8_format_26 v1 v2 v3 L b d Q QX R26 v5 I) : V G Y_X8_format 26 [(0, .ref 0), (1, .int v1), (2, .int v2), (3, .long v3), (5, .int v5)] [] (I, L, RT b d t, 457) 2 12 (fun v9 u9 => ∃ (r9 : Int32) (I9 : TI), v9 = some (.int r9) ∧ u9 = (I9, L, RT b d t, 457) ∧ Q r9 I9) (fun e9 u9 => ∃ (I9 : TI), u9 = (I9, L, RT b d t, 457) ∧ QX e9 I9) := by
  unfold D_X8_format_26 at h
  refine v_iload (pc' := 28) 15 4 rfl rfl rfl ?_
  refine v_aload_n (pc' := 29) 16 0 rfl rfl rfl rfl ?_
  refine v_getI (pc' := 32) 17 rfl rfl pf_X8_51 ly_0 (lay_lt ly_0 (by decide)) ?_
  refine v_icmp_ge (tgt := 93) (pc' := 35) 18 rfl rfl (by decide) (fun hc => ?_) (fun hc => ?_)
  · replace h := h.1 hc
    refine v_aload_n (pc' := 94) 47 0 rfl rfl rfl rfl ?_
    refine v_getI (pc' := 97) 48 rfl rfl pf_X8_51 ly_0 (lay_lt ly_0 (by decide)) ?_
    exact v_iret 49 rfl rfl (by decide) (by decide) ⟨_, _, rfl, rfl, h⟩
  replace h := h.2 hc
  refine v_iload (pc' := 37) 19 4 rfl rfl rfl ?_
  refine v_aload_n (pc' := 38) 20 0 rfl rfl rfl rfl ?_
  refine v_getR (t := 351) (pc' := 41) 21 rfl rfl pf_X8_34 ly_0 (lay_lt ly_0 (by decide)) rt_0_4 ?_
  refine v_alen (t := 2) (pc' := 42) 22 rfl rfl ly_351 (by decide) ln_351 (lay_lt ly_351 (by decide)) ?_
  refine v_icmp_ge (tgt := 93) (pc' := 45) 23 rfl rfl (by decide) (fun hc => ?_) (fun hc => ?_)
  · replace h := h.1 hc
    refine v_aload_n (pc' := 94) 47 0 rfl rfl rfl rfl ?_
    refine v_getI (pc' := 97) 48 rfl rfl pf_X8_51 ly_0 (lay_lt ly_0 (by decide)) ?_
    exact v_iret 49 rfl rfl (by decide) (by decide) ⟨_, _, rfl, rfl, h⟩
  replace h := h.2 hc
  refine v_iload_n (pc' := 46) 24 2 rfl rfl rfl rfl ?_
  refine v_if_ne (tgt := 65) (pc' := 49) 25 rfl rfl (by decide) (fun hc => ?_) (fun hc => ?_)
  · replace h := h.1 hc
    refine v_iconst (v := 0) (pc' := 66) 33 rfl rfl (by decide) ?_
    exact b_X8_format_66 v1 v2 v3 v5 (0 : Int32) I L b d hb hd Q QX R26 hR26 h
  replace h := h.2 hc
  refine v_aload_n (pc' := 50) 26 0 rfl rfl rfl rfl ?_
  refine v_getR (t := b) (pc' := 53) 27 rfl rfl pf_X8_40 ly_0 (lay_lt ly_0 (by decide)) rt_0_5 ?_
  refine v_getR (t := (b + 6)) (pc' := 56) 28 rfl rfl pf_X8_114 (bn0l hb) (lay_lt (bn0l hb) (by decide)) (rt_bn_1 hb) ?_
  refine v_iload_n (pc' := 57) 29 1 rfl rfl rfl rfl ?_
  refine v_iload (pc' := 59) 30 4 rfl rfl rfl ?_
  refine v_cV (Y2 := Y_X6_timeState) (As := [.int v1, .int v5]) (b := (b + 6)) (pc' := 62) (c1 := 2) (s1 := 12) 31 rfl rfl mf_X6_timeState rfl rfl ml_X8_211 mi_X6_timeState se_X6_timeState (ci := 5) rfl (bn6l hb) (lay_lt (bn6l hb) (by decide)) rfl (Nat.le_of_ble_eq_true rfl) ⟨Nat.le_of_ble_eq_true rfl, Nat.le_of_ble_eq_true rfl⟩ rfl rfl (ok_X6_timeState (b + 6) v1 v5 I L (bn_st hb) h) ?_ ?_
  · intro e9 u9 hx9
    exact hx9.elim
  intro v9 u9 hv9
  obtain ⟨r1429, rfl, rfl, h⟩ := hv9
  refine ⟨fun q => absurd q (Nat.lt_irrefl _), ?_⟩
  show V G Y_X8_format 62 _ (.int r1429 :: _) _ _ _ _ _
  refine v_goto (tgt := 66) 32 rfl (by decide) ?_
  exact b_X8_format_66 v1 v2 v3 v5 r1429 I L b d hb hd Q QX R26 hR26 h
theorem l_X8_format_26 {G : GT} {t : Nat} (v1 : Int32) (v2 : Int32) (v3 : Int64) (L : TL) (b : Nat) (d : Nat) (hb : bnOK b) (hd : bnOK d) (Q : Int32 → TI → Prop) (QX : String → TI → Prop)  : ∀ (n9 : Nat) (v5 : Int32) (I : TI), L_X8_format_26 v1 v2 v3 L b d Q QX n9 v5 I → V G Y_X8_format 26 [(0, .ref 0), (1, .int v1), (2, .int v2), (3, .long v3), (5, .int v5)] [] (I, L, RT b d t, 457) 2 12 (fun v9 u9 => ∃ (r9 : Int32) (I9 : TI), v9 = some (.int r9) ∧ u9 = (I9, L, RT b d t, 457) ∧ Q r9 I9) (fun e9 u9 => ∃ (I9 : TI), u9 = (I9, L, RT b d t, 457) ∧ QX e9 I9)
  | 0, _, _, h => h.elim
  | n9 + 1, v5, I, h => d_X8_format_26 v1 v2 v3 L b d hb hd Q QX _ (l_X8_format_26 v1 v2 v3 L b d hb hd Q QX n9) v5 I h
set_option maxHeartbeats 4000000 in
set_option maxRecDepth 100000 in
theorem ok_X8_format {G : GT} {t : Nat} (p1 : Int32) (p2 : Int32) (I : TI) (L : TL) (b : Nat) (d : Nat) (hb : bnOK b) (hd : bnOK d) {Q : Int32 → TI → Prop} {QX : String → TI → Prop} (h : W_X8_format p1 p2 I L b d Q QX) : MW G Y_X8_format [.ref 0, .int p1, .int p2] (I, L, RT b d t, 457) (fun v9 u9 => ∃ (r9 : Int32) (I9 : TI), v9 = some (.int r9) ∧ u9 = (I9, L, RT b d t, 457) ∧ Q r9 I9) (fun e9 u9 => ∃ (I9 : TI), u9 = (I9, L, RT b d t, 457) ∧ QX e9 I9) := by
  unfold W_X8_format at h
  refine MW.intro rfl (by decide) is_X8_format (Nat.le_of_ble_eq_true rfl) ?_
  show V G Y_X8_format 0 [(0, .ref 0), (1, .int p1), (2, .int p2)] [] (I, L, RT b d t, 457) 0 0 _ _
  refine v_aload_n (pc' := 1) 0 0 rfl rfl rfl rfl ?_
  refine v_iload_n (pc' := 2) 1 1 rfl rfl rfl rfl ?_
  refine v_iload_n (pc' := 3) 2 2 rfl rfl rfl rfl ?_
  refine v_cV (Y2 := Y_X8_requireWave) (As := [.int p1, .int p2]) (b := 0) (pc' := 6) (c1 := 2) (s1 := 12) 3 rfl rfl mf_X8_requireWave rfl rfl ml_X8_201 mi_X8_requireWave se_X8_requireWave (ci := 7) rfl ly_0 (lay_lt ly_0 (by decide)) rfl (Nat.le_of_ble_eq_true rfl) ⟨Nat.le_of_ble_eq_true rfl, Nat.le_of_ble_eq_true rfl⟩ rfl rfl (ok_X8_requireWave p1 p2 I L b d hb hd h) ?_ ?_
  · intro e9 u9 hx9
    obtain ⟨rfl, hx9⟩ := hx9
    exact vx_leave rfl (by decide) (by decide) ⟨_, rfl, hx9⟩
  intro v9 u9 hv9
  obtain ⟨r1430, rfl, rfl, h⟩ := hv9
  refine ⟨fun q => absurd q (Nat.lt_irrefl _), ?_⟩
  show V G Y_X8_format 6 _ (.long r1430 :: _) _ _ _ _ _
  refine v_lstore_n (ls' := [(3, .long r1430), (0, .ref 0), (1, .int p1), (2, .int p2)]) (pc' := 7) 4 rfl rfl rfl (by decide) rfl ?_
  refine v_aload_n (pc' := 8) 5 1 rfl rfl rfl rfl ?_
  refine v_aload_n (pc' := 9) 6 1 rfl rfl rfl rfl ?_
  refine v_getR (t := b) (pc' := 12) 7 rfl rfl pf_X8_40 ly_0 (lay_lt ly_0 (by decide)) rt_0_5 ?_
  refine v_getR (t := (b + 1)) (pc' := 15) 8 rfl rfl pf_X8_95 (bn0l hb) (lay_lt (bn0l hb) (by decide)) (rt_bn_0 hb) ?_
  refine v_getI (pc' := 18) 9 rfl rfl pf_X8_111 (bn1l hb) (lay_lt (bn1l hb) (by decide)) ?_
  refine v_iconst (v := 1) (pc' := 19) 10 rfl rfl (by decide) ?_
  refine v_iadd (pc' := 20) 11 rfl rfl ?_
  refine v_putI (pc' := 23) 12 rfl rfl pf_X8_51 (fun q => absurd q (by decide)) ly_0 (lay_lt ly_0 (by decide)) ?_
  refine v_iconst (v := 0) (pc' := 24) 13 rfl rfl (by decide) ?_
  refine v_istore (ls' := [(5, .int 0), (3, .long r1430), (0, .ref 0), (1, .int p1), (2, .int p2)]) (pc' := 26) 14 rfl rfl (by decide) rfl ?_
  refine V.sub [2, 3, 4, 1, 0] rfl ?_
  obtain ⟨n1431, h⟩ := h
  exact l_X8_format_26 p1 p2 r1430 L b d hb hd Q QX n1431 (0 : Int32) (up2 I 0 8 ((I (b + 1) 6) + 1)) h
set_option maxHeartbeats 4000000 in
set_option maxRecDepth 100000 in
theorem ok_X8_formattedByte {G : GT} {b d t : Nat} (p1 : Int32) (I : TI) (L : TL)  {Q : Int32 → Prop} (h : W_X8_formattedByte p1 I L Q) : MW G Y_X8_formattedByte [.ref 0, .int p1] (I, L, RT b d t, 457) (fun v9 u9 => ∃ (r9 : Int32), v9 = some (.int r9) ∧ u9 = (I, L, RT b d t, 457) ∧ Q r9) (fun _ _ => False) := by
  unfold W_X8_formattedByte at h
  refine MW.intro rfl (by decide) is_X8_formattedByte (Nat.le_of_ble_eq_true rfl) ?_
  show V G Y_X8_formattedByte 0 [(0, .ref 0), (1, .int p1)] [] (I, L, RT b d t, 457) 0 0 _ _
  refine v_iload_n (pc' := 1) 0 1 rfl rfl rfl rfl ?_
  refine v_if_lt (tgt := 21) (pc' := 4) 1 rfl rfl (by decide) (fun hc => ?_) (fun hc => ?_)
  · replace h := h.1 hc
    refine v_iconst (v := -1) (pc' := 22) 11 rfl rfl (by decide) ?_
    exact v_iret 12 rfl rfl (by decide) (by decide) ⟨_, rfl, rfl, h⟩
  replace h := h.2 hc
  refine v_iload_n (pc' := 5) 2 1 rfl rfl rfl rfl ?_
  refine v_aload_n (pc' := 6) 3 0 rfl rfl rfl rfl ?_
  refine v_getI (pc' := 9) 4 rfl rfl pf_X8_51 ly_0 (lay_lt ly_0 (by decide)) ?_
  refine v_icmp_ge (tgt := 21) (pc' := 12) 5 rfl rfl (by decide) (fun hc => ?_) (fun hc => ?_)
  · replace h := h.1 hc
    refine v_iconst (v := -1) (pc' := 22) 11 rfl rfl (by decide) ?_
    exact v_iret 12 rfl rfl (by decide) (by decide) ⟨_, rfl, rfl, h⟩
  replace h := h.2 hc
  refine v_iload_n (pc' := 13) 6 1 rfl rfl rfl rfl ?_
  refine v_aload_n (pc' := 14) 7 0 rfl rfl rfl rfl ?_
  refine v_getR (t := 351) (pc' := 17) 8 rfl rfl pf_X8_34 ly_0 (lay_lt ly_0 (by decide)) rt_0_4 ?_
  refine v_alen (t := 2) (pc' := 18) 9 rfl rfl ly_351 (by decide) ln_351 (lay_lt ly_351 (by decide)) ?_
  refine v_icmp_lt (tgt := 23) (pc' := 21) 10 rfl rfl (by decide) (fun hc => ?_) (fun hc => ?_)
  · replace h := h.1 hc
    refine v_aload_n (pc' := 24) 13 0 rfl rfl rfl rfl ?_
    refine v_getR (t := 351) (pc' := 27) 14 rfl rfl pf_X8_34 ly_0 (lay_lt ly_0 (by decide)) rt_0_4 ?_
    refine v_iload_n (pc' := 28) 15 1 rfl rfl rfl rfl ?_
    obtain ⟨hi1433, h⟩ := h
    refine v_bald (i := p1) (j := p1.toNatClampNeg) (pc' := 29) 16 rfl rfl ly_351 ln_351 (lay_lt ly_351 (by decide)) hi1433 rfl ?_
    exact v_iret 17 rfl rfl (by decide) (by decide) ⟨_, rfl, rfl, h⟩
  replace h := h.2 hc
  refine v_iconst (v := -1) (pc' := 22) 11 rfl rfl (by decide) ?_
  exact v_iret 12 rfl rfl (by decide) (by decide) ⟨_, rfl, rfl, h⟩
set_option maxHeartbeats 4000000 in
set_option maxRecDepth 100000 in
theorem ok_X8_undoCount {G : GT} {b d t : Nat} (I : TI) (L : TL)  {Q : Int32 → Prop} (h : W_X8_undoCount I L Q) : MW G Y_X8_undoCount [.ref 0] (I, L, RT b d t, 457) (fun v9 u9 => ∃ (r9 : Int32), v9 = some (.int r9) ∧ u9 = (I, L, RT b d t, 457) ∧ Q r9) (fun _ _ => False) := by
  unfold W_X8_undoCount at h
  refine MW.intro rfl (by decide) is_X8_undoCount (Nat.le_of_ble_eq_true rfl) ?_
  show V G Y_X8_undoCount 0 [(0, .ref 0)] [] (I, L, RT b d t, 457) 0 0 _ _
  refine v_aload_n (pc' := 1) 0 0 rfl rfl rfl rfl ?_
  refine v_getR (t := 1) (pc' := 4) 1 rfl rfl pf_X8_10 ly_0 (lay_lt ly_0 (by decide)) rt_0_0 ?_
  refine v_getI (pc' := 7) 2 rfl rfl pf_X8_367 ly_1 (lay_lt ly_1 (by decide)) ?_
  exact v_iret 3 rfl rfl (by decide) (by decide) ⟨_, rfl, rfl, h⟩
set_option maxHeartbeats 4000000 in
set_option maxRecDepth 100000 in
theorem ok_X8_undo {G : GT} {t : Nat} (I : TI) (L : TL) (b : Nat) (d : Nat) (hb : bnOK b) (hd : bnOK d) {Q : Int32 → TI → TL → Prop} (h : W_X8_undo I L b d Q) : MW G Y_X8_undo [.ref 0] (I, L, RT b d t, 457) (fun v9 u9 => ∃ (r9 : Int32) (I9 : TI) (L9 : TL), v9 = some (.int r9) ∧ u9 = (I9, L9, RT b d t, 457) ∧ Q r9 I9 L9) (fun _ _ => False) := by
  unfold W_X8_undo at h
  refine MW.intro rfl (by decide) is_X8_undo (Nat.le_of_ble_eq_true rfl) ?_
  show V G Y_X8_undo 0 [(0, .ref 0)] [] (I, L, RT b d t, 457) 0 0 _ _
  refine v_aload_n (pc' := 1) 0 0 rfl rfl rfl rfl ?_
  refine v_getR (t := 1) (pc' := 4) 1 rfl rfl pf_X8_10 ly_0 (lay_lt ly_0 (by decide)) rt_0_0 ?_
  refine v_getI (pc' := 7) 2 rfl rfl pf_X8_367 ly_1 (lay_lt ly_1 (by decide)) ?_
  refine v_if_ne (tgt := 12) (pc' := 10) 3 rfl rfl (by decide) (fun hc => ?_) (fun hc => ?_)
  · replace h := h.1 hc
    refine v_aload_n (pc' := 13) 6 0 rfl rfl rfl rfl ?_
    refine v_getR (t := 1) (pc' := 16) 7 rfl rfl pf_X8_10 ly_0 (lay_lt ly_0 (by decide)) rt_0_0 ?_
    refine v_aload_n (pc' := 17) 8 0 rfl rfl rfl rfl ?_
    refine v_getR (t := b) (pc' := 20) 9 rfl rfl pf_X8_40 ly_0 (lay_lt ly_0 (by decide)) rt_0_5 ?_
    refine v_getR (t := (b + 6)) (pc' := 23) 10 rfl rfl pf_X8_114 (bn0l hb) (lay_lt (bn0l hb) (by decide)) (rt_bn_1 hb) ?_
    refine v_cV (Y2 := Y_X4_takeBack) (As := [.ref (b + 6)]) (b := 1) (pc' := 26) (c1 := 0) (s1 := 0) 11 rfl rfl mf_X4_takeBack rfl rfl ml_X8_370 mi_X4_takeBack se_X4_takeBack (ci := 3) rfl ly_1 (lay_lt ly_1 (by decide)) rfl (Nat.le_of_ble_eq_true rfl) ⟨Nat.le_of_ble_eq_true rfl, Nat.le_of_ble_eq_true rfl⟩ rfl rfl (ok_X4_takeBack (b + 6) I L (bn_st hb) h) ?_ ?_
    · intro e9 u9 hx9
      exact hx9.elim
    intro v9 u9 hv9
    obtain ⟨I1438, L1439, rfl, rfl, h⟩ := hv9
    refine ⟨fun q => absurd q (Nat.lt_irrefl _), ?_⟩
    show V G Y_X8_undo 26 _ _ _ _ _ _ _
    refine v_aload_n (pc' := 27) 12 0 rfl rfl rfl rfl ?_
    refine v_getR (t := b) (pc' := 30) 13 rfl rfl pf_X8_40 ly_0 (lay_lt ly_0 (by decide)) rt_0_5 ?_
    refine v_cV (Y2 := Y_X0_refresh) (As := []) (b := b) (pc' := 33) (c1 := 0) (s1 := 0) 14 rfl rfl mf_X0_refresh rfl rfl ml_X8_89 mi_X0_refresh se_X0_refresh (ci := 0) rfl (bn0l hb) (lay_lt (bn0l hb) (by decide)) rfl (Nat.le_of_ble_eq_true rfl) ⟨Nat.le_of_ble_eq_true rfl, Nat.le_of_ble_eq_true rfl⟩ rfl rfl (ok_X0_refresh b I1438 L1439 hb h) ?_ ?_
    · intro e9 u9 hx9
      exact hx9.elim
    intro v9 u9 hv9
    obtain ⟨I1440, L1441, rfl, rfl, h⟩ := hv9
    refine ⟨fun q => absurd q (Nat.lt_irrefl _), ?_⟩
    show V G Y_X8_undo 33 _ _ _ _ _ _ _
    refine v_aload_n (pc' := 34) 15 0 rfl rfl rfl rfl ?_
    refine v_getR (t := 1) (pc' := 37) 16 rfl rfl pf_X8_10 ly_0 (lay_lt ly_0 (by decide)) rt_0_0 ?_
    refine v_getI (pc' := 40) 17 rfl rfl pf_X8_367 ly_1 (lay_lt ly_1 (by decide)) ?_
    exact v_iret 18 rfl rfl (by decide) (by decide) ⟨_, _, _, rfl, rfl, h⟩
  replace h := h.2 hc
  refine v_iconst (v := -1) (pc' := 11) 4 rfl rfl (by decide) ?_
  exact v_iret 5 rfl rfl (by decide) (by decide) ⟨_, _, _, rfl, rfl, h⟩
set_option maxHeartbeats 4000000 in
set_option maxRecDepth 100000 in
theorem ok_X8_saveSnapshot {G : GT} {t : Nat} (I : TI) (L : TL) (b : Nat) (d : Nat) (hb : bnOK b) (hd : bnOK d) {Q : TI → TL → Prop} (h : W_X8_saveSnapshot I L b d Q) : MW G Y_X8_saveSnapshot [.ref 0] (I, L, RT b d t, 457) (fun v9 u9 => ∃ (I9 : TI) (L9 : TL), v9 = none ∧ u9 = (I9, L9, RT b d t, 457) ∧ Q I9 L9) (fun _ _ => False) := by
  unfold W_X8_saveSnapshot at h
  refine MW.intro rfl (by decide) is_X8_saveSnapshot (Nat.le_of_ble_eq_true rfl) ?_
  show V G Y_X8_saveSnapshot 0 [(0, .ref 0)] [] (I, L, RT b d t, 457) 0 0 _ _
  refine v_aload_n (pc' := 1) 0 0 rfl rfl rfl rfl ?_
  refine v_getR (t := 1) (pc' := 4) 1 rfl rfl pf_X8_10 ly_0 (lay_lt ly_0 (by decide)) rt_0_0 ?_
  refine v_aload_n (pc' := 5) 2 0 rfl rfl rfl rfl ?_
  refine v_getR (t := b) (pc' := 8) 3 rfl rfl pf_X8_40 ly_0 (lay_lt ly_0 (by decide)) rt_0_5 ?_
  refine v_getR (t := (b + 6)) (pc' := 11) 4 rfl rfl pf_X8_114 (bn0l hb) (lay_lt (bn0l hb) (by decide)) (rt_bn_1 hb) ?_
  refine v_cV (Y2 := Y_X4_keep) (As := [.ref (b + 6)]) (b := 1) (pc' := 14) (c1 := 0) (s1 := 0) 5 rfl rfl mf_X4_keep rfl rfl ml_X8_373 mi_X4_keep se_X4_keep (ci := 3) rfl ly_1 (lay_lt ly_1 (by decide)) rfl (Nat.le_of_ble_eq_true rfl) ⟨Nat.le_of_ble_eq_true rfl, Nat.le_of_ble_eq_true rfl⟩ rfl rfl (ok_X4_keep (b + 6) I L (bn_st hb) h) ?_ ?_
  · intro e9 u9 hx9
    exact hx9.elim
  intro v9 u9 hv9
  obtain ⟨I1444, L1445, rfl, rfl, h⟩ := hv9
  refine ⟨fun q => absurd q (Nat.lt_irrefl _), ?_⟩
  show V G Y_X8_saveSnapshot 14 _ _ _ _ _ _ _
  exact v_vret 6 rfl rfl (by decide) (by decide) ⟨_, _, rfl, rfl, h⟩
set_option maxHeartbeats 4000000 in
set_option maxRecDepth 100000 in
theorem ok_X8_restoreSnapshot {G : GT} {t : Nat} (I : TI) (L : TL) (b : Nat) (d : Nat) (hb : bnOK b) (hd : bnOK d) {Q : Int32 → TI → TL → Prop} (h : W_X8_restoreSnapshot I L b d Q) : MW G Y_X8_restoreSnapshot [.ref 0] (I, L, RT b d t, 457) (fun v9 u9 => ∃ (r9 : Int32) (I9 : TI) (L9 : TL), v9 = some (.int r9) ∧ u9 = (I9, L9, RT b d t, 457) ∧ Q r9 I9 L9) (fun _ _ => False) := by
  unfold W_X8_restoreSnapshot at h
  refine MW.intro rfl (by decide) is_X8_restoreSnapshot (Nat.le_of_ble_eq_true rfl) ?_
  show V G Y_X8_restoreSnapshot 0 [(0, .ref 0)] [] (I, L, RT b d t, 457) 0 0 _ _
  refine v_aload_n (pc' := 1) 0 0 rfl rfl rfl rfl ?_
  refine v_getR (t := 1) (pc' := 4) 1 rfl rfl pf_X8_10 ly_0 (lay_lt ly_0 (by decide)) rt_0_0 ?_
  refine v_getZ (pc' := 7) 2 rfl rfl pf_X8_376 ly_1 (lay_lt ly_1 (by decide)) ?_
  refine v_if_ne (tgt := 12) (pc' := 10) 3 rfl rfl (by decide) (fun hc => ?_) (fun hc => ?_)
  · replace h := h.1 hc
    refine v_aload_n (pc' := 13) 6 0 rfl rfl rfl rfl ?_
    refine v_getR (t := 1) (pc' := 16) 7 rfl rfl pf_X8_10 ly_0 (lay_lt ly_0 (by decide)) rt_0_0 ?_
    refine v_aload_n (pc' := 17) 8 0 rfl rfl rfl rfl ?_
    refine v_getR (t := b) (pc' := 20) 9 rfl rfl pf_X8_40 ly_0 (lay_lt ly_0 (by decide)) rt_0_5 ?_
    refine v_getR (t := (b + 6)) (pc' := 23) 10 rfl rfl pf_X8_114 (bn0l hb) (lay_lt (bn0l hb) (by decide)) (rt_bn_1 hb) ?_
    refine v_cV (Y2 := Y_X4_bringBack) (As := [.ref (b + 6)]) (b := 1) (pc' := 26) (c1 := 0) (s1 := 0) 11 rfl rfl mf_X4_bringBack rfl rfl ml_X8_379 mi_X4_bringBack se_X4_bringBack (ci := 3) rfl ly_1 (lay_lt ly_1 (by decide)) rfl (Nat.le_of_ble_eq_true rfl) ⟨Nat.le_of_ble_eq_true rfl, Nat.le_of_ble_eq_true rfl⟩ rfl rfl (ok_X4_bringBack (b + 6) I L (bn_st hb) h) ?_ ?_
    · intro e9 u9 hx9
      exact hx9.elim
    intro v9 u9 hv9
    obtain ⟨I1450, L1451, rfl, rfl, h⟩ := hv9
    refine ⟨fun q => absurd q (Nat.lt_irrefl _), ?_⟩
    show V G Y_X8_restoreSnapshot 26 _ _ _ _ _ _ _
    refine v_aload_n (pc' := 27) 12 0 rfl rfl rfl rfl ?_
    refine v_getR (t := b) (pc' := 30) 13 rfl rfl pf_X8_40 ly_0 (lay_lt ly_0 (by decide)) rt_0_5 ?_
    refine v_cV (Y2 := Y_X0_refresh) (As := []) (b := b) (pc' := 33) (c1 := 0) (s1 := 0) 14 rfl rfl mf_X0_refresh rfl rfl ml_X8_89 mi_X0_refresh se_X0_refresh (ci := 0) rfl (bn0l hb) (lay_lt (bn0l hb) (by decide)) rfl (Nat.le_of_ble_eq_true rfl) ⟨Nat.le_of_ble_eq_true rfl, Nat.le_of_ble_eq_true rfl⟩ rfl rfl (ok_X0_refresh b I1450 L1451 hb h) ?_ ?_
    · intro e9 u9 hx9
      exact hx9.elim
    intro v9 u9 hv9
    obtain ⟨I1452, L1453, rfl, rfl, h⟩ := hv9
    refine ⟨fun q => absurd q (Nat.lt_irrefl _), ?_⟩
    show V G Y_X8_restoreSnapshot 33 _ _ _ _ _ _ _
    refine v_iconst (v := 1) (pc' := 34) 15 rfl rfl (by decide) ?_
    exact v_bret 16 rfl rfl (by decide) (by decide) (by decide) ⟨_, _, _, rfl, rfl, h⟩
  replace h := h.2 hc
  refine v_iconst (v := 0) (pc' := 11) 4 rfl rfl (by decide) ?_
  exact v_bret 5 rfl rfl (by decide) (by decide) (by decide) ⟨_, _, _, rfl, rfl, h⟩
set_option maxHeartbeats 4000000 in
set_option maxRecDepth 100000 in
theorem b_X8_query_87 {G : GT} (v2 : Int32) (I : TI) (L : TL) (b : Nat) (d : Nat) (t : Nat) (hb : bnOK b) (hd : bnOK d) (ht : txOK t) (Q : Int32 → TI → Nat → Prop) (QX : String → TI → Nat → Prop)  (h : B_X8_query_87 v2 I L b d t Q QX) : V G Y_X8_query 87 [(0, .ref 0), (2, .int v2)] [] (I, L, RT b d t, 457) 0 0 (fun v9 u9 => ∃ (r9 : Int32) (I9 : TI) (t9 : Nat), v9 = some (.int r9) ∧ u9 = (I9, L, RT b d t9, 457) ∧ Q r9 I9 t9) (fun e9 u9 => ∃ (I9 : TI) (t9 : Nat), u9 = (I9, L, RT b d t9, 457) ∧ QX e9 I9 t9) := by
  unfold B_X8_query_87 at h
  refine v_aload_n (pc' := 88) 40 0 rfl rfl rfl rfl ?_
  refine v_getR (t := 346) (pc' := 91) 41 rfl rfl pf_X8_26 ly_0 (lay_lt ly_0 (by decide)) rt_0_2 ?_
  refine v_aload_n (pc' := 92) 42 0 rfl rfl rfl rfl ?_
  refine v_getR (t := 344) (pc' := 95) 43 rfl rfl pf_X8_19 ly_0 (lay_lt ly_0 (by decide)) rt_0_1 ?_
  refine v_aload_n (pc' := 96) 44 0 rfl rfl rfl rfl ?_
  refine v_getR (t := b) (pc' := 99) 45 rfl rfl pf_X8_40 ly_0 (lay_lt ly_0 (by decide)) rt_0_5 ?_
  refine v_cV (Y2 := Y_X5_netsOf) (As := [.ref 344, .ref b]) (b := 346) (pc' := 102) (c1 := 0) (s1 := 0) 46 rfl rfl mf_X5_netsOf rfl rfl ml_X8_395 mi_X5_netsOf se_X5_netsOf (ci := 4) rfl ly_346 (lay_lt ly_346 (by decide)) rfl (Nat.le_of_ble_eq_true rfl) ⟨Nat.le_of_ble_eq_true rfl, Nat.le_of_ble_eq_true rfl⟩ rfl rfl (ok_X5_netsOf b I L t hb ht h) ?_ ?_
  · intro e9 u9 hx9
    exact hx9.elim
  intro v9 u9 hv9
  obtain ⟨r1478, I1479, rfl, rfl, h⟩ := hv9
  refine ⟨fun q => absurd q (Nat.lt_irrefl _), ?_⟩
  show V G Y_X8_query 102 _ (.int r1478 :: _) _ _ _ _ _
  refine v_istore_n (ls' := [(3, .int r1478), (0, .ref 0), (2, .int v2)]) (pc' := 103) 47 rfl rfl rfl (by decide) rfl ?_
  refine v_aload_n (pc' := 104) 48 1 rfl rfl rfl rfl ?_
  refine v_iconst (v := 0) (pc' := 105) 49 rfl rfl (by decide) ?_
  refine v_putI (pc' := 108) 50 rfl rfl pf_X8_47 (fun q => absurd q (by decide)) ly_0 (lay_lt ly_0 (by decide)) ?_
  refine v_aload_n (pc' := 109) 51 1 rfl rfl rfl rfl ?_
  refine v_aload_n (pc' := 110) 52 1 rfl rfl rfl rfl ?_
  refine v_getR (t := 344) (pc' := 113) 53 rfl rfl pf_X8_19 ly_0 (lay_lt ly_0 (by decide)) rt_0_1 ?_
  refine v_getI (pc' := 116) 54 rfl rfl pf_X8_81 ly_344 (lay_lt ly_344 (by decide)) ?_
  refine v_putI (pc' := 119) 55 rfl rfl pf_X8_54 (fun q => absurd q (by decide)) ly_0 (lay_lt ly_0 (by decide)) ?_
  refine v_aload_n (pc' := 120) 56 1 rfl rfl rfl rfl ?_
  refine v_getR (t := 344) (pc' := 123) 57 rfl rfl pf_X8_19 ly_0 (lay_lt ly_0 (by decide)) rt_0_1 ?_
  refine v_cV (Y2 := Y_X7_failed) (As := []) (b := 344) (pc' := 126) (c1 := 0) (s1 := 0) 58 rfl rfl mf_X7_failed rfl rfl ml_X8_82 mi_X7_failed se_X7_failed (ci := 6) rfl ly_344 (lay_lt ly_344 (by decide)) rfl (Nat.le_of_ble_eq_true rfl) ⟨Nat.le_of_ble_eq_true rfl, Nat.le_of_ble_eq_true rfl⟩ rfl rfl (ok_X7_failed (up2 (up2 I1479 0 7 0) 0 9 ((up2 I1479 0 7 0) 344 7)) L h) ?_ ?_
  · intro e9 u9 hx9
    exact hx9.elim
  intro v9 u9 hv9
  obtain ⟨r1480, rfl, rfl, h⟩ := hv9
  refine ⟨fun q => absurd q (Nat.lt_irrefl _), ?_⟩
  show V G Y_X8_query 126 _ (.int r1480 :: _) _ _ _ _ _
  refine v_if_eq (tgt := 141) (pc' := 129) 59 rfl rfl (by decide) (fun hc => ?_) (fun hc => ?_)
  · replace h := h.1 hc
    refine v_iload_n (pc' := 142) 66 2 rfl rfl rfl rfl ?_
    refine v_if_eq (tgt := 150) (pc' := 145) 67 rfl rfl (by decide) (fun hc => ?_) (fun hc => ?_)
    · replace h := h.1 hc
      refine v_iload_n (pc' := 151) 71 0 rfl rfl rfl rfl ?_
      refine v_if_ne (tgt := 158) (pc' := 154) 72 rfl rfl (by decide) (fun hc => ?_) (fun hc => ?_)
      · replace h := h.1 hc
        refine v_iload_n (pc' := 159) 75 0 rfl rfl rfl rfl ?_
        refine v_cS (Y2 := Y_J6_numberOfTrailingZeros_0f7a4) (As := [.int r1478]) (pc' := 162) (c1 := 0) (s1 := 0) 76 rfl rfl mf_J6_numberOfTrailingZeros_0f7a4 rfl rfl ml_X8_404 ms_J6_numberOfTrailingZeros_0f7a4 rfl (Nat.le_of_ble_eq_true rfl) ⟨Nat.le_of_ble_eq_true rfl, Nat.le_of_ble_eq_true rfl⟩ rfl rfl (ok_J6_numberOfTrailingZeros_0f7a4 r1478 (up2 (up2 I1479 0 7 0) 0 9 ((up2 I1479 0 7 0) 344 7)) L h) ?_ ?_
        · intro e9 u9 hx9
          exact hx9.elim
        intro v9 u9 hv9
        obtain ⟨r1481, rfl, rfl, h⟩ := hv9
        refine ⟨fun q => absurd q (Nat.lt_irrefl _), ?_⟩
        show V G Y_X8_query 162 _ (.int r1481 :: _) _ _ _ _ _
        exact v_iret 77 rfl rfl (by decide) (by decide) ⟨_, _, _, rfl, rfl, h⟩
      replace h := h.2 hc
      refine v_iconst (v := -1) (pc' := 155) 73 rfl rfl (by decide) ?_
      refine v_goto (tgt := 162) 74 rfl (by decide) ?_
      exact v_iret 77 rfl rfl (by decide) (by decide) ⟨_, _, _, rfl, rfl, h⟩
    replace h := h.2 hc
    refine v_iload_n (pc' := 146) 68 0 rfl rfl rfl rfl ?_
    refine v_cS (Y2 := Y_J6_bitCount_0f7a4) (As := [.int r1478]) (pc' := 149) (c1 := 0) (s1 := 0) 69 rfl rfl mf_J6_bitCount_0f7a4 rfl rfl ml_X8_400 ms_J6_bitCount_0f7a4 rfl (Nat.le_of_ble_eq_true rfl) ⟨Nat.le_of_ble_eq_true rfl, Nat.le_of_ble_eq_true rfl⟩ rfl rfl (ok_J6_bitCount_0f7a4 r1478 (up2 (up2 I1479 0 7 0) 0 9 ((up2 I1479 0 7 0) 344 7)) L h) ?_ ?_
    · intro e9 u9 hx9
      exact hx9.elim
    intro v9 u9 hv9
    obtain ⟨r1482, rfl, rfl, h⟩ := hv9
    refine ⟨fun q => absurd q (Nat.lt_irrefl _), ?_⟩
    show V G Y_X8_query 149 _ (.int r1482 :: _) _ _ _ _ _
    exact v_iret 70 rfl rfl (by decide) (by decide) ⟨_, _, _, rfl, rfl, h⟩
  replace h := h.2 hc
  refine v_ldc_w (v := -1000000000) (pc' := 132) 60 rfl rfl ki_X8_399 ?_
  refine v_aload_n (pc' := 133) 61 1 rfl rfl rfl rfl ?_
  refine v_getR (t := 344) (pc' := 136) 62 rfl rfl pf_X8_19 ly_0 (lay_lt ly_0 (by decide)) rt_0_1 ?_
  refine v_getI (pc' := 139) 63 rfl rfl pf_X8_86 ly_344 (lay_lt ly_344 (by decide)) ?_
  refine v_isub (pc' := 140) 64 rfl rfl ?_
  exact v_iret 65 rfl rfl (by decide) (by decide) ⟨_, _, _, rfl, rfl, h⟩
set_option maxHeartbeats 4000000 in
set_option maxRecDepth 100000 in
theorem b_X8_query_69 {G : GT} (v2 : Int32) (I : TI) (L : TL) (b : Nat) (d : Nat) (t : Nat) (hb : bnOK b) (hd : bnOK d) (ht : txOK t) (Q : Int32 → TI → Nat → Prop) (QX : String → TI → Nat → Prop)  (h : B_X8_query_69 v2 I L b d t Q QX) : V G Y_X8_query 69 [(0, .ref 0), (2, .int v2)] [] (I, L, RT b d t, 457) 0 0 (fun v9 u9 => ∃ (r9 : Int32) (I9 : TI) (t9 : Nat), v9 = some (.int r9) ∧ u9 = (I9, L, RT b d t9, 457) ∧ Q r9 I9 t9) (fun e9 u9 => ∃ (I9 : TI) (t9 : Nat), u9 = (I9, L, RT b d t9, 457) ∧ QX e9 I9 t9) := by
  unfold B_X8_query_69 at h
  refine v_aload_n (pc' := 70) 32 0 rfl rfl rfl rfl ?_
  refine v_getR (t := 344) (pc' := 73) 33 rfl rfl pf_X8_19 ly_0 (lay_lt ly_0 (by decide)) rt_0_1 ?_
  refine v_cV (Y2 := Y_X7_advance) (As := []) (b := 344) (pc' := 76) (c1 := 0) (s1 := 0) 34 rfl rfl mf_X7_advance rfl rfl ml_X8_389 mi_X7_advance se_X7_advance (ci := 6) rfl ly_344 (lay_lt ly_344 (by decide)) rfl (Nat.le_of_ble_eq_true rfl) ⟨Nat.le_of_ble_eq_true rfl, Nat.le_of_ble_eq_true rfl⟩ rfl rfl (ok_X7_advance I L t ht h) ?_ ?_
  · intro e9 u9 hx9
    exact hx9.elim
  intro v9 u9 hv9
  obtain ⟨I1483, rfl, rfl, h⟩ := hv9
  refine ⟨fun q => absurd q (Nat.lt_irrefl _), ?_⟩
  show V G Y_X8_query 76 _ _ _ _ _ _ _
  refine v_goto (tgt := 87) 35 rfl (by decide) ?_
  exact b_X8_query_87 v2 I1483 L b d t hb hd ht Q QX h
set_option maxHeartbeats 4000000 in
set_option maxRecDepth 100000 in
theorem ok_X8_query {G : GT} (p1 : Int32) (I : TI) (L : TL) (b : Nat) (d : Nat) (t : Nat) (hb : bnOK b) (hd : bnOK d) (ht : txOK t) {Q : Int32 → TI → Nat → Prop} {QX : String → TI → Nat → Prop} (h : W_X8_query p1 I L b d t Q QX) : MW G Y_X8_query [.ref 0, .int p1] (I, L, RT b d t, 457) (fun v9 u9 => ∃ (r9 : Int32) (I9 : TI) (t9 : Nat), v9 = some (.int r9) ∧ u9 = (I9, L, RT b d t9, 457) ∧ Q r9 I9 t9) (fun e9 u9 => ∃ (I9 : TI) (t9 : Nat), u9 = (I9, L, RT b d t9, 457) ∧ QX e9 I9 t9) := by
  unfold W_X8_query at h
  refine MW.intro rfl (by decide) is_X8_query (Nat.le_of_ble_eq_true rfl) ?_
  show V G Y_X8_query 0 [(0, .ref 0), (1, .int p1)] [] (I, L, RT b d t, 457) 0 0 _ _
  refine v_iload_n (pc' := 1) 0 1 rfl rfl rfl rfl ?_
  refine v_if_lt (tgt := 19) (pc' := 4) 1 rfl rfl (by decide) (fun hc => ?_) (fun hc => ?_)
  · replace h := h.1 hc
    exact v_throw 9 10 11 12 13 rfl rfl rfl rfl rfl tf_X8_61_65 sr_X8_63 rfl (by decide) (Nat.le_of_ble_eq_true rfl) (by decide) (by decide) ⟨_, _, rfl, h⟩
  replace h := h.2 hc
  refine v_iload_n (pc' := 5) 2 1 rfl rfl rfl rfl ?_
  refine v_sipush (v := 200) (pc' := 8) 3 rfl rfl (by decide) ?_
  refine v_icmp_gt (tgt := 19) (pc' := 11) 4 rfl rfl (by decide) (fun hc => ?_) (fun hc => ?_)
  · replace h := h.1 hc
    exact v_throw 9 10 11 12 13 rfl rfl rfl rfl rfl tf_X8_61_65 sr_X8_63 rfl (by decide) (Nat.le_of_ble_eq_true rfl) (by decide) (by decide) ⟨_, _, rfl, h⟩
  replace h := h.2 hc
  refine v_iload_n (pc' := 12) 5 1 rfl rfl rfl rfl ?_
  refine v_aload_n (pc' := 13) 6 0 rfl rfl rfl rfl ?_
  refine v_getI (pc' := 16) 7 rfl rfl pf_X8_47 ly_0 (lay_lt ly_0 (by decide)) ?_
  refine v_icmp_le (tgt := 29) (pc' := 19) 8 rfl rfl (by decide) (fun hc => ?_) (fun hc => ?_)
  · replace h := h.1 hc
    refine v_aload_n (pc' := 30) 14 0 rfl rfl rfl rfl ?_
    refine v_getR (t := 344) (pc' := 33) 15 rfl rfl pf_X8_19 ly_0 (lay_lt ly_0 (by decide)) rt_0_1 ?_
    refine v_aload_n (pc' := 34) 16 0 rfl rfl rfl rfl ?_
    refine v_getR (t := 350) (pc' := 37) 17 rfl rfl pf_X8_30 ly_0 (lay_lt ly_0 (by decide)) rt_0_3 ?_
    refine v_iload_n (pc' := 38) 18 1 rfl rfl rfl rfl ?_
    refine v_cV (Y2 := Y_X7_begin) (As := [.ref 350, .int p1]) (b := 344) (pc' := 41) (c1 := 0) (s1 := 0) 19 rfl rfl mf_X7_begin rfl rfl ml_X8_68 mi_X7_begin se_X7_begin (ci := 6) rfl ly_344 (lay_lt ly_344 (by decide)) rfl (Nat.le_of_ble_eq_true rfl) ⟨Nat.le_of_ble_eq_true rfl, Nat.le_of_ble_eq_true rfl⟩ rfl rfl (ok_X7_begin p1 I L t ht h) ?_ ?_
    · intro e9 u9 hx9
      exact hx9.elim
    intro v9 u9 hv9
    obtain ⟨I1484, t1485, rfl, rfl, h⟩ := hv9
    refine ⟨fun q => absurd q (Nat.lt_irrefl _), ?_⟩
    obtain ⟨ht1486, h⟩ := h
    show V G Y_X8_query 41 _ _ _ _ _ _ _
    refine v_aload_n (pc' := 42) 20 0 rfl rfl rfl rfl ?_
    refine v_getR (t := 344) (pc' := 45) 21 rfl rfl pf_X8_19 ly_0 (lay_lt ly_0 (by decide)) rt_0_1 ?_
    refine v_ldcSW (pc' := 48) 22 rfl rfl sr_X8_382 ?_
    refine v_cV (Y2 := Y_X7_isWord) (As := [.ref 482]) (b := 344) (pc' := 51) (c1 := 0) (s1 := 0) 23 rfl rfl mf_X7_isWord rfl rfl ml_X8_384 mi_X7_isWord se_X7_isWord (ci := 6) rfl ly_344 (lay_lt ly_344 (by decide)) rfl (Nat.le_of_ble_eq_true rfl) ⟨Nat.le_of_ble_eq_true rfl, Nat.le_of_ble_eq_true rfl⟩ rfl rfl (ok_X7_isWord 482 I1484 L t1485 ht1486 h) ?_ ?_
    · intro e9 u9 hx9
      exact hx9.elim
    intro v9 u9 hv9
    obtain ⟨r1487, rfl, rfl, h⟩ := hv9
    refine ⟨fun q => absurd q (Nat.lt_irrefl _), ?_⟩
    show V G Y_X8_query 51 _ (.int r1487 :: _) _ _ _ _ _
    refine v_istore_n (ls' := [(2, .int r1487), (0, .ref 0), (1, .int p1)]) (pc' := 52) 24 rfl rfl rfl (by decide) rfl ?_
    refine v_iload_n (pc' := 53) 25 0 rfl rfl rfl rfl ?_
    refine v_if_ne (tgt := 69) (pc' := 56) 26 rfl rfl (by decide) (fun hc => ?_) (fun hc => ?_)
    · replace h := h.1 hc
      refine V.sub [1, 0] rfl ?_
      exact b_X8_query_69 r1487 I1484 L b d t1485 hb hd ht1486 Q QX h
    replace h := h.2 hc
    refine v_aload_n (pc' := 57) 27 1 rfl rfl rfl rfl ?_
    refine v_getR (t := 344) (pc' := 60) 28 rfl rfl pf_X8_19 ly_0 (lay_lt ly_0 (by decide)) rt_0_1 ?_
    refine v_ldcSW (pc' := 63) 29 rfl rfl sr_X8_388 ?_
    refine v_cV (Y2 := Y_X7_isWord) (As := [.ref 483]) (b := 344) (pc' := 66) (c1 := 0) (s1 := 0) 30 rfl rfl mf_X7_isWord rfl rfl ml_X8_384 mi_X7_isWord se_X7_isWord (ci := 6) rfl ly_344 (lay_lt ly_344 (by decide)) rfl (Nat.le_of_ble_eq_true rfl) ⟨Nat.le_of_ble_eq_true rfl, Nat.le_of_ble_eq_true rfl⟩ rfl rfl (ok_X7_isWord 483 I1484 L t1485 ht1486 h) ?_ ?_
    · intro e9 u9 hx9
      exact hx9.elim
    intro v9 u9 hv9
    obtain ⟨r1488, rfl, rfl, h⟩ := hv9
    refine ⟨fun q => absurd q (Nat.lt_irrefl _), ?_⟩
    show V G Y_X8_query 66 _ (.int r1488 :: _) _ _ _ _ _
    refine v_if_eq (tgt := 79) (pc' := 69) 31 rfl rfl (by decide) (fun hc => ?_) (fun hc => ?_)
    · replace h := h.1 hc
      refine v_aload_n (pc' := 80) 36 1 rfl rfl rfl rfl ?_
      refine v_getR (t := 344) (pc' := 83) 37 rfl rfl pf_X8_19 ly_0 (lay_lt ly_0 (by decide)) rt_0_1 ?_
      refine v_iconst (v := 1) (pc' := 84) 38 rfl rfl (by decide) ?_
      refine v_cV (Y2 := Y_X7_fail) (As := [.int 1]) (b := 344) (pc' := 87) (c1 := 0) (s1 := 0) 39 rfl rfl mf_X7_fail rfl rfl ml_X8_392 mi_X7_fail se_X7_fail (ci := 6) rfl ly_344 (lay_lt ly_344 (by decide)) rfl (Nat.le_of_ble_eq_true rfl) ⟨Nat.le_of_ble_eq_true rfl, Nat.le_of_ble_eq_true rfl⟩ rfl rfl (ok_X7_fail (1 : Int32) I1484 L h) ?_ ?_
      · intro e9 u9 hx9
        exact hx9.elim
      intro v9 u9 hv9
      obtain ⟨I1489, rfl, rfl, h⟩ := hv9
      refine ⟨fun q => absurd q (Nat.lt_irrefl _), ?_⟩
      show V G Y_X8_query 87 _ _ _ _ _ _ _
      refine V.sub [1, 0] rfl ?_
      exact b_X8_query_87 r1487 I1489 L b d t1485 hb hd ht1486 Q QX h
    replace h := h.2 hc
    refine V.sub [1, 0] rfl ?_
    exact b_X8_query_69 r1487 I1484 L b d t1485 hb hd ht1486 Q QX h
  replace h := h.2 hc
  exact v_throw 9 10 11 12 13 rfl rfl rfl rfl rfl tf_X8_61_65 sr_X8_63 rfl (by decide) (Nat.le_of_ble_eq_true rfl) (by decide) (by decide) ⟨_, _, rfl, h⟩
set_option maxHeartbeats 4000000 in
set_option maxRecDepth 100000 in
theorem d_X9_begins_29 {G : GT} {b d t : Nat} (v2 : Int32) (I : TI)  (Q : TI → TL → Prop) (R29 : Int32 → TL → Prop)  (hR29 : ∀ (v5 : Int32) (L : TL), R29 v5 L → V G Y_X9_begins 29 [(0, .ref 436), (2, .int v2), (5, .int v5)] [] (I, L, RT b d t, 457) 0 0 (fun v9 u9 => ∃ (I9 : TI) (L9 : TL), v9 = none ∧ u9 = (I9, L9, RT b d t, 457) ∧ Q I9 L9) (fun _ _ => False)) (v5 : Int32) (L : TL)  (h : D_X9_begins_29 v2 I Q R29 v5 L) : V G Y_X9_begins 29 [(0, .ref 436), (2, .int v2), (5, .int v5)] [] (I, L, RT b d t, 457) 0 0 (fun v9 u9 => ∃ (I9 : TI) (L9 : TL), v9 = none ∧ u9 = (I9, L9, RT b d t, 457) ∧ Q I9 L9) (fun _ _ => False) := by
  unfold D_X9_begins_29 at h
  refine v_iload (pc' := 31) 17 2 rfl rfl rfl ?_
  refine v_sipush (v := 241) (pc' := 34) 18 rfl rfl (by decide) ?_
  refine v_icmp_ge (tgt := 51) (pc' := 37) 19 rfl rfl (by decide) (fun hc => ?_) (fun hc => ?_)
  · replace h := h.1 hc
    refine v_aload_n (pc' := 52) 27 0 rfl rfl rfl rfl ?_
    refine v_getR (t := 437) (pc' := 55) 28 rfl rfl pf_X9_7 ly_436 (lay_lt ly_436 (by decide)) rt_436_1 ?_
    refine v_iconst (v := 0) (pc' := 56) 29 rfl rfl (by decide) ?_
    refine v_iload_n (pc' := 57) 30 1 rfl rfl rfl rfl ?_
    refine v_i2l (pc' := 58) 31 rfl rfl ?_
    refine v_last (i := 0) (j := 0) (pc' := 59) 32 rfl rfl ly_437 ln_437 (lay_lt ly_437 (by decide)) (vp_lit (by decide)) (by decide) ?_
    exact v_vret 33 rfl rfl (by decide) (by decide) ⟨_, _, rfl, rfl, h⟩
  replace h := h.2 hc
  refine v_aload_n (pc' := 38) 20 0 rfl rfl rfl rfl ?_
  refine v_getR (t := 437) (pc' := 41) 21 rfl rfl pf_X9_7 ly_436 (lay_lt ly_436 (by decide)) rt_436_1 ?_
  refine v_iload (pc' := 43) 22 2 rfl rfl rfl ?_
  refine v_lconst (v := 0) (pc' := 44) 23 rfl rfl (by decide) ?_
  obtain ⟨hi1492, h⟩ := h
  refine v_last (i := v5) (j := v5.toNatClampNeg) (pc' := 45) 24 rfl rfl ly_437 ln_437 (lay_lt ly_437 (by decide)) hi1492 rfl ?_
  refine v_iinc (v := (v5 + 1)) (ls' := [(5, .int (v5 + 1)), (0, .ref 436), (2, .int v2)]) (pc' := 48) 25 2 rfl rfl rfl rfl (by decide) rfl ?_
  refine v_goto (tgt := 29) 26 rfl (by decide) ?_
  refine V.sub [1, 2, 0] rfl ?_
  exact hR29 (v5 + 1) (up2 L 437 (v5.toNatClampNeg) 0) h
theorem l_X9_begins_29 {G : GT} {b d t : Nat} (v2 : Int32) (I : TI)  (Q : TI → TL → Prop)  : ∀ (n9 : Nat) (v5 : Int32) (L : TL), L_X9_begins_29 v2 I Q n9 v5 L → V G Y_X9_begins 29 [(0, .ref 436), (2, .int v2), (5, .int v5)] [] (I, L, RT b d t, 457) 0 0 (fun v9 u9 => ∃ (I9 : TI) (L9 : TL), v9 = none ∧ u9 = (I9, L9, RT b d t, 457) ∧ Q I9 L9) (fun _ _ => False)
  | 0, _, _, h => h.elim
  | n9 + 1, v5, L, h => d_X9_begins_29 v2 I Q _ (l_X9_begins_29 v2 I Q n9) v5 L h
set_option maxHeartbeats 4000000 in
set_option maxRecDepth 100000 in
theorem ok_X9_begins {G : GT} {b d t : Nat} (p1 : Int32) (p2 : Int32) (p3 : Int32) (p4 : Int32) (I : TI) (L : TL)  {Q : TI → TL → Prop} (h : W_X9_begins p1 p2 p3 p4 I L Q) : MW G Y_X9_begins [.ref 436, .int p1, .int p2, .int p3, .int p4] (I, L, RT b d t, 457) (fun v9 u9 => ∃ (I9 : TI) (L9 : TL), v9 = none ∧ u9 = (I9, L9, RT b d t, 457) ∧ Q I9 L9) (fun _ _ => False) := by
  unfold W_X9_begins at h
  refine MW.intro rfl (by decide) is_X9_begins (Nat.le_of_ble_eq_true rfl) ?_
  show V G Y_X9_begins 0 [(0, .ref 436), (1, .int p1), (2, .int p2), (3, .int p3), (4, .int p4)] [] (I, L, RT b d t, 457) 0 0 _ _
  refine v_aload_n (pc' := 1) 0 0 rfl rfl rfl rfl ?_
  refine v_iload_n (pc' := 2) 1 1 rfl rfl rfl rfl ?_
  refine v_putI (pc' := 5) 2 rfl rfl pf_X9_86 (fun q => absurd q (by decide)) ly_436 (lay_lt ly_436 (by decide)) ?_
  refine v_aload_n (pc' := 6) 3 0 rfl rfl rfl rfl ?_
  refine v_iload_n (pc' := 7) 4 3 rfl rfl rfl rfl ?_
  refine v_putI (pc' := 10) 5 rfl rfl pf_X9_89 (fun q => absurd q (by decide)) ly_436 (lay_lt ly_436 (by decide)) ?_
  refine v_aload_n (pc' := 11) 6 0 rfl rfl rfl rfl ?_
  refine v_iload (pc' := 13) 7 4 rfl rfl rfl ?_
  refine v_putI (pc' := 16) 8 rfl rfl pf_X9_92 (fun q => absurd q (by decide)) ly_436 (lay_lt ly_436 (by decide)) ?_
  refine v_aload_n (pc' := 17) 9 0 rfl rfl rfl rfl ?_
  refine v_iconst (v := 0) (pc' := 18) 10 rfl rfl (by decide) ?_
  refine v_putI (pc' := 21) 11 rfl rfl pf_X9_77 (fun q => absurd q (by decide)) ly_436 (lay_lt ly_436 (by decide)) ?_
  refine nm_M (e := (up2 (up2 (up2 (up2 I 436 7 p1) 436 8 p3) 436 9 p4) 436 10 0)) (fun I1493 hI1493 => ?_)
  replace h := h I1493 hI1493
  refine v_aload_n (pc' := 22) 12 0 rfl rfl rfl rfl ?_
  refine v_iconst (v := 0) (pc' := 23) 13 rfl rfl (by decide) ?_
  refine v_putI (pc' := 26) 14 rfl rfl pf_X9_83 (fun q => absurd q (by decide)) ly_436 (lay_lt ly_436 (by decide)) ?_
  refine v_iconst (v := 0) (pc' := 27) 15 rfl rfl (by decide) ?_
  refine v_istore (ls' := [(5, .int 0), (0, .ref 436), (1, .int p1), (2, .int p2), (3, .int p3), (4, .int p4)]) (pc' := 29) 16 rfl rfl (by decide) rfl ?_
  refine V.sub [1, 3, 0] rfl ?_
  obtain ⟨n1494, h⟩ := h
  exact l_X9_begins_29 p2 (up2 I1493 436 11 0) Q n1494 (0 : Int32) L h
set_option maxHeartbeats 4000000 in
set_option maxRecDepth 100000 in
theorem ok_X9_thrown {G : GT} {b d t : Nat} (I : TI) (L : TL)  {Q : Int32 → Prop} (h : W_X9_thrown I L Q) : MW G Y_X9_thrown [.ref 436] (I, L, RT b d t, 457) (fun v9 u9 => ∃ (r9 : Int32), v9 = some (.int r9) ∧ u9 = (I, L, RT b d t, 457) ∧ Q r9) (fun _ _ => False) := by
  unfold W_X9_thrown at h
  refine MW.intro rfl (by decide) is_X9_thrown (Nat.le_of_ble_eq_true rfl) ?_
  show V G Y_X9_thrown 0 [(0, .ref 436)] [] (I, L, RT b d t, 457) 0 0 _ _
  refine v_aload_n (pc' := 1) 0 0 rfl rfl rfl rfl ?_
  refine v_getI (pc' := 4) 1 rfl rfl pf_X9_80 ly_436 (lay_lt ly_436 (by decide)) ?_
  exact v_iret 2 rfl rfl (by decide) (by decide) ⟨_, rfl, rfl, h⟩
set_option maxHeartbeats 4000000 in
set_option maxRecDepth 100000 in
theorem ok_X9_in {G : GT} {b d t : Nat} (p0 : Int64) (p2 : Int64) (p4 : Int64) (I : TI) (L : TL)  {Q : Int32 → Prop} (h : W_X9_in p0 p2 p4 I L Q) : MW G Y_X9_in [.long p0, .long p2, .long p4] (I, L, RT b d t, 457) (fun v9 u9 => ∃ (r9 : Int32), v9 = some (.int r9) ∧ u9 = (I, L, RT b d t, 457) ∧ Q r9) (fun _ _ => False) := by
  unfold W_X9_in at h
  refine MW.intro rfl (by decide) is_X9_in (Nat.le_of_ble_eq_true rfl) ?_
  show V G Y_X9_in 0 [(0, .long p0), (2, .long p2), (4, .long p4)] [] (I, L, RT b d t, 457) 0 0 _ _
  refine v_lload_n (pc' := 1) 0 0 rfl rfl rfl rfl ?_
  refine v_lload_n (pc' := 2) 1 1 rfl rfl rfl rfl ?_
  refine v_lc_lt (tgt := 17) (pc' := 6) 2 3 rfl rfl rfl (by decide) (fun hc => ?_) (fun hc => ?_)
  · replace h := h.1 hc
    refine v_iconst (v := 0) (pc' := 18) 10 rfl rfl (by decide) ?_
    exact v_bret 11 rfl rfl (by decide) (by decide) (by decide) ⟨_, rfl, rfl, h⟩
  replace h := h.2 hc
  refine v_lload_n (pc' := 7) 4 0 rfl rfl rfl rfl ?_
  refine v_lload (pc' := 9) 5 2 rfl rfl rfl ?_
  refine v_lc_gt (tgt := 17) (pc' := 13) 6 7 rfl rfl rfl (by decide) (fun hc => ?_) (fun hc => ?_)
  · replace h := h.1 hc
    refine v_iconst (v := 0) (pc' := 18) 10 rfl rfl (by decide) ?_
    exact v_bret 11 rfl rfl (by decide) (by decide) (by decide) ⟨_, rfl, rfl, h⟩
  replace h := h.2 hc
  refine v_iconst (v := 1) (pc' := 14) 8 rfl rfl (by decide) ?_
  refine v_goto (tgt := 18) 9 rfl (by decide) ?_
  exact v_bret 11 rfl rfl (by decide) (by decide) (by decide) ⟨_, rfl, rfl, h⟩
set_option maxHeartbeats 4000000 in
set_option maxRecDepth 100000 in
theorem ok_X9_fails {G : GT} {b d t : Nat} (p1 : Int32) (p2 : Int32) (I : TI) (L : TL)  {Q : Int32 → TI → Prop} (h : W_X9_fails p1 p2 I L Q) : MW G Y_X9_fails [.ref 436, .int p1, .int p2] (I, L, RT b d t, 457) (fun v9 u9 => ∃ (r9 : Int32) (I9 : TI), v9 = some (.int r9) ∧ u9 = (I9, L, RT b d t, 457) ∧ Q r9 I9) (fun _ _ => False) := by
  unfold W_X9_fails at h
  refine MW.intro rfl (by decide) is_X9_fails (Nat.le_of_ble_eq_true rfl) ?_
  show V G Y_X9_fails 0 [(0, .ref 436), (1, .int p1), (2, .int p2)] [] (I, L, RT b d t, 457) 0 0 _ _
  refine v_iload_n (pc' := 1) 0 1 rfl rfl rfl rfl ?_
  refine v_if_eq (tgt := 6) (pc' := 4) 1 rfl rfl (by decide) (fun hc => ?_) (fun hc => ?_)
  · replace h := h.1 hc
    refine v_aload_n (pc' := 7) 4 0 rfl rfl rfl rfl ?_
    refine v_iload_n (pc' := 8) 5 2 rfl rfl rfl rfl ?_
    refine v_putI (pc' := 11) 6 rfl rfl pf_X9_80 (fun q => absurd q (by decide)) ly_436 (lay_lt ly_436 (by decide)) ?_
    refine v_iconst (v := 1) (pc' := 12) 7 rfl rfl (by decide) ?_
    exact v_bret 8 rfl rfl (by decide) (by decide) (by decide) ⟨_, _, rfl, rfl, h⟩
  replace h := h.2 hc
  refine v_iconst (v := 0) (pc' := 5) 2 rfl rfl (by decide) ?_
  exact v_bret 3 rfl rfl (by decide) (by decide) (by decide) ⟨_, _, rfl, rfl, h⟩
set_option maxHeartbeats 4000000 in
set_option maxRecDepth 100000 in
theorem ok_X9_lesser {G : GT} {b d t : Nat} (p0 : Int32) (p1 : Int32) (I : TI) (L : TL)  {Q : Int32 → Prop} (h : W_X9_lesser p0 p1 I L Q) : MW G Y_X9_lesser [.int p0, .int p1] (I, L, RT b d t, 457) (fun v9 u9 => ∃ (r9 : Int32), v9 = some (.int r9) ∧ u9 = (I, L, RT b d t, 457) ∧ Q r9) (fun _ _ => False) := by
  unfold W_X9_lesser at h
  refine MW.intro rfl (by decide) is_X9_lesser (Nat.le_of_ble_eq_true rfl) ?_
  show V G Y_X9_lesser 0 [(0, .int p0), (1, .int p1)] [] (I, L, RT b d t, 457) 0 0 _ _
  refine v_iload_n (pc' := 1) 0 0 rfl rfl rfl rfl ?_
  refine v_iload_n (pc' := 2) 1 1 rfl rfl rfl rfl ?_
  refine v_icmp_ge (tgt := 9) (pc' := 5) 2 rfl rfl (by decide) (fun hc => ?_) (fun hc => ?_)
  · replace h := h.1 hc
    refine v_iload_n (pc' := 10) 5 1 rfl rfl rfl rfl ?_
    exact v_iret 6 rfl rfl (by decide) (by decide) ⟨_, rfl, rfl, h⟩
  replace h := h.2 hc
  refine v_iload_n (pc' := 6) 3 0 rfl rfl rfl rfl ?_
  refine v_goto (tgt := 10) 4 rfl (by decide) ?_
  exact v_iret 6 rfl rfl (by decide) (by decide) ⟨_, rfl, rfl, h⟩
set_option maxHeartbeats 4000000 in
set_option maxRecDepth 100000 in
theorem ok_X9_greater {G : GT} {b d t : Nat} (p0 : Int32) (p1 : Int32) (I : TI) (L : TL)  {Q : Int32 → Prop} (h : W_X9_greater p0 p1 I L Q) : MW G Y_X9_greater [.int p0, .int p1] (I, L, RT b d t, 457) (fun v9 u9 => ∃ (r9 : Int32), v9 = some (.int r9) ∧ u9 = (I, L, RT b d t, 457) ∧ Q r9) (fun _ _ => False) := by
  unfold W_X9_greater at h
  refine MW.intro rfl (by decide) is_X9_greater (Nat.le_of_ble_eq_true rfl) ?_
  show V G Y_X9_greater 0 [(0, .int p0), (1, .int p1)] [] (I, L, RT b d t, 457) 0 0 _ _
  refine v_iload_n (pc' := 1) 0 0 rfl rfl rfl rfl ?_
  refine v_iload_n (pc' := 2) 1 1 rfl rfl rfl rfl ?_
  refine v_icmp_le (tgt := 9) (pc' := 5) 2 rfl rfl (by decide) (fun hc => ?_) (fun hc => ?_)
  · replace h := h.1 hc
    refine v_iload_n (pc' := 10) 5 1 rfl rfl rfl rfl ?_
    exact v_iret 6 rfl rfl (by decide) (by decide) ⟨_, rfl, rfl, h⟩
  replace h := h.2 hc
  refine v_iload_n (pc' := 6) 3 0 rfl rfl rfl rfl ?_
  refine v_goto (tgt := 10) 4 rfl (by decide) ?_
  exact v_iret 6 rfl rfl (by decide) (by decide) ⟨_, rfl, rfl, h⟩
set_option maxHeartbeats 4000000 in
set_option maxRecDepth 100000 in
theorem ok_X9_bit {G : GT} {b d t : Nat} (p0 : Int64) (p2 : Int32) (I : TI) (L : TL)  {Q : Int32 → Prop} (h : W_X9_bit p0 p2 I L Q) : MW G Y_X9_bit [.long p0, .int p2] (I, L, RT b d t, 457) (fun v9 u9 => ∃ (r9 : Int32), v9 = some (.int r9) ∧ u9 = (I, L, RT b d t, 457) ∧ Q r9) (fun _ _ => False) := by
  unfold W_X9_bit at h
  refine MW.intro rfl (by decide) is_X9_bit (Nat.le_of_ble_eq_true rfl) ?_
  show V G Y_X9_bit 0 [(0, .long p0), (2, .int p2)] [] (I, L, RT b d t, 457) 0 0 _ _
  refine v_lload_n (pc' := 1) 0 0 rfl rfl rfl rfl ?_
  refine v_iload_n (pc' := 2) 1 1 rfl rfl rfl rfl ?_
  refine v_lshr (pc' := 3) 2 rfl rfl ?_
  refine v_lconst (v := 1) (pc' := 4) 3 rfl rfl (by decide) ?_
  refine v_land (pc' := 5) 4 rfl rfl ?_
  refine v_l2i (pc' := 6) 5 rfl rfl ?_
  exact v_iret 6 rfl rfl (by decide) (by decide) ⟨_, rfl, rfl, h⟩
set_option maxHeartbeats 4000000 in
set_option maxRecDepth 100000 in
theorem d_X9_ones_4 {G : GT} {b d t : Nat} (I : TI) (L : TL)  (Q : Int32 → Prop) (R4 : Int32 → Int64 → Prop)  (hR4 : ∀ (v2 : Int32) (v3 : Int64), R4 v2 v3 → V G Y_X9_ones 4 [(2, .int v2), (3, .long v3)] [] (I, L, RT b d t, 457) 0 0 (fun v9 u9 => ∃ (r9 : Int32), v9 = some (.int r9) ∧ u9 = (I, L, RT b d t, 457) ∧ Q r9) (fun _ _ => False)) (v2 : Int32) (v3 : Int64)  (h : D_X9_ones_4 I L Q R4 v2 v3) : V G Y_X9_ones 4 [(2, .int v2), (3, .long v3)] [] (I, L, RT b d t, 457) 0 0 (fun v9 u9 => ∃ (r9 : Int32), v9 = some (.int r9) ∧ u9 = (I, L, RT b d t, 457) ∧ Q r9) (fun _ _ => False) := by
  unfold D_X9_ones_4 at h
  refine v_lload_n (pc' := 5) 4 1 rfl rfl rfl rfl ?_
  refine v_lconst (v := 0) (pc' := 6) 5 rfl rfl (by decide) ?_
  refine v_lc_eq (tgt := 22) (pc' := 10) 6 7 rfl rfl rfl (by decide) (fun hc => ?_) (fun hc => ?_)
  · replace h := h.1 hc
    refine v_iload_n (pc' := 23) 16 0 rfl rfl rfl rfl ?_
    exact v_iret 17 rfl rfl (by decide) (by decide) ⟨_, rfl, rfl, h⟩
  replace h := h.2 hc
  refine v_iinc (v := (v2 + 1)) (ls' := [(2, .int (v2 + 1)), (3, .long v3)]) (pc' := 13) 8 0 rfl rfl rfl rfl (by decide) rfl ?_
  refine v_lload_n (pc' := 14) 9 1 rfl rfl rfl rfl ?_
  refine v_lload_n (pc' := 15) 10 1 rfl rfl rfl rfl ?_
  refine v_lconst (v := 1) (pc' := 16) 11 rfl rfl (by decide) ?_
  refine v_lsub (pc' := 17) 12 rfl rfl ?_
  refine v_land (pc' := 18) 13 rfl rfl ?_
  refine v_lstore_n (ls' := [(3, .long (v3 &&& (v3 - 1))), (2, .int (v2 + 1))]) (pc' := 19) 14 rfl rfl rfl (by decide) rfl ?_
  refine v_goto (tgt := 4) 15 rfl (by decide) ?_
  refine V.sub [1, 0] rfl ?_
  exact hR4 (v2 + 1) (v3 &&& (v3 - 1)) h
theorem l_X9_ones_4 {G : GT} {b d t : Nat} (I : TI) (L : TL)  (Q : Int32 → Prop)  : ∀ (n9 : Nat) (v2 : Int32) (v3 : Int64), L_X9_ones_4 I L Q n9 v2 v3 → V G Y_X9_ones 4 [(2, .int v2), (3, .long v3)] [] (I, L, RT b d t, 457) 0 0 (fun v9 u9 => ∃ (r9 : Int32), v9 = some (.int r9) ∧ u9 = (I, L, RT b d t, 457) ∧ Q r9) (fun _ _ => False)
  | 0, _, _, h => h.elim
  | n9 + 1, v2, v3, h => d_X9_ones_4 I L Q _ (l_X9_ones_4 I L Q n9) v2 v3 h
set_option maxHeartbeats 4000000 in
set_option maxRecDepth 100000 in
theorem ok_X9_ones {G : GT} {b d t : Nat} (p0 : Int64) (I : TI) (L : TL)  {Q : Int32 → Prop} (h : W_X9_ones p0 I L Q) : MW G Y_X9_ones [.long p0] (I, L, RT b d t, 457) (fun v9 u9 => ∃ (r9 : Int32), v9 = some (.int r9) ∧ u9 = (I, L, RT b d t, 457) ∧ Q r9) (fun _ _ => False) := by
  unfold W_X9_ones at h
  refine MW.intro rfl (by decide) is_X9_ones (Nat.le_of_ble_eq_true rfl) ?_
  show V G Y_X9_ones 0 [(0, .long p0)] [] (I, L, RT b d t, 457) 0 0 _ _
  refine v_iconst (v := 0) (pc' := 1) 0 rfl rfl (by decide) ?_
  refine v_istore_n (ls' := [(2, .int 0), (0, .long p0)]) (pc' := 2) 1 rfl rfl rfl (by decide) rfl ?_
  refine v_lload_n (pc' := 3) 2 1 rfl rfl rfl rfl ?_
  refine v_lstore_n (ls' := [(3, .long p0), (2, .int 0), (0, .long p0)]) (pc' := 4) 3 rfl rfl rfl (by decide) rfl ?_
  refine V.sub [1, 0] rfl ?_
  obtain ⟨n1495, h⟩ := h
  exact l_X9_ones_4 I L Q n1495 (0 : Int32) p0 h
set_option maxHeartbeats 4000000 in
set_option maxRecDepth 100000 in
theorem d_X9_times_5 {G : GT} {b d t : Nat} (v1 : Int32) (I : TI) (L : TL)  (Q : Int64 → Prop) (R5 : Int64 → Int32 → Prop)  (hR5 : ∀ (v2 : Int64) (v4 : Int32), R5 v2 v4 → V G Y_X9_times 5 [(1, .int v1), (2, .long v2), (4, .int v4)] [] (I, L, RT b d t, 457) 0 0 (fun v9 u9 => ∃ (r9 : Int64), v9 = some (.long r9) ∧ u9 = (I, L, RT b d t, 457) ∧ Q r9) (fun _ _ => False)) (v2 : Int64) (v4 : Int32)  (h : D_X9_times_5 v1 I L Q R5 v2 v4) : V G Y_X9_times 5 [(1, .int v1), (2, .long v2), (4, .int v4)] [] (I, L, RT b d t, 457) 0 0 (fun v9 u9 => ∃ (r9 : Int64), v9 = some (.long r9) ∧ u9 = (I, L, RT b d t, 457) ∧ Q r9) (fun _ _ => False) := by
  unfold D_X9_times_5 at h
  refine v_iload (pc' := 7) 4 2 rfl rfl rfl ?_
  refine v_iload_n (pc' := 8) 5 0 rfl rfl rfl rfl ?_
  refine v_icmp_gt (tgt := 24) (pc' := 11) 6 rfl rfl (by decide) (fun hc => ?_) (fun hc => ?_)
  · replace h := h.1 hc
    refine v_lload_n (pc' := 25) 15 1 rfl rfl rfl rfl ?_
    exact v_lret 16 rfl rfl (by decide) (by decide) ⟨_, rfl, rfl, h⟩
  replace h := h.2 hc
  refine v_lload_n (pc' := 12) 7 1 rfl rfl rfl rfl ?_
  refine v_lconst (v := 1) (pc' := 13) 8 rfl rfl (by decide) ?_
  refine v_iload (pc' := 15) 9 2 rfl rfl rfl ?_
  refine v_lshl (pc' := 16) 10 rfl rfl ?_
  refine v_lor (pc' := 17) 11 rfl rfl ?_
  refine nm_J (e := (v2 ||| (shlL (1 : Int64) v4))) (fun x1496 hx1496 => ?_)
  replace h := h x1496 hx1496
  refine v_lstore_n (ls' := [(2, .long x1496), (1, .int v1), (4, .int v4)]) (pc' := 18) 12 rfl rfl rfl (by decide) rfl ?_
  refine v_iinc (v := (v4 + 1)) (ls' := [(4, .int (v4 + 1)), (2, .long x1496), (1, .int v1)]) (pc' := 21) 13 2 rfl rfl rfl rfl (by decide) rfl ?_
  refine v_goto (tgt := 5) 14 rfl (by decide) ?_
  refine V.sub [2, 1, 0] rfl ?_
  exact hR5 x1496 (v4 + 1) h
theorem l_X9_times_5 {G : GT} {b d t : Nat} (v1 : Int32) (I : TI) (L : TL)  (Q : Int64 → Prop)  : ∀ (n9 : Nat) (v2 : Int64) (v4 : Int32), L_X9_times_5 v1 I L Q n9 v2 v4 → V G Y_X9_times 5 [(1, .int v1), (2, .long v2), (4, .int v4)] [] (I, L, RT b d t, 457) 0 0 (fun v9 u9 => ∃ (r9 : Int64), v9 = some (.long r9) ∧ u9 = (I, L, RT b d t, 457) ∧ Q r9) (fun _ _ => False)
  | 0, _, _, h => h.elim
  | n9 + 1, v2, v4, h => d_X9_times_5 v1 I L Q _ (l_X9_times_5 v1 I L Q n9) v2 v4 h
set_option maxHeartbeats 4000000 in
set_option maxRecDepth 100000 in
theorem ok_X9_times {G : GT} {b d t : Nat} (p0 : Int32) (p1 : Int32) (I : TI) (L : TL)  {Q : Int64 → Prop} (h : W_X9_times p0 p1 I L Q) : MW G Y_X9_times [.int p0, .int p1] (I, L, RT b d t, 457) (fun v9 u9 => ∃ (r9 : Int64), v9 = some (.long r9) ∧ u9 = (I, L, RT b d t, 457) ∧ Q r9) (fun _ _ => False) := by
  unfold W_X9_times at h
  refine MW.intro rfl (by decide) is_X9_times (Nat.le_of_ble_eq_true rfl) ?_
  show V G Y_X9_times 0 [(0, .int p0), (1, .int p1)] [] (I, L, RT b d t, 457) 0 0 _ _
  refine v_lconst (v := 0) (pc' := 1) 0 rfl rfl (by decide) ?_
  refine v_lstore_n (ls' := [(2, .long 0), (0, .int p0), (1, .int p1)]) (pc' := 2) 1 rfl rfl rfl (by decide) rfl ?_
  refine v_iload_n (pc' := 3) 2 1 rfl rfl rfl rfl ?_
  refine v_istore (ls' := [(4, .int p0), (2, .long 0), (0, .int p0), (1, .int p1)]) (pc' := 5) 3 rfl rfl (by decide) rfl ?_
  refine V.sub [3, 1, 0] rfl ?_
  obtain ⟨n1497, h⟩ := h
  exact l_X9_times_5 p1 I L Q n1497 (0 : Int64) p0 h
set_option maxHeartbeats 4000000 in
set_option maxRecDepth 100000 in
theorem ok_X9_nets {G : GT} {b d t : Nat} (I : TI) (L : TL)  {Q : Int32 → Prop} (h : W_X9_nets I L Q) : MW G Y_X9_nets [.ref 436] (I, L, RT b d t, 457) (fun v9 u9 => ∃ (r9 : Int32), v9 = some (.int r9) ∧ u9 = (I, L, RT b d t, 457) ∧ Q r9) (fun _ _ => False) := by
  unfold W_X9_nets at h
  refine MW.intro rfl (by decide) is_X9_nets (Nat.le_of_ble_eq_true rfl) ?_
  show V G Y_X9_nets 0 [(0, .ref 436)] [] (I, L, RT b d t, 457) 0 0 _ _
  refine v_aload_n (pc' := 1) 0 0 rfl rfl rfl rfl ?_
  refine v_getI (pc' := 4) 1 rfl rfl pf_X9_77 ly_436 (lay_lt ly_436 (by decide)) ?_
  refine v_aload_n (pc' := 5) 2 0 rfl rfl rfl rfl ?_
  refine v_getI (pc' := 8) 3 rfl rfl pf_X9_83 ly_436 (lay_lt ly_436 (by decide)) ?_
  refine v_iadd (pc' := 9) 4 rfl rfl ?_
  exact v_iret 5 rfl rfl (by decide) (by decide) ⟨_, rfl, rfl, h⟩
set_option maxHeartbeats 4000000 in
set_option maxRecDepth 100000 in
theorem ok_X9_delayOf {G : GT} {b d t : Nat} (p1 : Int32) (p2 : Int32) (I : TI) (L : TL)  {Q : Int32 → Prop} (h : W_X9_delayOf p1 p2 I L Q) : MW G Y_X9_delayOf [.ref 436, .int p1, .int p2] (I, L, RT b d t, 457) (fun v9 u9 => ∃ (r9 : Int32), v9 = some (.int r9) ∧ u9 = (I, L, RT b d t, 457) ∧ Q r9) (fun _ _ => False) := by
  unfold W_X9_delayOf at h
  refine MW.intro rfl (by decide) is_X9_delayOf (Nat.le_of_ble_eq_true rfl) ?_
  show V G Y_X9_delayOf 0 [(0, .ref 436), (1, .int p1), (2, .int p2)] [] (I, L, RT b d t, 457) 0 0 _ _
  refine v_aload_n (pc' := 1) 0 0 rfl rfl rfl rfl ?_
  refine v_getR (t := 437) (pc' := 4) 1 rfl rfl pf_X9_7 ly_436 (lay_lt ly_436 (by decide)) rt_436_1 ?_
  refine v_bipush (v := 45) (pc' := 6) 2 rfl rfl (by decide) ?_
  refine v_iconst (v := 3) (pc' := 7) 3 rfl rfl (by decide) ?_
  refine v_iload_n (pc' := 8) 4 1 rfl rfl rfl rfl ?_
  refine v_aload_n (pc' := 9) 5 0 rfl rfl rfl rfl ?_
  refine v_getI (pc' := 12) 6 rfl rfl pf_X9_77 ly_436 (lay_lt ly_436 (by decide)) ?_
  refine v_isub (pc' := 13) 7 rfl rfl ?_
  refine v_imul (pc' := 14) 8 rfl rfl ?_
  refine v_iadd (pc' := 15) 9 rfl rfl ?_
  refine v_iload_n (pc' := 16) 10 2 rfl rfl rfl rfl ?_
  refine v_iadd (pc' := 17) 11 rfl rfl ?_
  obtain ⟨hi1499, h⟩ := h
  refine v_lald (i := (((45 : Int32) + ((3 : Int32) * (p1 - (I 436 10)))) + p2)) (j := (((45 : Int32) + ((3 : Int32) * (p1 - (I 436 10)))) + p2).toNatClampNeg) (pc' := 18) 12 rfl rfl ly_437 ln_437 (lay_lt ly_437 (by decide)) hi1499 rfl ?_
  refine v_l2i (pc' := 19) 13 rfl rfl ?_
  exact v_iret 14 rfl rfl (by decide) (by decide) ⟨_, rfl, rfl, h⟩
set_option maxHeartbeats 4000000 in
set_option maxRecDepth 100000 in
theorem b_X9_dependence_100 {G : GT} {b d t : Nat} (v2 : Int64) (v4 : Int32) (I : TI) (L : TL)  (Q : Int64 → Prop) (R17 : Int64 → Int32 → Prop) (hR17 : ∀ (v2 : Int64) (v4 : Int32), R17 v2 v4 → V G Y_X9_dependence 17 [(0, .ref 436), (2, .long v2), (4, .int v4)] [] (I, L, RT b d t, 457) 0 0 (fun v9 u9 => ∃ (r9 : Int64), v9 = some (.long r9) ∧ u9 = (I, L, RT b d t, 457) ∧ Q r9) (fun _ _ => False)) (h : B_X9_dependence_100 v2 v4 I L Q R17) : V G Y_X9_dependence 100 [(0, .ref 436), (2, .long v2), (4, .int v4)] [] (I, L, RT b d t, 457) 0 0 (fun v9 u9 => ∃ (r9 : Int64), v9 = some (.long r9) ∧ u9 = (I, L, RT b d t, 457) ∧ Q r9) (fun _ _ => False) := by
  unfold B_X9_dependence_100 at h
  refine v_iinc (v := (v4 + (-1))) (ls' := [(4, .int (v4 + (-1))), (0, .ref 436), (2, .long v2)]) (pc' := 103) 61 2 rfl rfl rfl rfl (by decide) rfl ?_
  refine v_goto (tgt := 17) 62 rfl (by decide) ?_
  refine V.sub [1, 2, 0] rfl ?_
  exact hR17 v2 (v4 + (-1)) h
set_option maxHeartbeats 4000000 in
set_option maxRecDepth 100000 in
theorem b_X9_dependence_84 {G : GT} {b d t : Nat} (v2 : Int64) (v4 : Int32) (v6 : Int32) (I : TI) (L : TL)  (Q : Int64 → Prop) (R17 : Int64 → Int32 → Prop) (hR17 : ∀ (v2 : Int64) (v4 : Int32), R17 v2 v4 → V G Y_X9_dependence 17 [(0, .ref 436), (2, .long v2), (4, .int v4)] [] (I, L, RT b d t, 457) 0 0 (fun v9 u9 => ∃ (r9 : Int64), v9 = some (.long r9) ∧ u9 = (I, L, RT b d t, 457) ∧ Q r9) (fun _ _ => False)) (h : B_X9_dependence_84 v2 v4 v6 I L Q R17) : V G Y_X9_dependence 84 [(0, .ref 436), (2, .long v2), (4, .int v4), (6, .int v6)] [] (I, L, RT b d t, 457) 0 0 (fun v9 u9 => ∃ (r9 : Int64), v9 = some (.long r9) ∧ u9 = (I, L, RT b d t, 457) ∧ Q r9) (fun _ _ => False) := by
  unfold B_X9_dependence_84 at h
  refine v_iload (pc' := 86) 51 3 rfl rfl rfl ?_
  refine v_aload_n (pc' := 87) 52 0 rfl rfl rfl rfl ?_
  refine v_getI (pc' := 90) 53 rfl rfl pf_X9_77 ly_436 (lay_lt ly_436 (by decide)) ?_
  refine v_icmp_lt (tgt := 100) (pc' := 93) 54 rfl rfl (by decide) (fun hc => ?_) (fun hc => ?_)
  · replace h := h.1 hc
    refine V.sub [0, 1, 2] rfl ?_
    exact b_X9_dependence_100 v2 v4 I L Q R17 hR17 h
  replace h := h.2 hc
  refine v_lload_n (pc' := 94) 55 1 rfl rfl rfl rfl ?_
  refine v_lconst (v := 1) (pc' := 95) 56 rfl rfl (by decide) ?_
  refine v_iload (pc' := 97) 57 3 rfl rfl rfl ?_
  refine v_lshl (pc' := 98) 58 rfl rfl ?_
  refine v_lor (pc' := 99) 59 rfl rfl ?_
  refine nm_J (e := (v2 ||| (shlL (1 : Int64) v6))) (fun x1504 hx1504 => ?_)
  replace h := h x1504 hx1504
  refine v_lstore_n (ls' := [(2, .long x1504), (0, .ref 436), (4, .int v4), (6, .int v6)]) (pc' := 100) 60 rfl rfl rfl (by decide) rfl ?_
  refine V.sub [1, 0, 2] rfl ?_
  exact b_X9_dependence_100 x1504 v4 I L Q R17 hR17 h
set_option maxHeartbeats 4000000 in
set_option maxRecDepth 100000 in
theorem d_X9_dependence_17 {G : GT} {b d t : Nat} (I : TI) (L : TL)  (Q : Int64 → Prop) (R17 : Int64 → Int32 → Prop)  (hR17 : ∀ (v2 : Int64) (v4 : Int32), R17 v2 v4 → V G Y_X9_dependence 17 [(0, .ref 436), (2, .long v2), (4, .int v4)] [] (I, L, RT b d t, 457) 0 0 (fun v9 u9 => ∃ (r9 : Int64), v9 = some (.long r9) ∧ u9 = (I, L, RT b d t, 457) ∧ Q r9) (fun _ _ => False)) (v2 : Int64) (v4 : Int32)  (h : D_X9_dependence_17 I L Q R17 v2 v4) : V G Y_X9_dependence 17 [(0, .ref 436), (2, .long v2), (4, .int v4)] [] (I, L, RT b d t, 457) 0 0 (fun v9 u9 => ∃ (r9 : Int64), v9 = some (.long r9) ∧ u9 = (I, L, RT b d t, 457) ∧ Q r9) (fun _ _ => False) := by
  unfold D_X9_dependence_17 at h
  refine v_iload (pc' := 19) 12 2 rfl rfl rfl ?_
  refine v_aload_n (pc' := 20) 13 0 rfl rfl rfl rfl ?_
  refine v_getI (pc' := 23) 14 rfl rfl pf_X9_77 ly_436 (lay_lt ly_436 (by decide)) ?_
  refine v_icmp_lt (tgt := 106) (pc' := 26) 15 rfl rfl (by decide) (fun hc => ?_) (fun hc => ?_)
  · replace h := h.1 hc
    refine v_lload_n (pc' := 107) 63 1 rfl rfl rfl rfl ?_
    exact v_lret 64 rfl rfl (by decide) (by decide) ⟨_, rfl, rfl, h⟩
  replace h := h.2 hc
  refine v_lload_n (pc' := 27) 16 1 rfl rfl rfl rfl ?_
  refine v_iload (pc' := 29) 17 2 rfl rfl rfl ?_
  refine v_lshr (pc' := 30) 18 rfl rfl ?_
  refine v_lconst (v := 1) (pc' := 31) 19 rfl rfl (by decide) ?_
  refine v_land (pc' := 32) 20 rfl rfl ?_
  refine v_lconst (v := 0) (pc' := 33) 21 rfl rfl (by decide) ?_
  refine v_lc_ne (tgt := 40) (pc' := 37) 22 23 rfl rfl rfl (by decide) (fun hc => ?_) (fun hc => ?_)
  · replace h := h.1 hc
    refine v_aload_n (pc' := 41) 25 0 rfl rfl rfl rfl ?_
    refine v_getR (t := 442) (pc' := 44) 26 rfl rfl pf_X9_26 ly_436 (lay_lt ly_436 (by decide)) rt_436_13 ?_
    refine v_iload (pc' := 46) 27 2 rfl rfl rfl ?_
    refine v_aload_n (pc' := 47) 28 0 rfl rfl rfl rfl ?_
    refine v_getI (pc' := 50) 29 rfl rfl pf_X9_77 ly_436 (lay_lt ly_436 (by decide)) ?_
    refine v_isub (pc' := 51) 30 rfl rfl ?_
    obtain ⟨hi1505, h⟩ := h
    refine v_iald (i := (v4 - (I 436 10))) (j := (v4 - (I 436 10)).toNatClampNeg) (pc' := 52) 31 rfl rfl ly_442 ln_442 (lay_lt ly_442 (by decide)) hi1505 rfl ?_
    refine nm_I (e := (I 442 ((v4 - (I 436 10)).toNatClampNeg))) (fun x1506 hx1506 => ?_)
    replace h := h x1506 hx1506
    refine v_istore (ls' := [(5, .int x1506), (0, .ref 436), (2, .long v2), (4, .int v4)]) (pc' := 54) 32 rfl rfl (by decide) rfl ?_
    refine v_aload_n (pc' := 55) 33 1 rfl rfl rfl rfl ?_
    refine v_getR (t := 443) (pc' := 58) 34 rfl rfl pf_X9_29 ly_436 (lay_lt ly_436 (by decide)) rt_436_14 ?_
    refine v_iload (pc' := 60) 35 3 rfl rfl rfl ?_
    refine v_aload_n (pc' := 61) 36 1 rfl rfl rfl rfl ?_
    refine v_getI (pc' := 64) 37 rfl rfl pf_X9_77 ly_436 (lay_lt ly_436 (by decide)) ?_
    refine v_isub (pc' := 65) 38 rfl rfl ?_
    obtain ⟨hi1507, h⟩ := h
    refine v_iald (i := (v4 - (I 436 10))) (j := (v4 - (I 436 10)).toNatClampNeg) (pc' := 66) 39 rfl rfl ly_443 ln_443 (lay_lt ly_443 (by decide)) hi1507 rfl ?_
    refine nm_I (e := (I 443 ((v4 - (I 436 10)).toNatClampNeg))) (fun x1508 hx1508 => ?_)
    replace h := h x1508 hx1508
    refine v_istore (ls' := [(6, .int x1508), (5, .int x1506), (0, .ref 436), (2, .long v2), (4, .int v4)]) (pc' := 68) 40 rfl rfl (by decide) rfl ?_
    refine v_iload (pc' := 70) 41 1 rfl rfl rfl ?_
    refine v_aload_n (pc' := 71) 42 2 rfl rfl rfl rfl ?_
    refine v_getI (pc' := 74) 43 rfl rfl pf_X9_77 ly_436 (lay_lt ly_436 (by decide)) ?_
    refine v_icmp_lt (tgt := 84) (pc' := 77) 44 rfl rfl (by decide) (fun hc => ?_) (fun hc => ?_)
    · replace h := h.1 hc
      refine V.sub [2, 3, 4, 0] rfl ?_
      exact b_X9_dependence_84 v2 v4 x1508 I L Q R17 hR17 h
    replace h := h.2 hc
    refine v_lload_n (pc' := 78) 45 3 rfl rfl rfl rfl ?_
    refine v_lconst (v := 1) (pc' := 79) 46 rfl rfl (by decide) ?_
    refine v_iload (pc' := 81) 47 1 rfl rfl rfl ?_
    refine v_lshl (pc' := 82) 48 rfl rfl ?_
    refine v_lor (pc' := 83) 49 rfl rfl ?_
    refine nm_J (e := (v2 ||| (shlL (1 : Int64) x1506))) (fun x1509 hx1509 => ?_)
    replace h := h x1509 hx1509
    refine v_lstore_n (ls' := [(2, .long x1509), (6, .int x1508), (5, .int x1506), (0, .ref 436), (4, .int v4)]) (pc' := 84) 50 rfl rfl rfl (by decide) rfl ?_
    refine V.sub [3, 0, 4, 1] rfl ?_
    exact b_X9_dependence_84 x1509 v4 x1508 I L Q R17 hR17 h
  replace h := h.2 hc
  refine v_goto (tgt := 100) 24 rfl (by decide) ?_
  exact b_X9_dependence_100 v2 v4 I L Q R17 hR17 h
theorem l_X9_dependence_17 {G : GT} {b d t : Nat} (I : TI) (L : TL)  (Q : Int64 → Prop)  : ∀ (n9 : Nat) (v2 : Int64) (v4 : Int32), L_X9_dependence_17 I L Q n9 v2 v4 → V G Y_X9_dependence 17 [(0, .ref 436), (2, .long v2), (4, .int v4)] [] (I, L, RT b d t, 457) 0 0 (fun v9 u9 => ∃ (r9 : Int64), v9 = some (.long r9) ∧ u9 = (I, L, RT b d t, 457) ∧ Q r9) (fun _ _ => False)
  | 0, _, _, h => h.elim
  | n9 + 1, v2, v4, h => d_X9_dependence_17 I L Q _ (l_X9_dependence_17 I L Q n9) v2 v4 h
set_option maxHeartbeats 4000000 in
set_option maxRecDepth 100000 in
theorem ok_X9_dependence {G : GT} {b d t : Nat} (p1 : Int32) (I : TI) (L : TL)  {Q : Int64 → Prop} (h : W_X9_dependence p1 I L Q) : MW G Y_X9_dependence [.ref 436, .int p1] (I, L, RT b d t, 457) (fun v9 u9 => ∃ (r9 : Int64), v9 = some (.long r9) ∧ u9 = (I, L, RT b d t, 457) ∧ Q r9) (fun _ _ => False) := by
  unfold W_X9_dependence at h
  refine MW.intro rfl (by decide) is_X9_dependence (Nat.le_of_ble_eq_true rfl) ?_
  show V G Y_X9_dependence 0 [(0, .ref 436), (1, .int p1)] [] (I, L, RT b d t, 457) 0 0 _ _
  refine v_iload_n (pc' := 1) 0 1 rfl rfl rfl rfl ?_
  refine v_aload_n (pc' := 2) 1 0 rfl rfl rfl rfl ?_
  refine v_getI (pc' := 5) 2 rfl rfl pf_X9_77 ly_436 (lay_lt ly_436 (by decide)) ?_
  refine v_icmp_ge (tgt := 10) (pc' := 8) 3 rfl rfl (by decide) (fun hc => ?_) (fun hc => ?_)
  · replace h := h.1 hc
    refine v_lconst (v := 1) (pc' := 11) 6 rfl rfl (by decide) ?_
    refine v_iload_n (pc' := 12) 7 1 rfl rfl rfl rfl ?_
    refine v_lshl (pc' := 13) 8 rfl rfl ?_
    refine v_lstore_n (ls' := [(2, .long (shlL (1 : Int64) p1)), (0, .ref 436), (1, .int p1)]) (pc' := 14) 9 rfl rfl rfl (by decide) rfl ?_
    refine v_iload_n (pc' := 15) 10 2 rfl rfl rfl rfl ?_
    refine v_istore (ls' := [(4, .int p1), (2, .long (shlL (1 : Int64) p1)), (0, .ref 436), (1, .int p1)]) (pc' := 17) 11 rfl rfl (by decide) rfl ?_
    refine V.sub [2, 1, 0] rfl ?_
    obtain ⟨n1510, h⟩ := h
    exact l_X9_dependence_17 I L Q n1510 (shlL (1 : Int64) p1) p1 h
  replace h := h.2 hc
  refine v_lconst (v := 0) (pc' := 9) 4 rfl rfl (by decide) ?_
  exact v_lret 5 rfl rfl (by decide) (by decide) ⟨_, rfl, rfl, h⟩
