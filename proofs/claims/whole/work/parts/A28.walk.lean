set_option maxHeartbeats 4000000 in
set_option maxRecDepth 100000 in
theorem b_X9_misjudged_57 {G : GT} {b d t : Nat} (v2 : Int32) (s0 : Int32) (s1 : Int32) (I : TI) (L : TL)  (Q : Int32 → TI → TL → Prop) (R13 : Int32 → Int32 → Prop) (hR13 : ∀ (v1 : Int32) (v2 : Int32), R13 v1 v2 → V G Y_X9_misjudged 13 [(0, .ref 436), (1, .int v1), (2, .int v2)] [] (I, L, RT b d t, 457) 0 0 (fun v9 u9 => ∃ (r9 : Int32) (I9 : TI) (L9 : TL), v9 = some (.int r9) ∧ u9 = (I9, L9, RT b d t, 457) ∧ Q r9 I9 L9) (fun _ _ => False)) (h : B_X9_misjudged_57 v2 s0 s1 I L Q R13) : V G Y_X9_misjudged 57 [(0, .ref 436), (2, .int v2)] [.int s1, .int s0] (I, L, RT b d t, 457) 0 0 (fun v9 u9 => ∃ (r9 : Int32) (I9 : TI) (L9 : TL), v9 = some (.int r9) ∧ u9 = (I9, L9, RT b d t, 457) ∧ Q r9 I9 L9) (fun _ _ => False) := by
  unfold B_X9_misjudged_57 at h
  refine v_iadd (pc' := 58) 35 rfl rfl ?_
  refine v_istore_n (ls' := [(1, .int (s0 + s1)), (0, .ref 436), (2, .int v2)]) (pc' := 59) 36 rfl rfl rfl (by decide) rfl ?_
  refine v_iinc (v := (v2 + 1)) (ls' := [(2, .int (v2 + 1)), (1, .int (s0 + s1)), (0, .ref 436)]) (pc' := 62) 37 2 rfl rfl rfl rfl (by decide) rfl ?_
  refine v_goto (tgt := 13) 38 rfl (by decide) ?_
  refine V.sub [2, 1, 0] rfl ?_
  exact hR13 (s0 + s1) (v2 + 1) h
set_option maxHeartbeats 4000000 in
set_option maxRecDepth 100000 in
theorem b_X9_misjudged_56 {G : GT} {b d t : Nat} (v2 : Int32) (s0 : Int32) (I : TI) (L : TL)  (Q : Int32 → TI → TL → Prop) (R13 : Int32 → Int32 → Prop) (hR13 : ∀ (v1 : Int32) (v2 : Int32), R13 v1 v2 → V G Y_X9_misjudged 13 [(0, .ref 436), (1, .int v1), (2, .int v2)] [] (I, L, RT b d t, 457) 0 0 (fun v9 u9 => ∃ (r9 : Int32) (I9 : TI) (L9 : TL), v9 = some (.int r9) ∧ u9 = (I9, L9, RT b d t, 457) ∧ Q r9 I9 L9) (fun _ _ => False)) (h : B_X9_misjudged_56 v2 s0 I L Q R13) : V G Y_X9_misjudged 56 [(0, .ref 436), (2, .int v2)] [.int s0] (I, L, RT b d t, 457) 0 0 (fun v9 u9 => ∃ (r9 : Int32) (I9 : TI) (L9 : TL), v9 = some (.int r9) ∧ u9 = (I9, L9, RT b d t, 457) ∧ Q r9 I9 L9) (fun _ _ => False) := by
  unfold B_X9_misjudged_56 at h
  refine v_iconst (v := 0) (pc' := 57) 34 rfl rfl (by decide) ?_
  exact b_X9_misjudged_57 v2 s0 (0 : Int32) I L Q R13 hR13 h
set_option maxHeartbeats 4000000 in
set_option maxRecDepth 100000 in
theorem d_X9_misjudged_13 {G : GT} {b d t : Nat} (I : TI) (L : TL)  (Q : Int32 → TI → TL → Prop) (R13 : Int32 → Int32 → Prop)  (hR13 : ∀ (v1 : Int32) (v2 : Int32), R13 v1 v2 → V G Y_X9_misjudged 13 [(0, .ref 436), (1, .int v1), (2, .int v2)] [] (I, L, RT b d t, 457) 0 0 (fun v9 u9 => ∃ (r9 : Int32) (I9 : TI) (L9 : TL), v9 = some (.int r9) ∧ u9 = (I9, L9, RT b d t, 457) ∧ Q r9 I9 L9) (fun _ _ => False)) (v1 : Int32) (v2 : Int32)  (h : D_X9_misjudged_13 I L Q R13 v1 v2) : V G Y_X9_misjudged 13 [(0, .ref 436), (1, .int v1), (2, .int v2)] [] (I, L, RT b d t, 457) 0 0 (fun v9 u9 => ∃ (r9 : Int32) (I9 : TI) (L9 : TL), v9 = some (.int r9) ∧ u9 = (I9, L9, RT b d t, 457) ∧ Q r9 I9 L9) (fun _ _ => False) := by
  unfold D_X9_misjudged_13 at h
  refine v_iload_n (pc' := 14) 9 2 rfl rfl rfl rfl ?_
  refine v_i2l (pc' := 15) 10 rfl rfl ?_
  refine v_aload_n (pc' := 16) 11 0 rfl rfl rfl rfl ?_
  refine v_getR (t := 437) (pc' := 19) 12 rfl rfl pf_X9_7 ly_436 (lay_lt ly_436 (by decide)) rt_436_1 ?_
  refine v_iconst (v := 4) (pc' := 20) 13 rfl rfl (by decide) ?_
  refine v_lald (i := 4) (j := 4) (pc' := 21) 14 rfl rfl ly_437 ln_437 (lay_lt ly_437 (by decide)) (vp_lit (by decide)) (by decide) ?_
  refine v_lc_ge (tgt := 65) (pc' := 25) 15 16 rfl rfl rfl (by decide) (fun hc => ?_) (fun hc => ?_)
  · replace h := h.1 hc
    refine v_iload_n (pc' := 66) 39 1 rfl rfl rfl rfl ?_
    exact v_iret 40 rfl rfl (by decide) (by decide) ⟨_, _, _, rfl, rfl, h⟩
  replace h := h.2 hc
  refine v_iload_n (pc' := 26) 17 1 rfl rfl rfl rfl ?_
  refine v_aload_n (pc' := 27) 18 0 rfl rfl rfl rfl ?_
  refine v_iload_n (pc' := 28) 19 2 rfl rfl rfl rfl ?_
  refine v_bipush (v := 7) (pc' := 30) 20 rfl rfl (by decide) ?_
  refine v_cV (Y2 := Y_X9_of) (As := [.int v2, .int 7]) (b := 436) (pc' := 33) (c1 := 0) (s1 := 0) 21 rfl rfl mf_X9_of rfl rfl ml_X9_346 mi_X9_of se_X9_of (ci := 8) rfl ly_436 (lay_lt ly_436 (by decide)) rfl (Nat.le_of_ble_eq_true rfl) ⟨Nat.le_of_ble_eq_true rfl, Nat.le_of_ble_eq_true rfl⟩ rfl rfl (ok_X9_of v2 (7 : Int32) I L h) ?_ ?_
  · intro e9 u9 hx9
    exact hx9.elim
  intro v9 u9 hv9
  obtain ⟨r2826, rfl, rfl, h⟩ := hv9
  refine ⟨fun q => absurd q (Nat.lt_irrefl _), ?_⟩
  show V G Y_X9_misjudged 33 _ (.int r2826 :: _) _ _ _ _ _
  refine v_iconst (v := -1) (pc' := 34) 22 rfl rfl (by decide) ?_
  refine v_icmp_eq (tgt := 56) (pc' := 37) 23 rfl rfl (by decide) (fun hc => ?_) (fun hc => ?_)
  · replace h := h.1 hc
    refine V.sub [0, 2] rfl ?_
    exact b_X9_misjudged_56 v2 v1 I L Q R13 hR13 h
  replace h := h.2 hc
  refine v_aload_n (pc' := 38) 24 0 rfl rfl rfl rfl ?_
  refine v_iload_n (pc' := 39) 25 2 rfl rfl rfl rfl ?_
  refine v_bipush (v := 7) (pc' := 41) 26 rfl rfl (by decide) ?_
  refine v_cV (Y2 := Y_X9_of) (As := [.int v2, .int 7]) (b := 436) (pc' := 44) (c1 := 0) (s1 := 0) 27 rfl rfl mf_X9_of rfl rfl ml_X9_346 mi_X9_of se_X9_of (ci := 8) rfl ly_436 (lay_lt ly_436 (by decide)) rfl (Nat.le_of_ble_eq_true rfl) ⟨Nat.le_of_ble_eq_true rfl, Nat.le_of_ble_eq_true rfl⟩ rfl rfl (ok_X9_of v2 (7 : Int32) I L h) ?_ ?_
  · intro e9 u9 hx9
    exact hx9.elim
  intro v9 u9 hv9
  obtain ⟨r2827, rfl, rfl, h⟩ := hv9
  refine ⟨fun q => absurd q (Nat.lt_irrefl _), ?_⟩
  show V G Y_X9_misjudged 44 _ (.int r2827 :: _) _ _ _ _ _
  refine v_aload_n (pc' := 45) 28 0 rfl rfl rfl rfl ?_
  refine v_iload_n (pc' := 46) 29 2 rfl rfl rfl rfl ?_
  refine v_cV (Y2 := Y_X9_replayed) (As := [.int v2]) (b := 436) (pc' := 49) (c1 := 0) (s1 := 0) 30 rfl rfl mf_X9_replayed rfl rfl ml_X9_367 mi_X9_replayed se_X9_replayed (ci := 8) rfl ly_436 (lay_lt ly_436 (by decide)) rfl (Nat.le_of_ble_eq_true rfl) ⟨Nat.le_of_ble_eq_true rfl, Nat.le_of_ble_eq_true rfl⟩ rfl rfl (ok_X9_replayed v2 I L h) ?_ ?_
  · intro e9 u9 hx9
    exact hx9.elim
  intro v9 u9 hv9
  obtain ⟨r2828, rfl, rfl, h⟩ := hv9
  refine ⟨fun q => absurd q (Nat.lt_irrefl _), ?_⟩
  show V G Y_X9_misjudged 49 _ (.int r2828 :: _) _ _ _ _ _
  refine v_icmp_eq (tgt := 56) (pc' := 52) 31 rfl rfl (by decide) (fun hc => ?_) (fun hc => ?_)
  · replace h := h.1 hc
    refine V.sub [0, 2] rfl ?_
    exact b_X9_misjudged_56 v2 v1 I L Q R13 hR13 h
  replace h := h.2 hc
  refine v_iconst (v := 1) (pc' := 53) 32 rfl rfl (by decide) ?_
  refine v_goto (tgt := 57) 33 rfl (by decide) ?_
  refine V.sub [0, 2] rfl ?_
  exact b_X9_misjudged_57 v2 v1 (1 : Int32) I L Q R13 hR13 h
theorem l_X9_misjudged_13 {G : GT} {b d t : Nat} (I : TI) (L : TL)  (Q : Int32 → TI → TL → Prop)  : ∀ (n9 : Nat) (v1 : Int32) (v2 : Int32), L_X9_misjudged_13 I L Q n9 v1 v2 → V G Y_X9_misjudged 13 [(0, .ref 436), (1, .int v1), (2, .int v2)] [] (I, L, RT b d t, 457) 0 0 (fun v9 u9 => ∃ (r9 : Int32) (I9 : TI) (L9 : TL), v9 = some (.int r9) ∧ u9 = (I9, L9, RT b d t, 457) ∧ Q r9 I9 L9) (fun _ _ => False)
  | 0, _, _, h => h.elim
  | n9 + 1, v1, v2, h => d_X9_misjudged_13 I L Q _ (l_X9_misjudged_13 I L Q n9) v1 v2 h
set_option maxHeartbeats 4000000 in
set_option maxRecDepth 100000 in
theorem ok_X9_misjudged {G : GT} {b d t : Nat} (I : TI) (L : TL)  {Q : Int32 → TI → TL → Prop} (h : W_X9_misjudged I L Q) : MW G Y_X9_misjudged [.ref 436] (I, L, RT b d t, 457) (fun v9 u9 => ∃ (r9 : Int32) (I9 : TI) (L9 : TL), v9 = some (.int r9) ∧ u9 = (I9, L9, RT b d t, 457) ∧ Q r9 I9 L9) (fun _ _ => False) := by
  unfold W_X9_misjudged at h
  refine MW.intro rfl (by decide) is_X9_misjudged (Nat.le_of_ble_eq_true rfl) ?_
  show V G Y_X9_misjudged 0 [(0, .ref 436)] [] (I, L, RT b d t, 457) 0 0 _ _
  refine v_aload_n (pc' := 1) 0 0 rfl rfl rfl rfl ?_
  refine v_iconst (v := 0) (pc' := 2) 1 rfl rfl (by decide) ?_
  refine v_putI (pc' := 5) 2 rfl rfl pf_X9_80 (fun q => absurd q (by decide)) ly_436 (lay_lt ly_436 (by decide)) ?_
  refine v_aload_n (pc' := 6) 3 0 rfl rfl rfl rfl ?_
  refine v_cV (Y2 := Y_X9_waves) (As := []) (b := 436) (pc' := 9) (c1 := 0) (s1 := 0) 4 rfl rfl mf_X9_waves rfl rfl ml_X9_302 mi_X9_waves se_X9_waves (ci := 8) rfl ly_436 (lay_lt ly_436 (by decide)) rfl (Nat.le_of_ble_eq_true rfl) ⟨Nat.le_of_ble_eq_true rfl, Nat.le_of_ble_eq_true rfl⟩ rfl rfl (ok_X9_waves (up2 I 436 0 0) L h) ?_ ?_
  · intro e9 u9 hx9
    exact hx9.elim
  intro v9 u9 hv9
  obtain ⟨L2829, rfl, rfl, h⟩ := hv9
  refine ⟨fun q => absurd q (Nat.lt_irrefl _), ?_⟩
  show V G Y_X9_misjudged 9 _ _ _ _ _ _ _
  refine v_iconst (v := 0) (pc' := 10) 5 rfl rfl (by decide) ?_
  refine v_istore_n (ls' := [(1, .int 0), (0, .ref 436)]) (pc' := 11) 6 rfl rfl rfl (by decide) rfl ?_
  refine v_iconst (v := 0) (pc' := 12) 7 rfl rfl (by decide) ?_
  refine v_istore_n (ls' := [(2, .int 0), (1, .int 0), (0, .ref 436)]) (pc' := 13) 8 rfl rfl rfl (by decide) rfl ?_
  refine V.sub [2, 1, 0] rfl ?_
  obtain ⟨n2830, h⟩ := h
  exact l_X9_misjudged_13 (up2 I 436 0 0) L2829 Q n2830 (0 : Int32) (0 : Int32) h
set_option maxHeartbeats 4000000 in
set_option maxRecDepth 100000 in
theorem d_X9_excess_18 {G : GT} {b d t : Nat} (I : TI) (L : TL)  (Q : UInt64 → TI → TL → Prop) (R18 : Int32 → Int32 → Int32 → Prop)  (hR18 : ∀ (v1 : Int32) (v2 : Int32) (v3 : Int32), R18 v1 v2 v3 → V G Y_X9_excess 18 [(0, .ref 436), (1, .int v1), (2, .int v2), (3, .int v3)] [] (I, L, RT b d t, 457) 0 0 (fun v9 u9 => ∃ (r9 : UInt64) (I9 : TI) (L9 : TL), v9 = some (.double r9) ∧ u9 = (I9, L9, RT b d t, 457) ∧ Q r9 I9 L9) (fun _ _ => False)) (v1 : Int32) (v2 : Int32) (v3 : Int32)  (h : D_X9_excess_18 I L Q R18 v1 v2 v3) : V G Y_X9_excess 18 [(0, .ref 436), (1, .int v1), (2, .int v2), (3, .int v3)] [] (I, L, RT b d t, 457) 0 0 (fun v9 u9 => ∃ (r9 : UInt64) (I9 : TI) (L9 : TL), v9 = some (.double r9) ∧ u9 = (I9, L9, RT b d t, 457) ∧ Q r9 I9 L9) (fun _ _ => False) := by
  unfold D_X9_excess_18 at h
  refine v_iload_n (pc' := 19) 12 3 rfl rfl rfl rfl ?_
  refine v_aload_n (pc' := 20) 13 0 rfl rfl rfl rfl ?_
  refine v_cV (Y2 := Y_X9_nets) (As := []) (b := 436) (pc' := 23) (c1 := 0) (s1 := 0) 14 rfl rfl mf_X9_nets rfl rfl ml_X9_95 mi_X9_nets se_X9_nets (ci := 8) rfl ly_436 (lay_lt ly_436 (by decide)) rfl (Nat.le_of_ble_eq_true rfl) ⟨Nat.le_of_ble_eq_true rfl, Nat.le_of_ble_eq_true rfl⟩ rfl rfl (ok_X9_nets I L h) ?_ ?_
  · intro e9 u9 hx9
    exact hx9.elim
  intro v9 u9 hv9
  obtain ⟨r2845, rfl, rfl, h⟩ := hv9
  refine ⟨fun q => absurd q (Nat.lt_irrefl _), ?_⟩
  show V G Y_X9_excess 23 _ (.int r2845 :: _) _ _ _ _ _
  refine v_icmp_ge (tgt := 58) (pc' := 26) 15 rfl rfl (by decide) (fun hc => ?_) (fun hc => ?_)
  · replace h := h.1 hc
    refine v_iload_n (pc' := 59) 36 2 rfl rfl rfl rfl ?_
    refine v_if_ne (tgt := 66) (pc' := 62) 37 rfl rfl (by decide) (fun hc => ?_) (fun hc => ?_)
    · replace h := h.1 hc
      refine v_iload_n (pc' := 67) 40 1 rfl rfl rfl rfl ?_
      refine v_i2d (pc' := 68) 41 rfl rfl ?_
      refine v_iload_n (pc' := 69) 42 2 rfl rfl rfl rfl ?_
      refine v_i2d (pc' := 70) 43 rfl rfl ?_
      obtain ⟨hn2846, h⟩ := h
      refine v_ddiv (pc' := 71) 44 rfl rfl hn2846 ?_
      exact v_dret 45 rfl rfl (by decide) (by decide) ⟨_, _, _, rfl, rfl, h⟩
    replace h := h.2 hc
    refine v_dconst0 (pc' := 63) 38 rfl rfl ?_
    refine v_goto (tgt := 71) 39 rfl (by decide) ?_
    exact v_dret 45 rfl rfl (by decide) (by decide) ⟨_, _, _, rfl, rfl, h⟩
  replace h := h.2 hc
  refine v_iload_n (pc' := 27) 16 1 rfl rfl rfl rfl ?_
  refine v_aload_n (pc' := 28) 17 0 rfl rfl rfl rfl ?_
  refine v_aload_n (pc' := 29) 18 0 rfl rfl rfl rfl ?_
  refine v_getR (t := 444) (pc' := 32) 19 rfl rfl pf_X9_32 ly_436 (lay_lt ly_436 (by decide)) rt_436_15 ?_
  refine v_iload_n (pc' := 33) 20 3 rfl rfl rfl rfl ?_
  obtain ⟨hi2847, h⟩ := h
  refine v_lald (i := v3) (j := v3.toNatClampNeg) (pc' := 34) 21 rfl rfl ly_444 ln_444 (lay_lt ly_444 (by decide)) hi2847 rfl ?_
  refine v_cV (Y2 := Y_X9_changesOf) (As := [.long (L 444 (v3.toNatClampNeg))]) (b := 436) (pc' := 37) (c1 := 0) (s1 := 0) 22 rfl rfl mf_X9_changesOf rfl rfl ml_X9_319 mi_X9_changesOf se_X9_changesOf (ci := 8) rfl ly_436 (lay_lt ly_436 (by decide)) rfl (Nat.le_of_ble_eq_true rfl) ⟨Nat.le_of_ble_eq_true rfl, Nat.le_of_ble_eq_true rfl⟩ rfl rfl (ok_X9_changesOf (L 444 (v3.toNatClampNeg)) I L h) ?_ ?_
  · intro e9 u9 hx9
    exact hx9.elim
  intro v9 u9 hv9
  obtain ⟨r2848, rfl, rfl, h⟩ := hv9
  refine ⟨fun q => absurd q (Nat.lt_irrefl _), ?_⟩
  show V G Y_X9_excess 37 _ (.int r2848 :: _) _ _ _ _ _
  refine v_iadd (pc' := 38) 23 rfl rfl ?_
  refine v_istore_n (ls' := [(1, .int (v1 + r2848)), (0, .ref 436), (2, .int v2), (3, .int v3)]) (pc' := 39) 24 rfl rfl rfl (by decide) rfl ?_
  refine v_iload_n (pc' := 40) 25 2 rfl rfl rfl rfl ?_
  refine v_aload_n (pc' := 41) 26 1 rfl rfl rfl rfl ?_
  refine v_aload_n (pc' := 42) 27 1 rfl rfl rfl rfl ?_
  refine v_getR (t := 446) (pc' := 45) 28 rfl rfl pf_X9_38 ly_436 (lay_lt ly_436 (by decide)) rt_436_17 ?_
  refine v_iload_n (pc' := 46) 29 3 rfl rfl rfl rfl ?_
  obtain ⟨hi2849, h⟩ := h
  refine v_lald (i := v3) (j := v3.toNatClampNeg) (pc' := 47) 30 rfl rfl ly_446 ln_446 (lay_lt ly_446 (by decide)) hi2849 rfl ?_
  refine v_cV (Y2 := Y_X9_changesOf) (As := [.long (L 446 (v3.toNatClampNeg))]) (b := 436) (pc' := 50) (c1 := 0) (s1 := 0) 31 rfl rfl mf_X9_changesOf rfl rfl ml_X9_319 mi_X9_changesOf se_X9_changesOf (ci := 8) rfl ly_436 (lay_lt ly_436 (by decide)) rfl (Nat.le_of_ble_eq_true rfl) ⟨Nat.le_of_ble_eq_true rfl, Nat.le_of_ble_eq_true rfl⟩ rfl rfl (ok_X9_changesOf (L 446 (v3.toNatClampNeg)) I L h) ?_ ?_
  · intro e9 u9 hx9
    exact hx9.elim
  intro v9 u9 hv9
  obtain ⟨r2850, rfl, rfl, h⟩ := hv9
  refine ⟨fun q => absurd q (Nat.lt_irrefl _), ?_⟩
  show V G Y_X9_excess 50 _ (.int r2850 :: _) _ _ _ _ _
  refine v_iadd (pc' := 51) 32 rfl rfl ?_
  refine v_istore_n (ls' := [(2, .int (v2 + r2850)), (1, .int (v1 + r2848)), (0, .ref 436), (3, .int v3)]) (pc' := 52) 33 rfl rfl rfl (by decide) rfl ?_
  refine v_iinc (v := (v3 + 1)) (ls' := [(3, .int (v3 + 1)), (2, .int (v2 + r2850)), (1, .int (v1 + r2848)), (0, .ref 436)]) (pc' := 55) 34 3 rfl rfl rfl rfl (by decide) rfl ?_
  refine v_goto (tgt := 18) 35 rfl (by decide) ?_
  refine V.sub [3, 2, 1, 0] rfl ?_
  exact hR18 (v1 + r2848) (v2 + r2850) (v3 + 1) h
theorem l_X9_excess_18 {G : GT} {b d t : Nat} (I : TI) (L : TL)  (Q : UInt64 → TI → TL → Prop)  : ∀ (n9 : Nat) (v1 : Int32) (v2 : Int32) (v3 : Int32), L_X9_excess_18 I L Q n9 v1 v2 v3 → V G Y_X9_excess 18 [(0, .ref 436), (1, .int v1), (2, .int v2), (3, .int v3)] [] (I, L, RT b d t, 457) 0 0 (fun v9 u9 => ∃ (r9 : UInt64) (I9 : TI) (L9 : TL), v9 = some (.double r9) ∧ u9 = (I9, L9, RT b d t, 457) ∧ Q r9 I9 L9) (fun _ _ => False)
  | 0, _, _, _, h => h.elim
  | n9 + 1, v1, v2, v3, h => d_X9_excess_18 I L Q _ (l_X9_excess_18 I L Q n9) v1 v2 v3 h
set_option maxHeartbeats 4000000 in
set_option maxRecDepth 100000 in
theorem ok_X9_excess {G : GT} {b d t : Nat} (I : TI) (L : TL)  {Q : UInt64 → TI → TL → Prop} (h : W_X9_excess I L Q) : MW G Y_X9_excess [.ref 436] (I, L, RT b d t, 457) (fun v9 u9 => ∃ (r9 : UInt64) (I9 : TI) (L9 : TL), v9 = some (.double r9) ∧ u9 = (I9, L9, RT b d t, 457) ∧ Q r9 I9 L9) (fun _ _ => False) := by
  unfold W_X9_excess at h
  refine MW.intro rfl (by decide) is_X9_excess (Nat.le_of_ble_eq_true rfl) ?_
  show V G Y_X9_excess 0 [(0, .ref 436)] [] (I, L, RT b d t, 457) 0 0 _ _
  refine v_aload_n (pc' := 1) 0 0 rfl rfl rfl rfl ?_
  refine v_iconst (v := 0) (pc' := 2) 1 rfl rfl (by decide) ?_
  refine v_putI (pc' := 5) 2 rfl rfl pf_X9_80 (fun q => absurd q (by decide)) ly_436 (lay_lt ly_436 (by decide)) ?_
  refine v_aload_n (pc' := 6) 3 0 rfl rfl rfl rfl ?_
  refine v_cV (Y2 := Y_X9_waves) (As := []) (b := 436) (pc' := 9) (c1 := 0) (s1 := 0) 4 rfl rfl mf_X9_waves rfl rfl ml_X9_302 mi_X9_waves se_X9_waves (ci := 8) rfl ly_436 (lay_lt ly_436 (by decide)) rfl (Nat.le_of_ble_eq_true rfl) ⟨Nat.le_of_ble_eq_true rfl, Nat.le_of_ble_eq_true rfl⟩ rfl rfl (ok_X9_waves (up2 I 436 0 0) L h) ?_ ?_
  · intro e9 u9 hx9
    exact hx9.elim
  intro v9 u9 hv9
  obtain ⟨L2851, rfl, rfl, h⟩ := hv9
  refine ⟨fun q => absurd q (Nat.lt_irrefl _), ?_⟩
  show V G Y_X9_excess 9 _ _ _ _ _ _ _
  refine v_iconst (v := 0) (pc' := 10) 5 rfl rfl (by decide) ?_
  refine v_istore_n (ls' := [(1, .int 0), (0, .ref 436)]) (pc' := 11) 6 rfl rfl rfl (by decide) rfl ?_
  refine v_iconst (v := 0) (pc' := 12) 7 rfl rfl (by decide) ?_
  refine v_istore_n (ls' := [(2, .int 0), (1, .int 0), (0, .ref 436)]) (pc' := 13) 8 rfl rfl rfl (by decide) rfl ?_
  refine v_aload_n (pc' := 14) 9 2 rfl rfl rfl rfl ?_
  refine v_getI (pc' := 17) 10 rfl rfl pf_X9_77 ly_436 (lay_lt ly_436 (by decide)) ?_
  refine v_istore_n (ls' := [(3, .int ((up2 I 436 0 0) 436 10)), (2, .int 0), (1, .int 0), (0, .ref 436)]) (pc' := 18) 11 rfl rfl rfl (by decide) rfl ?_
  refine V.sub [3, 2, 1, 0] rfl ?_
  obtain ⟨n2852, h⟩ := h
  exact l_X9_excess_18 (up2 I 436 0 0) L2851 Q n2852 (0 : Int32) (0 : Int32) ((up2 I 436 0 0) 436 10) h
set_option maxHeartbeats 4000000 in
set_option maxRecDepth 100000 in
theorem d_X9_settledShare_9 {G : GT} {b d t : Nat} (I : TI) (L : TL)  (Q : UInt32 → TI → Prop) (R9 : Int32 → Int32 → Prop)  (hR9 : ∀ (v1 : Int32) (v2 : Int32), R9 v1 v2 → V G Y_X9_settledShare 9 [(0, .ref 436), (1, .int v1), (2, .int v2)] [] (I, L, RT b d t, 457) 0 0 (fun v9 u9 => ∃ (r9 : UInt32) (I9 : TI), v9 = some (.float r9) ∧ u9 = (I9, L, RT b d t, 457) ∧ Q r9 I9) (fun _ _ => False)) (v1 : Int32) (v2 : Int32)  (h : D_X9_settledShare_9 I L Q R9 v1 v2) : V G Y_X9_settledShare 9 [(0, .ref 436), (1, .int v1), (2, .int v2)] [] (I, L, RT b d t, 457) 0 0 (fun v9 u9 => ∃ (r9 : UInt32) (I9 : TI), v9 = some (.float r9) ∧ u9 = (I9, L, RT b d t, 457) ∧ Q r9 I9) (fun _ _ => False) := by
  unfold D_X9_settledShare_9 at h
  refine v_iload_n (pc' := 10) 7 2 rfl rfl rfl rfl ?_
  refine v_aload_n (pc' := 11) 8 0 rfl rfl rfl rfl ?_
  refine v_getI (pc' := 14) 9 rfl rfl pf_X9_83 ly_436 (lay_lt ly_436 (by decide)) ?_
  refine v_icmp_ge (tgt := 38) (pc' := 17) 10 rfl rfl (by decide) (fun hc => ?_) (fun hc => ?_)
  · replace h := h.1 hc
    refine v_aload_n (pc' := 39) 23 0 rfl rfl rfl rfl ?_
    refine v_getI (pc' := 42) 24 rfl rfl pf_X9_83 ly_436 (lay_lt ly_436 (by decide)) ?_
    refine v_if_ne (tgt := 49) (pc' := 45) 25 rfl rfl (by decide) (fun hc => ?_) (fun hc => ?_)
    · replace h := h.1 hc
      refine v_iload_n (pc' := 50) 28 1 rfl rfl rfl rfl ?_
      refine v_i2f (pc' := 51) 29 rfl rfl ?_
      refine v_aload_n (pc' := 52) 30 0 rfl rfl rfl rfl ?_
      refine v_getI (pc' := 55) 31 rfl rfl pf_X9_83 ly_436 (lay_lt ly_436 (by decide)) ?_
      refine v_aload_n (pc' := 56) 32 0 rfl rfl rfl rfl ?_
      refine v_getI (pc' := 59) 33 rfl rfl pf_X9_86 ly_436 (lay_lt ly_436 (by decide)) ?_
      refine v_iconst (v := 1) (pc' := 60) 34 rfl rfl (by decide) ?_
      refine v_iadd (pc' := 61) 35 rfl rfl ?_
      refine v_imul (pc' := 62) 36 rfl rfl ?_
      refine v_i2f (pc' := 63) 37 rfl rfl ?_
      obtain ⟨hn2859, h⟩ := h
      refine v_fdiv (pc' := 64) 38 rfl rfl hn2859 ?_
      exact v_fret 39 rfl rfl (by decide) (by decide) ⟨_, _, rfl, rfl, h⟩
    replace h := h.2 hc
    refine v_fconst0 (pc' := 46) 26 rfl rfl ?_
    refine v_goto (tgt := 64) 27 rfl (by decide) ?_
    exact v_fret 39 rfl rfl (by decide) (by decide) ⟨_, _, rfl, rfl, h⟩
  replace h := h.2 hc
  refine v_iload_n (pc' := 18) 11 1 rfl rfl rfl rfl ?_
  refine v_aload_n (pc' := 19) 12 0 rfl rfl rfl rfl ?_
  refine v_getR (t := 437) (pc' := 22) 13 rfl rfl pf_X9_7 ly_436 (lay_lt ly_436 (by decide)) rt_436_1 ?_
  refine v_bipush (v := 9) (pc' := 24) 14 rfl rfl (by decide) ?_
  refine v_iload_n (pc' := 25) 15 2 rfl rfl rfl rfl ?_
  refine v_iadd (pc' := 26) 16 rfl rfl ?_
  obtain ⟨hi2860, h⟩ := h
  refine v_lald (i := ((9 : Int32) + v2)) (j := ((9 : Int32) + v2).toNatClampNeg) (pc' := 27) 17 rfl rfl ly_437 ln_437 (lay_lt ly_437 (by decide)) hi2860 rfl ?_
  refine v_cS (Y2 := Y_X9_ones) (As := [.long (L 437 (((9 : Int32) + v2).toNatClampNeg))]) (pc' := 30) (c1 := 0) (s1 := 0) 18 rfl rfl mf_X9_ones rfl rfl ml_X9_137 ms_X9_ones rfl (Nat.le_of_ble_eq_true rfl) ⟨Nat.le_of_ble_eq_true rfl, Nat.le_of_ble_eq_true rfl⟩ rfl rfl (ok_X9_ones (L 437 (((9 : Int32) + v2).toNatClampNeg)) I L h) ?_ ?_
  · intro e9 u9 hx9
    exact hx9.elim
  intro v9 u9 hv9
  obtain ⟨r2861, rfl, rfl, h⟩ := hv9
  refine ⟨fun q => absurd q (Nat.lt_irrefl _), ?_⟩
  show V G Y_X9_settledShare 30 _ (.int r2861 :: _) _ _ _ _ _
  refine v_iadd (pc' := 31) 19 rfl rfl ?_
  refine v_istore_n (ls' := [(1, .int (v1 + r2861)), (0, .ref 436), (2, .int v2)]) (pc' := 32) 20 rfl rfl rfl (by decide) rfl ?_
  refine v_iinc (v := (v2 + 1)) (ls' := [(2, .int (v2 + 1)), (1, .int (v1 + r2861)), (0, .ref 436)]) (pc' := 35) 21 2 rfl rfl rfl rfl (by decide) rfl ?_
  refine v_goto (tgt := 9) 22 rfl (by decide) ?_
  refine V.sub [2, 1, 0] rfl ?_
  exact hR9 (v1 + r2861) (v2 + 1) h
theorem l_X9_settledShare_9 {G : GT} {b d t : Nat} (I : TI) (L : TL)  (Q : UInt32 → TI → Prop)  : ∀ (n9 : Nat) (v1 : Int32) (v2 : Int32), L_X9_settledShare_9 I L Q n9 v1 v2 → V G Y_X9_settledShare 9 [(0, .ref 436), (1, .int v1), (2, .int v2)] [] (I, L, RT b d t, 457) 0 0 (fun v9 u9 => ∃ (r9 : UInt32) (I9 : TI), v9 = some (.float r9) ∧ u9 = (I9, L, RT b d t, 457) ∧ Q r9 I9) (fun _ _ => False)
  | 0, _, _, h => h.elim
  | n9 + 1, v1, v2, h => d_X9_settledShare_9 I L Q _ (l_X9_settledShare_9 I L Q n9) v1 v2 h
set_option maxHeartbeats 4000000 in
set_option maxRecDepth 100000 in
theorem ok_X9_settledShare {G : GT} {b d t : Nat} (I : TI) (L : TL)  {Q : UInt32 → TI → Prop} (h : W_X9_settledShare I L Q) : MW G Y_X9_settledShare [.ref 436] (I, L, RT b d t, 457) (fun v9 u9 => ∃ (r9 : UInt32) (I9 : TI), v9 = some (.float r9) ∧ u9 = (I9, L, RT b d t, 457) ∧ Q r9 I9) (fun _ _ => False) := by
  unfold W_X9_settledShare at h
  refine MW.intro rfl (by decide) is_X9_settledShare (Nat.le_of_ble_eq_true rfl) ?_
  show V G Y_X9_settledShare 0 [(0, .ref 436)] [] (I, L, RT b d t, 457) 0 0 _ _
  refine v_aload_n (pc' := 1) 0 0 rfl rfl rfl rfl ?_
  refine v_iconst (v := 0) (pc' := 2) 1 rfl rfl (by decide) ?_
  refine v_putI (pc' := 5) 2 rfl rfl pf_X9_80 (fun q => absurd q (by decide)) ly_436 (lay_lt ly_436 (by decide)) ?_
  refine v_iconst (v := 0) (pc' := 6) 3 rfl rfl (by decide) ?_
  refine v_istore_n (ls' := [(1, .int 0), (0, .ref 436)]) (pc' := 7) 4 rfl rfl rfl (by decide) rfl ?_
  refine v_iconst (v := 0) (pc' := 8) 5 rfl rfl (by decide) ?_
  refine v_istore_n (ls' := [(2, .int 0), (1, .int 0), (0, .ref 436)]) (pc' := 9) 6 rfl rfl rfl (by decide) rfl ?_
  refine V.sub [2, 1, 0] rfl ?_
  obtain ⟨n2862, h⟩ := h
  exact l_X9_settledShare_9 (up2 I 436 0 0) L Q n2862 (0 : Int32) (0 : Int32) h
set_option maxHeartbeats 4000000 in
set_option maxRecDepth 100000 in
theorem d_X9_records_54 {G : GT} {b d t : Nat} (I : TI)  (Q : TI → TL → Prop) (R54 : Int32 → TL → Prop)  (hR54 : ∀ (v1 : Int32) (L : TL), R54 v1 L → V G Y_X9_records 54 [(0, .ref 436), (1, .int v1)] [] (I, L, RT b d t, 457) 0 0 (fun v9 u9 => ∃ (I9 : TI) (L9 : TL), v9 = none ∧ u9 = (I9, L9, RT b d t, 457) ∧ Q I9 L9) (fun _ _ => False)) (v1 : Int32) (L : TL)  (h : D_X9_records_54 I Q R54 v1 L) : V G Y_X9_records 54 [(0, .ref 436), (1, .int v1)] [] (I, L, RT b d t, 457) 0 0 (fun v9 u9 => ∃ (I9 : TI) (L9 : TL), v9 = none ∧ u9 = (I9, L9, RT b d t, 457) ∧ Q I9 L9) (fun _ _ => False) := by
  unfold D_X9_records_54 at h
  refine v_iload_n (pc' := 55) 29 1 rfl rfl rfl rfl ?_
  refine v_sipush (v := 241) (pc' := 58) 30 rfl rfl (by decide) ?_
  refine v_icmp_ge (tgt := 88) (pc' := 61) 31 rfl rfl (by decide) (fun hc => ?_) (fun hc => ?_)
  · replace h := h.1 hc
    refine v_aload_n (pc' := 89) 47 0 rfl rfl rfl rfl ?_
    refine v_dup (pc' := 90) 48 rfl rfl rfl ?_
    refine v_getI (pc' := 93) 49 rfl rfl pf_X9_290 ly_436 (lay_lt ly_436 (by decide)) ?_
    refine v_iconst (v := 1) (pc' := 94) 50 rfl rfl (by decide) ?_
    refine v_iadd (pc' := 95) 51 rfl rfl ?_
    refine v_putI (pc' := 98) 52 rfl rfl pf_X9_290 (fun q => absurd q (by decide)) ly_436 (lay_lt ly_436 (by decide)) ?_
    exact v_vret 53 rfl rfl (by decide) (by decide) ⟨_, _, rfl, rfl, h⟩
  replace h := h.2 hc
  refine v_aload_n (pc' := 62) 32 0 rfl rfl rfl rfl ?_
  refine v_getR (t := 440) (pc' := 65) 33 rfl rfl pf_X9_19 ly_436 (lay_lt ly_436 (by decide)) rt_436_4 ?_
  refine v_sipush (v := 241) (pc' := 68) 34 rfl rfl (by decide) ?_
  refine v_aload_n (pc' := 69) 35 0 rfl rfl rfl rfl ?_
  refine v_getI (pc' := 72) 36 rfl rfl pf_X9_290 ly_436 (lay_lt ly_436 (by decide)) ?_
  refine v_imul (pc' := 73) 37 rfl rfl ?_
  refine v_iload_n (pc' := 74) 38 1 rfl rfl rfl rfl ?_
  refine v_iadd (pc' := 75) 39 rfl rfl ?_
  refine v_aload_n (pc' := 76) 40 0 rfl rfl rfl rfl ?_
  refine v_getR (t := 437) (pc' := 79) 41 rfl rfl pf_X9_7 ly_436 (lay_lt ly_436 (by decide)) rt_436_1 ?_
  refine v_iload_n (pc' := 80) 42 1 rfl rfl rfl rfl ?_
  obtain ⟨hi2869, h⟩ := h
  refine v_lald (i := v1) (j := v1.toNatClampNeg) (pc' := 81) 43 rfl rfl ly_437 ln_437 (lay_lt ly_437 (by decide)) hi2869 rfl ?_
  obtain ⟨hi2870, h⟩ := h
  refine v_last (i := (((241 : Int32) * (I 436 6)) + v1)) (j := (((241 : Int32) * (I 436 6)) + v1).toNatClampNeg) (pc' := 82) 44 rfl rfl ly_440 ln_440 (lay_lt ly_440 (by decide)) hi2870 rfl ?_
  refine nm_N (e := (up2 L 440 ((((241 : Int32) * (I 436 6)) + v1).toNatClampNeg) (L 437 (v1.toNatClampNeg)))) (fun L2871 hL2871 => ?_)
  replace h := h L2871 hL2871
  refine v_iinc (v := (v1 + 1)) (ls' := [(1, .int (v1 + 1)), (0, .ref 436)]) (pc' := 85) 45 1 rfl rfl rfl rfl (by decide) rfl ?_
  refine v_goto (tgt := 54) 46 rfl (by decide) ?_
  refine V.sub [1, 0] rfl ?_
  exact hR54 (v1 + 1) L2871 h
theorem l_X9_records_54 {G : GT} {b d t : Nat} (I : TI)  (Q : TI → TL → Prop)  : ∀ (n9 : Nat) (v1 : Int32) (L : TL), L_X9_records_54 I Q n9 v1 L → V G Y_X9_records 54 [(0, .ref 436), (1, .int v1)] [] (I, L, RT b d t, 457) 0 0 (fun v9 u9 => ∃ (I9 : TI) (L9 : TL), v9 = none ∧ u9 = (I9, L9, RT b d t, 457) ∧ Q I9 L9) (fun _ _ => False)
  | 0, _, _, h => h.elim
  | n9 + 1, v1, L, h => d_X9_records_54 I Q _ (l_X9_records_54 I Q n9) v1 L h
set_option maxHeartbeats 4000000 in
set_option maxRecDepth 100000 in
theorem b_X9_records_52 {G : GT} {b d t : Nat} (I : TI) (L : TL)  (Q : TI → TL → Prop)  (h : B_X9_records_52 I L Q) : V G Y_X9_records 52 [(0, .ref 436)] [] (I, L, RT b d t, 457) 0 0 (fun v9 u9 => ∃ (I9 : TI) (L9 : TL), v9 = none ∧ u9 = (I9, L9, RT b d t, 457) ∧ Q I9 L9) (fun _ _ => False) := by
  unfold B_X9_records_52 at h
  refine v_iconst (v := 0) (pc' := 53) 27 rfl rfl (by decide) ?_
  refine v_istore_n (ls' := [(1, .int 0), (0, .ref 436)]) (pc' := 54) 28 rfl rfl rfl (by decide) rfl ?_
  refine V.sub [1, 0] rfl ?_
  obtain ⟨n2872, h⟩ := h
  exact l_X9_records_54 I Q n2872 (0 : Int32) L h
set_option maxHeartbeats 4000000 in
set_option maxRecDepth 100000 in
theorem d_X9_records_13 {G : GT} {b d t : Nat} (I : TI)  (Q : TI → TL → Prop) (R13 : Int32 → TL → Prop)  (hR13 : ∀ (v1 : Int32) (L : TL), R13 v1 L → V G Y_X9_records 13 [(0, .ref 436), (1, .int v1)] [] (I, L, RT b d t, 457) 0 0 (fun v9 u9 => ∃ (I9 : TI) (L9 : TL), v9 = none ∧ u9 = (I9, L9, RT b d t, 457) ∧ Q I9 L9) (fun _ _ => False)) (v1 : Int32) (L : TL)  (h : D_X9_records_13 I Q R13 v1 L) : V G Y_X9_records 13 [(0, .ref 436), (1, .int v1)] [] (I, L, RT b d t, 457) 0 0 (fun v9 u9 => ∃ (I9 : TI) (L9 : TL), v9 = none ∧ u9 = (I9, L9, RT b d t, 457) ∧ Q I9 L9) (fun _ _ => False) := by
  unfold D_X9_records_13 at h
  refine v_iload_n (pc' := 14) 6 1 rfl rfl rfl rfl ?_
  refine v_sipush (v := 2410) (pc' := 17) 7 rfl rfl (by decide) ?_
  refine v_icmp_ge (tgt := 42) (pc' := 20) 8 rfl rfl (by decide) (fun hc => ?_) (fun hc => ?_)
  · replace h := h.1 hc
    refine v_aload_n (pc' := 43) 21 0 rfl rfl rfl rfl ?_
    refine v_dup (pc' := 44) 22 rfl rfl rfl ?_
    refine v_getI (pc' := 47) 23 rfl rfl pf_X9_290 ly_436 (lay_lt ly_436 (by decide)) ?_
    refine v_iconst (v := 1) (pc' := 48) 24 rfl rfl (by decide) ?_
    refine v_isub (pc' := 49) 25 rfl rfl ?_
    refine v_putI (pc' := 52) 26 rfl rfl pf_X9_290 (fun q => absurd q (by decide)) ly_436 (lay_lt ly_436 (by decide)) ?_
    refine V.sub [0] rfl ?_
    exact b_X9_records_52 (up2 I 436 6 ((I 436 6) - 1)) L Q h
  replace h := h.2 hc
  refine v_aload_n (pc' := 21) 9 0 rfl rfl rfl rfl ?_
  refine v_getR (t := 440) (pc' := 24) 10 rfl rfl pf_X9_19 ly_436 (lay_lt ly_436 (by decide)) rt_436_4 ?_
  refine v_iload_n (pc' := 25) 11 1 rfl rfl rfl rfl ?_
  refine v_sipush (v := 241) (pc' := 28) 12 rfl rfl (by decide) ?_
  refine v_isub (pc' := 29) 13 rfl rfl ?_
  refine v_aload_n (pc' := 30) 14 0 rfl rfl rfl rfl ?_
  refine v_getR (t := 440) (pc' := 33) 15 rfl rfl pf_X9_19 ly_436 (lay_lt ly_436 (by decide)) rt_436_4 ?_
  refine v_iload_n (pc' := 34) 16 1 rfl rfl rfl rfl ?_
  obtain ⟨hi2873, h⟩ := h
  refine v_lald (i := v1) (j := v1.toNatClampNeg) (pc' := 35) 17 rfl rfl ly_440 ln_440 (lay_lt ly_440 (by decide)) hi2873 rfl ?_
  obtain ⟨hi2874, h⟩ := h
  refine v_last (i := (v1 - 241)) (j := (v1 - 241).toNatClampNeg) (pc' := 36) 18 rfl rfl ly_440 ln_440 (lay_lt ly_440 (by decide)) hi2874 rfl ?_
  refine nm_N (e := (up2 L 440 ((v1 - 241).toNatClampNeg) (L 440 (v1.toNatClampNeg)))) (fun L2875 hL2875 => ?_)
  replace h := h L2875 hL2875
  refine v_iinc (v := (v1 + 1)) (ls' := [(1, .int (v1 + 1)), (0, .ref 436)]) (pc' := 39) 19 1 rfl rfl rfl rfl (by decide) rfl ?_
  refine v_goto (tgt := 13) 20 rfl (by decide) ?_
  refine V.sub [1, 0] rfl ?_
  exact hR13 (v1 + 1) L2875 h
theorem l_X9_records_13 {G : GT} {b d t : Nat} (I : TI)  (Q : TI → TL → Prop)  : ∀ (n9 : Nat) (v1 : Int32) (L : TL), L_X9_records_13 I Q n9 v1 L → V G Y_X9_records 13 [(0, .ref 436), (1, .int v1)] [] (I, L, RT b d t, 457) 0 0 (fun v9 u9 => ∃ (I9 : TI) (L9 : TL), v9 = none ∧ u9 = (I9, L9, RT b d t, 457) ∧ Q I9 L9) (fun _ _ => False)
  | 0, _, _, h => h.elim
  | n9 + 1, v1, L, h => d_X9_records_13 I Q _ (l_X9_records_13 I Q n9) v1 L h
set_option maxHeartbeats 4000000 in
set_option maxRecDepth 100000 in
theorem ok_X9_records {G : GT} {b d t : Nat} (I : TI) (L : TL)  {Q : TI → TL → Prop} (h : W_X9_records I L Q) : MW G Y_X9_records [.ref 436] (I, L, RT b d t, 457) (fun v9 u9 => ∃ (I9 : TI) (L9 : TL), v9 = none ∧ u9 = (I9, L9, RT b d t, 457) ∧ Q I9 L9) (fun _ _ => False) := by
  unfold W_X9_records at h
  refine MW.intro rfl (by decide) is_X9_records (Nat.le_of_ble_eq_true rfl) ?_
  show V G Y_X9_records 0 [(0, .ref 436)] [] (I, L, RT b d t, 457) 0 0 _ _
  refine v_aload_n (pc' := 1) 0 0 rfl rfl rfl rfl ?_
  refine v_getI (pc' := 4) 1 rfl rfl pf_X9_290 ly_436 (lay_lt ly_436 (by decide)) ?_
  refine v_bipush (v := 10) (pc' := 6) 2 rfl rfl (by decide) ?_
  refine v_icmp_ne (tgt := 52) (pc' := 9) 3 rfl rfl (by decide) (fun hc => ?_) (fun hc => ?_)
  · replace h := h.1 hc
    exact b_X9_records_52 I L Q h
  replace h := h.2 hc
  refine v_sipush (v := 241) (pc' := 12) 4 rfl rfl (by decide) ?_
  refine v_istore_n (ls' := [(1, .int 241), (0, .ref 436)]) (pc' := 13) 5 rfl rfl rfl (by decide) rfl ?_
  refine V.sub [1, 0] rfl ?_
  obtain ⟨n2876, h⟩ := h
  exact l_X9_records_13 I Q n2876 (241 : Int32) L h
set_option maxHeartbeats 4000000 in
set_option maxRecDepth 100000 in
theorem b_X9_isDisputed_63 {G : GT} {b d t : Nat} (v1 : Int32) (v2 : Int32) (v3 : Int32) (v4 : Int32) (I : TI) (L : TL)  (Q : Int32 → Prop) (R3 : Int32 → Prop) (hR3 : ∀ (v4 : Int32), R3 v4 → V G Y_X9_isDisputed 3 [(0, .ref 436), (1, .int v1), (2, .int v2), (3, .int v3), (4, .int v4)] [] (I, L, RT b d t, 457) 0 0 (fun v9 u9 => ∃ (r9 : Int32), v9 = some (.int r9) ∧ u9 = (I, L, RT b d t, 457) ∧ Q r9) (fun _ _ => False)) (h : B_X9_isDisputed_63 v1 v2 v3 v4 I L Q R3) : V G Y_X9_isDisputed 63 [(0, .ref 436), (1, .int v1), (2, .int v2), (3, .int v3), (4, .int v4)] [] (I, L, RT b d t, 457) 0 0 (fun v9 u9 => ∃ (r9 : Int32), v9 = some (.int r9) ∧ u9 = (I, L, RT b d t, 457) ∧ Q r9) (fun _ _ => False) := by
  unfold B_X9_isDisputed_63 at h
  refine v_iinc (v := (v4 + 1)) (ls' := [(4, .int (v4 + 1)), (0, .ref 436), (1, .int v1), (2, .int v2), (3, .int v3)]) (pc' := 66) 36 4 rfl rfl rfl rfl (by decide) rfl ?_
  refine v_goto (tgt := 3) 37 rfl (by decide) ?_
  refine V.sub [1, 2, 3, 4, 0] rfl ?_
  exact hR3 (v4 + 1) h
set_option maxHeartbeats 4000000 in
set_option maxRecDepth 100000 in
theorem d_X9_isDisputed_3 {G : GT} {b d t : Nat} (v1 : Int32) (v2 : Int32) (v3 : Int32) (I : TI) (L : TL)  (Q : Int32 → Prop) (R3 : Int32 → Prop)  (hR3 : ∀ (v4 : Int32), R3 v4 → V G Y_X9_isDisputed 3 [(0, .ref 436), (1, .int v1), (2, .int v2), (3, .int v3), (4, .int v4)] [] (I, L, RT b d t, 457) 0 0 (fun v9 u9 => ∃ (r9 : Int32), v9 = some (.int r9) ∧ u9 = (I, L, RT b d t, 457) ∧ Q r9) (fun _ _ => False)) (v4 : Int32)  (h : D_X9_isDisputed_3 v1 v2 v3 I L Q R3 v4) : V G Y_X9_isDisputed 3 [(0, .ref 436), (1, .int v1), (2, .int v2), (3, .int v3), (4, .int v4)] [] (I, L, RT b d t, 457) 0 0 (fun v9 u9 => ∃ (r9 : Int32), v9 = some (.int r9) ∧ u9 = (I, L, RT b d t, 457) ∧ Q r9) (fun _ _ => False) := by
  unfold D_X9_isDisputed_3 at h
  refine v_iload (pc' := 5) 2 4 rfl rfl rfl ?_
  refine v_i2l (pc' := 6) 3 rfl rfl ?_
  refine v_aload_n (pc' := 7) 4 0 rfl rfl rfl rfl ?_
  refine v_getR (t := 437) (pc' := 10) 5 rfl rfl pf_X9_7 ly_436 (lay_lt ly_436 (by decide)) rt_436_1 ?_
  refine v_iconst (v := 4) (pc' := 11) 6 rfl rfl (by decide) ?_
  refine v_lald (i := 4) (j := 4) (pc' := 12) 7 rfl rfl ly_437 ln_437 (lay_lt ly_437 (by decide)) (vp_lit (by decide)) (by decide) ?_
  refine v_lc_ge (tgt := 69) (pc' := 16) 8 9 rfl rfl rfl (by decide) (fun hc => ?_) (fun hc => ?_)
  · replace h := h.1 hc
    refine v_iconst (v := 0) (pc' := 70) 38 rfl rfl (by decide) ?_
    exact v_bret 39 rfl rfl (by decide) (by decide) (by decide) ⟨_, rfl, rfl, h⟩
  replace h := h.2 hc
  refine v_aload_n (pc' := 17) 10 0 rfl rfl rfl rfl ?_
  refine v_iload (pc' := 19) 11 4 rfl rfl rfl ?_
  refine v_iconst (v := 0) (pc' := 20) 12 rfl rfl (by decide) ?_
  refine v_cV (Y2 := Y_X9_of) (As := [.int v4, .int 0]) (b := 436) (pc' := 23) (c1 := 0) (s1 := 0) 13 rfl rfl mf_X9_of rfl rfl ml_X9_346 mi_X9_of se_X9_of (ci := 8) rfl ly_436 (lay_lt ly_436 (by decide)) rfl (Nat.le_of_ble_eq_true rfl) ⟨Nat.le_of_ble_eq_true rfl, Nat.le_of_ble_eq_true rfl⟩ rfl rfl (ok_X9_of v4 (0 : Int32) I L h) ?_ ?_
  · intro e9 u9 hx9
    exact hx9.elim
  intro v9 u9 hv9
  obtain ⟨r2885, rfl, rfl, h⟩ := hv9
  refine ⟨fun q => absurd q (Nat.lt_irrefl _), ?_⟩
  show V G Y_X9_isDisputed 23 _ (.int r2885 :: _) _ _ _ _ _
  refine v_iload_n (pc' := 24) 14 1 rfl rfl rfl rfl ?_
  refine v_icmp_ne (tgt := 63) (pc' := 27) 15 rfl rfl (by decide) (fun hc => ?_) (fun hc => ?_)
  · replace h := h.1 hc
    exact b_X9_isDisputed_63 v1 v2 v3 v4 I L Q R3 hR3 h
  replace h := h.2 hc
  refine v_aload_n (pc' := 28) 16 0 rfl rfl rfl rfl ?_
  refine v_iload (pc' := 30) 17 4 rfl rfl rfl ?_
  refine v_bipush (v := 6) (pc' := 32) 18 rfl rfl (by decide) ?_
  refine v_cV (Y2 := Y_X9_of) (As := [.int v4, .int 6]) (b := 436) (pc' := 35) (c1 := 0) (s1 := 0) 19 rfl rfl mf_X9_of rfl rfl ml_X9_346 mi_X9_of se_X9_of (ci := 8) rfl ly_436 (lay_lt ly_436 (by decide)) rfl (Nat.le_of_ble_eq_true rfl) ⟨Nat.le_of_ble_eq_true rfl, Nat.le_of_ble_eq_true rfl⟩ rfl rfl (ok_X9_of v4 (6 : Int32) I L h) ?_ ?_
  · intro e9 u9 hx9
    exact hx9.elim
  intro v9 u9 hv9
  obtain ⟨r2886, rfl, rfl, h⟩ := hv9
  refine ⟨fun q => absurd q (Nat.lt_irrefl _), ?_⟩
  show V G Y_X9_isDisputed 35 _ (.int r2886 :: _) _ _ _ _ _
  refine v_iconst (v := 1) (pc' := 36) 20 rfl rfl (by decide) ?_
  refine v_icmp_gt (tgt := 63) (pc' := 39) 21 rfl rfl (by decide) (fun hc => ?_) (fun hc => ?_)
  · replace h := h.1 hc
    exact b_X9_isDisputed_63 v1 v2 v3 v4 I L Q R3 hR3 h
  replace h := h.2 hc
  refine v_aload_n (pc' := 40) 22 0 rfl rfl rfl rfl ?_
  refine v_iload (pc' := 42) 23 4 rfl rfl rfl ?_
  refine v_iconst (v := 1) (pc' := 43) 24 rfl rfl (by decide) ?_
  refine v_cV (Y2 := Y_X9_of) (As := [.int v4, .int 1]) (b := 436) (pc' := 46) (c1 := 0) (s1 := 0) 25 rfl rfl mf_X9_of rfl rfl ml_X9_346 mi_X9_of se_X9_of (ci := 8) rfl ly_436 (lay_lt ly_436 (by decide)) rfl (Nat.le_of_ble_eq_true rfl) ⟨Nat.le_of_ble_eq_true rfl, Nat.le_of_ble_eq_true rfl⟩ rfl rfl (ok_X9_of v4 (1 : Int32) I L h) ?_ ?_
  · intro e9 u9 hx9
    exact hx9.elim
  intro v9 u9 hv9
  obtain ⟨r2887, rfl, rfl, h⟩ := hv9
  refine ⟨fun q => absurd q (Nat.lt_irrefl _), ?_⟩
  show V G Y_X9_isDisputed 46 _ (.int r2887 :: _) _ _ _ _ _
  refine v_iload_n (pc' := 47) 26 3 rfl rfl rfl rfl ?_
  refine v_icmp_gt (tgt := 63) (pc' := 50) 27 rfl rfl (by decide) (fun hc => ?_) (fun hc => ?_)
  · replace h := h.1 hc
    exact b_X9_isDisputed_63 v1 v2 v3 v4 I L Q R3 hR3 h
  replace h := h.2 hc
  refine v_aload_n (pc' := 51) 28 0 rfl rfl rfl rfl ?_
  refine v_iload (pc' := 53) 29 4 rfl rfl rfl ?_
  refine v_iconst (v := 2) (pc' := 54) 30 rfl rfl (by decide) ?_
  refine v_cV (Y2 := Y_X9_of) (As := [.int v4, .int 2]) (b := 436) (pc' := 57) (c1 := 0) (s1 := 0) 31 rfl rfl mf_X9_of rfl rfl ml_X9_346 mi_X9_of se_X9_of (ci := 8) rfl ly_436 (lay_lt ly_436 (by decide)) rfl (Nat.le_of_ble_eq_true rfl) ⟨Nat.le_of_ble_eq_true rfl, Nat.le_of_ble_eq_true rfl⟩ rfl rfl (ok_X9_of v4 (2 : Int32) I L h) ?_ ?_
  · intro e9 u9 hx9
    exact hx9.elim
  intro v9 u9 hv9
  obtain ⟨r2888, rfl, rfl, h⟩ := hv9
  refine ⟨fun q => absurd q (Nat.lt_irrefl _), ?_⟩
  show V G Y_X9_isDisputed 57 _ (.int r2888 :: _) _ _ _ _ _
  refine v_iload_n (pc' := 58) 32 2 rfl rfl rfl rfl ?_
  refine v_icmp_lt (tgt := 63) (pc' := 61) 33 rfl rfl (by decide) (fun hc => ?_) (fun hc => ?_)
  · replace h := h.1 hc
    exact b_X9_isDisputed_63 v1 v2 v3 v4 I L Q R3 hR3 h
  replace h := h.2 hc
  refine v_iconst (v := 1) (pc' := 62) 34 rfl rfl (by decide) ?_
  exact v_bret 35 rfl rfl (by decide) (by decide) (by decide) ⟨_, rfl, rfl, h⟩
theorem l_X9_isDisputed_3 {G : GT} {b d t : Nat} (v1 : Int32) (v2 : Int32) (v3 : Int32) (I : TI) (L : TL)  (Q : Int32 → Prop)  : ∀ (n9 : Nat) (v4 : Int32), L_X9_isDisputed_3 v1 v2 v3 I L Q n9 v4 → V G Y_X9_isDisputed 3 [(0, .ref 436), (1, .int v1), (2, .int v2), (3, .int v3), (4, .int v4)] [] (I, L, RT b d t, 457) 0 0 (fun v9 u9 => ∃ (r9 : Int32), v9 = some (.int r9) ∧ u9 = (I, L, RT b d t, 457) ∧ Q r9) (fun _ _ => False)
  | 0, _, h => h.elim
  | n9 + 1, v4, h => d_X9_isDisputed_3 v1 v2 v3 I L Q _ (l_X9_isDisputed_3 v1 v2 v3 I L Q n9) v4 h
set_option maxHeartbeats 4000000 in
set_option maxRecDepth 100000 in
theorem ok_X9_isDisputed {G : GT} {b d t : Nat} (p1 : Int32) (p2 : Int32) (p3 : Int32) (I : TI) (L : TL)  {Q : Int32 → Prop} (h : W_X9_isDisputed p1 p2 p3 I L Q) : MW G Y_X9_isDisputed [.ref 436, .int p1, .int p2, .int p3] (I, L, RT b d t, 457) (fun v9 u9 => ∃ (r9 : Int32), v9 = some (.int r9) ∧ u9 = (I, L, RT b d t, 457) ∧ Q r9) (fun _ _ => False) := by
  unfold W_X9_isDisputed at h
  refine MW.intro rfl (by decide) is_X9_isDisputed (Nat.le_of_ble_eq_true rfl) ?_
  show V G Y_X9_isDisputed 0 [(0, .ref 436), (1, .int p1), (2, .int p2), (3, .int p3)] [] (I, L, RT b d t, 457) 0 0 _ _
  refine v_iconst (v := 0) (pc' := 1) 0 rfl rfl (by decide) ?_
  refine v_istore (ls' := [(4, .int 0), (0, .ref 436), (1, .int p1), (2, .int p2), (3, .int p3)]) (pc' := 3) 1 rfl rfl (by decide) rfl ?_
  refine V.sub [1, 2, 3, 4, 0] rfl ?_
  obtain ⟨n2889, h⟩ := h
  exact l_X9_isDisputed_3 p1 p2 p3 I L Q n2889 (0 : Int32) h
set_option maxHeartbeats 4000000 in
set_option maxRecDepth 100000 in
theorem b_X9_open_146 {G : GT} {b d t : Nat} (v5 : Int32) (s1 : Int32) (s2 : Int32) (s3 : Int32) (I : TI) (L : TL)  (Q : Int32 → TI → TL → Prop)  (h : B_X9_open_146 v5 s1 s2 s3 I L Q) : V G Y_X9_open 146 [(0, .ref 436), (5, .int v5)] [.int s3, .int s2, .int s1, .ref 436] (I, L, RT b d t, 457) 0 0 (fun v9 u9 => ∃ (r9 : Int32) (I9 : TI) (L9 : TL), v9 = some (.int r9) ∧ u9 = (I9, L9, RT b d t, 457) ∧ Q r9 I9 L9) (fun _ _ => False) := by
  unfold B_X9_open_146 at h
  refine v_cV (Y2 := Y_X9_sets) (As := [.int s1, .int s2, .int s3]) (b := 436) (pc' := 149) (c1 := 0) (s1 := 0) 84 rfl rfl mf_X9_sets rfl rfl ml_X9_378 mi_X9_sets se_X9_sets (ci := 8) rfl ly_436 (lay_lt ly_436 (by decide)) rfl (Nat.le_of_ble_eq_true rfl) ⟨Nat.le_of_ble_eq_true rfl, Nat.le_of_ble_eq_true rfl⟩ rfl rfl (ok_X9_sets s1 s2 s3 I L h) ?_ ?_
  · intro e9 u9 hx9
    exact hx9.elim
  intro v9 u9 hv9
  obtain ⟨L2928, rfl, rfl, h⟩ := hv9
  refine ⟨fun q => absurd q (Nat.lt_irrefl _), ?_⟩
  show V G Y_X9_open 149 _ _ _ _ _ _ _
  refine v_aload_n (pc' := 150) 85 0 rfl rfl rfl rfl ?_
  refine v_iload (pc' := 152) 86 1 rfl rfl rfl ?_
  refine v_bipush (v := 6) (pc' := 154) 87 rfl rfl (by decide) ?_
  refine v_iconst (v := 0) (pc' := 155) 88 rfl rfl (by decide) ?_
  refine v_cV (Y2 := Y_X9_sets) (As := [.int v5, .int 6, .int 0]) (b := 436) (pc' := 158) (c1 := 0) (s1 := 0) 89 rfl rfl mf_X9_sets rfl rfl ml_X9_378 mi_X9_sets se_X9_sets (ci := 8) rfl ly_436 (lay_lt ly_436 (by decide)) rfl (Nat.le_of_ble_eq_true rfl) ⟨Nat.le_of_ble_eq_true rfl, Nat.le_of_ble_eq_true rfl⟩ rfl rfl (ok_X9_sets v5 (6 : Int32) (0 : Int32) I L2928 h) ?_ ?_
  · intro e9 u9 hx9
    exact hx9.elim
  intro v9 u9 hv9
  obtain ⟨L2929, rfl, rfl, h⟩ := hv9
  refine ⟨fun q => absurd q (Nat.lt_irrefl _), ?_⟩
  show V G Y_X9_open 158 _ _ _ _ _ _ _
  refine v_aload_n (pc' := 159) 90 0 rfl rfl rfl rfl ?_
  refine v_iload (pc' := 161) 91 1 rfl rfl rfl ?_
  refine v_bipush (v := 7) (pc' := 163) 92 rfl rfl (by decide) ?_
  refine v_iconst (v := -1) (pc' := 164) 93 rfl rfl (by decide) ?_
  refine v_cV (Y2 := Y_X9_sets) (As := [.int v5, .int 7, .int (-1)]) (b := 436) (pc' := 167) (c1 := 0) (s1 := 0) 94 rfl rfl mf_X9_sets rfl rfl ml_X9_378 mi_X9_sets se_X9_sets (ci := 8) rfl ly_436 (lay_lt ly_436 (by decide)) rfl (Nat.le_of_ble_eq_true rfl) ⟨Nat.le_of_ble_eq_true rfl, Nat.le_of_ble_eq_true rfl⟩ rfl rfl (ok_X9_sets v5 (7 : Int32) ((-1) : Int32) I L2929 h) ?_ ?_
  · intro e9 u9 hx9
    exact hx9.elim
  intro v9 u9 hv9
  obtain ⟨L2930, rfl, rfl, h⟩ := hv9
  refine ⟨fun q => absurd q (Nat.lt_irrefl _), ?_⟩
  show V G Y_X9_open 167 _ _ _ _ _ _ _
  refine v_aload_n (pc' := 168) 95 0 rfl rfl rfl rfl ?_
  refine v_getR (t := 437) (pc' := 171) 96 rfl rfl pf_X9_7 ly_436 (lay_lt ly_436 (by decide)) rt_436_1 ?_
  refine v_iconst (v := 4) (pc' := 172) 97 rfl rfl (by decide) ?_
  refine v_dup2 (pc' := 173) 98 rfl rfl rfl rfl ?_
  refine v_lald (i := 4) (j := 4) (pc' := 174) 99 rfl rfl ly_437 ln_437 (lay_lt ly_437 (by decide)) (vp_lit (by decide)) (by decide) ?_
  refine v_lconst (v := 1) (pc' := 175) 100 rfl rfl (by decide) ?_
  refine v_ladd (pc' := 176) 101 rfl rfl ?_
  refine v_last (i := 4) (j := 4) (pc' := 177) 102 rfl rfl ly_437 ln_437 (lay_lt ly_437 (by decide)) (vp_lit (by decide)) (by decide) ?_
  refine v_iload (pc' := 179) 103 1 rfl rfl rfl ?_
  exact v_iret 104 rfl rfl (by decide) (by decide) ⟨_, _, _, rfl, rfl, h⟩
set_option maxHeartbeats 4000000 in
set_option maxRecDepth 100000 in
theorem ok_X9_open {G : GT} {b d t : Nat} (p1 : Int32) (p2 : Int32) (p3 : Int32) (p4 : Int32) (I : TI) (L : TL)  {Q : Int32 → TI → TL → Prop} (h : W_X9_open p1 p2 p3 p4 I L Q) : MW G Y_X9_open [.ref 436, .int p1, .int p2, .int p3, .int p4] (I, L, RT b d t, 457) (fun v9 u9 => ∃ (r9 : Int32) (I9 : TI) (L9 : TL), v9 = some (.int r9) ∧ u9 = (I9, L9, RT b d t, 457) ∧ Q r9 I9 L9) (fun _ _ => False) := by
  unfold W_X9_open at h
  refine MW.intro rfl (by decide) is_X9_open (Nat.le_of_ble_eq_true rfl) ?_
  show V G Y_X9_open 0 [(0, .ref 436), (1, .int p1), (2, .int p2), (3, .int p3), (4, .int p4)] [] (I, L, RT b d t, 457) 0 0 _ _
  refine v_aload_n (pc' := 1) 0 0 rfl rfl rfl rfl ?_
  refine v_iload_n (pc' := 2) 1 2 rfl rfl rfl rfl ?_
  refine v_iload_n (pc' := 3) 2 3 rfl rfl rfl rfl ?_
  refine v_cV (Y2 := Y_X9_noPulse) (As := [.int p2, .int p3]) (b := 436) (pc' := 6) (c1 := 0) (s1 := 0) 3 rfl rfl mf_X9_noPulse rfl rfl ml_X9_334 mi_X9_noPulse se_X9_noPulse (ci := 8) rfl ly_436 (lay_lt ly_436 (by decide)) rfl (Nat.le_of_ble_eq_true rfl) ⟨Nat.le_of_ble_eq_true rfl, Nat.le_of_ble_eq_true rfl⟩ rfl rfl (ok_X9_noPulse p2 p3 I L h) ?_ ?_
  · intro e9 u9 hx9
    exact hx9.elim
  intro v9 u9 hv9
  obtain ⟨r2931, I2932, L2933, rfl, rfl, h⟩ := hv9
  refine ⟨fun q => absurd q (Nat.lt_irrefl _), ?_⟩
  show V G Y_X9_open 6 _ (.int r2931 :: _) _ _ _ _ _
  refine v_if_ne (tgt := 24) (pc' := 9) 4 rfl rfl (by decide) (fun hc => ?_) (fun hc => ?_)
  · replace h := h.1 hc
    refine v_iconst (v := 0) (pc' := 25) 14 rfl rfl (by decide) ?_
    exact v_iret 15 rfl rfl (by decide) (by decide) ⟨_, _, _, rfl, rfl, h⟩
  replace h := h.2 hc
  refine v_aload_n (pc' := 10) 5 0 rfl rfl rfl rfl ?_
  refine v_iload_n (pc' := 11) 6 1 rfl rfl rfl rfl ?_
  refine v_i2l (pc' := 12) 7 rfl rfl ?_
  refine v_lconst (v := 0) (pc' := 13) 8 rfl rfl (by decide) ?_
  refine v_lconst (v := 1) (pc' := 14) 9 rfl rfl (by decide) ?_
  refine v_cS (Y2 := Y_X9_in) (As := [.long (p1.toInt64), .long 0, .long 1]) (pc' := 17) (c1 := 0) (s1 := 0) 10 rfl rfl mf_X9_in rfl rfl ml_X9_232 ms_X9_in rfl (Nat.le_of_ble_eq_true rfl) ⟨Nat.le_of_ble_eq_true rfl, Nat.le_of_ble_eq_true rfl⟩ rfl rfl (ok_X9_in (p1.toInt64) (0 : Int64) (1 : Int64) I2932 L2933 h) ?_ ?_
  · intro e9 u9 hx9
    exact hx9.elim
  intro v9 u9 hv9
  obtain ⟨r2934, rfl, rfl, h⟩ := hv9
  refine ⟨fun q => absurd q (Nat.lt_irrefl _), ?_⟩
  show V G Y_X9_open 17 _ (.int r2934 :: _) _ _ _ _ _
  refine v_iconst (v := 2) (pc' := 18) 11 rfl rfl (by decide) ?_
  refine v_cV (Y2 := Y_X9_fails) (As := [.int r2934, .int 2]) (b := 436) (pc' := 21) (c1 := 0) (s1 := 0) 12 rfl rfl mf_X9_fails rfl rfl ml_X9_280 mi_X9_fails se_X9_fails (ci := 8) rfl ly_436 (lay_lt ly_436 (by decide)) rfl (Nat.le_of_ble_eq_true rfl) ⟨Nat.le_of_ble_eq_true rfl, Nat.le_of_ble_eq_true rfl⟩ rfl rfl (ok_X9_fails r2934 (2 : Int32) I2932 L2933 h) ?_ ?_
  · intro e9 u9 hx9
    exact hx9.elim
  intro v9 u9 hv9
  obtain ⟨r2935, I2936, rfl, rfl, h⟩ := hv9
  refine ⟨fun q => absurd q (Nat.lt_irrefl _), ?_⟩
  show V G Y_X9_open 21 _ (.int r2935 :: _) _ _ _ _ _
  refine v_if_eq (tgt := 26) (pc' := 24) 13 rfl rfl (by decide) (fun hc => ?_) (fun hc => ?_)
  · replace h := h.1 hc
    refine v_aload_n (pc' := 27) 16 0 rfl rfl rfl rfl ?_
    refine v_iload_n (pc' := 28) 17 2 rfl rfl rfl rfl ?_
    refine v_aload_n (pc' := 29) 18 0 rfl rfl rfl rfl ?_
    refine v_getI (pc' := 32) 19 rfl rfl pf_X9_151 ly_436 (lay_lt ly_436 (by decide)) ?_
    refine v_aload_n (pc' := 33) 20 0 rfl rfl rfl rfl ?_
    refine v_getI (pc' := 36) 21 rfl rfl pf_X9_154 ly_436 (lay_lt ly_436 (by decide)) ?_
    refine v_cV (Y2 := Y_X9_isDisputed) (As := [.int p2, .int (I2936 436 18), .int (I2936 436 19)]) (b := 436) (pc' := 39) (c1 := 0) (s1 := 0) 22 rfl rfl mf_X9_isDisputed rfl rfl ml_X9_370 mi_X9_isDisputed se_X9_isDisputed (ci := 8) rfl ly_436 (lay_lt ly_436 (by decide)) rfl (Nat.le_of_ble_eq_true rfl) ⟨Nat.le_of_ble_eq_true rfl, Nat.le_of_ble_eq_true rfl⟩ rfl rfl (ok_X9_isDisputed p2 (I2936 436 18) (I2936 436 19) I2936 L2933 h) ?_ ?_
    · intro e9 u9 hx9
      exact hx9.elim
    intro v9 u9 hv9
    obtain ⟨r2937, rfl, rfl, h⟩ := hv9
    refine ⟨fun q => absurd q (Nat.lt_irrefl _), ?_⟩
    show V G Y_X9_open 39 _ (.int r2937 :: _) _ _ _ _ _
    refine v_if_eq (tgt := 45) (pc' := 42) 23 rfl rfl (by decide) (fun hc => ?_) (fun hc => ?_)
    · replace h := h.1 hc
      refine v_aload_n (pc' := 46) 26 0 rfl rfl rfl rfl ?_
      refine v_getR (t := 437) (pc' := 49) 27 rfl rfl pf_X9_7 ly_436 (lay_lt ly_436 (by decide)) rt_436_1 ?_
      refine v_iconst (v := 4) (pc' := 50) 28 rfl rfl (by decide) ?_
      refine v_lald (i := 4) (j := 4) (pc' := 51) 29 rfl rfl ly_437 ln_437 (lay_lt ly_437 (by decide)) (vp_lit (by decide)) (by decide) ?_
      refine v_ldc2 (v := 20) (pc' := 54) 30 rfl rfl kl_X9_373 ?_
      refine v_lc_ne (tgt := 61) (pc' := 58) 31 32 rfl rfl rfl (by decide) (fun hc => ?_) (fun hc => ?_)
      · replace h := h.1 hc
        refine v_aload_n (pc' := 62) 35 0 rfl rfl rfl rfl ?_
        refine v_cV (Y2 := Y_X9_records) (As := []) (b := 436) (pc' := 65) (c1 := 0) (s1 := 0) 36 rfl rfl mf_X9_records rfl rfl ml_X9_375 mi_X9_records se_X9_records (ci := 8) rfl ly_436 (lay_lt ly_436 (by decide)) rfl (Nat.le_of_ble_eq_true rfl) ⟨Nat.le_of_ble_eq_true rfl, Nat.le_of_ble_eq_true rfl⟩ rfl rfl (ok_X9_records I2936 L2933 h) ?_ ?_
        · intro e9 u9 hx9
          exact hx9.elim
        intro v9 u9 hv9
        obtain ⟨I2938, L2939, rfl, rfl, h⟩ := hv9
        refine ⟨fun q => absurd q (Nat.lt_irrefl _), ?_⟩
        show V G Y_X9_open 65 _ _ _ _ _ _ _
        refine v_aload_n (pc' := 66) 37 0 rfl rfl rfl rfl ?_
        refine v_getR (t := 437) (pc' := 69) 38 rfl rfl pf_X9_7 ly_436 (lay_lt ly_436 (by decide)) rt_436_1 ?_
        refine v_iconst (v := 4) (pc' := 70) 39 rfl rfl (by decide) ?_
        refine v_lald (i := 4) (j := 4) (pc' := 71) 40 rfl rfl ly_437 ln_437 (lay_lt ly_437 (by decide)) (vp_lit (by decide)) (by decide) ?_
        refine v_l2i (pc' := 72) 41 rfl rfl ?_
        refine v_istore (ls' := [(5, .int ((L2939 437 4).toInt32)), (0, .ref 436), (1, .int p1), (2, .int p2), (3, .int p3), (4, .int p4)]) (pc' := 74) 42 rfl rfl (by decide) rfl ?_
        refine v_aload_n (pc' := 75) 43 1 rfl rfl rfl rfl ?_
        refine v_iload (pc' := 77) 44 0 rfl rfl rfl ?_
        refine v_iconst (v := 0) (pc' := 78) 45 rfl rfl (by decide) ?_
        refine v_iload_n (pc' := 79) 46 3 rfl rfl rfl rfl ?_
        refine v_cV (Y2 := Y_X9_sets) (As := [.int ((L2939 437 4).toInt32), .int 0, .int p2]) (b := 436) (pc' := 82) (c1 := 0) (s1 := 0) 47 rfl rfl mf_X9_sets rfl rfl ml_X9_378 mi_X9_sets se_X9_sets (ci := 8) rfl ly_436 (lay_lt ly_436 (by decide)) rfl (Nat.le_of_ble_eq_true rfl) ⟨Nat.le_of_ble_eq_true rfl, Nat.le_of_ble_eq_true rfl⟩ rfl rfl (ok_X9_sets ((L2939 437 4).toInt32) (0 : Int32) p2 I2938 L2939 h) ?_ ?_
        · intro e9 u9 hx9
          exact hx9.elim
        intro v9 u9 hv9
        obtain ⟨L2940, rfl, rfl, h⟩ := hv9
        refine ⟨fun q => absurd q (Nat.lt_irrefl _), ?_⟩
        show V G Y_X9_open 82 _ _ _ _ _ _ _
        refine v_aload_n (pc' := 83) 48 1 rfl rfl rfl rfl ?_
        refine v_iload (pc' := 85) 49 0 rfl rfl rfl ?_
        refine v_iconst (v := 1) (pc' := 86) 50 rfl rfl (by decide) ?_
        refine v_aload_n (pc' := 87) 51 1 rfl rfl rfl rfl ?_
        refine v_getI (pc' := 90) 52 rfl rfl pf_X9_151 ly_436 (lay_lt ly_436 (by decide)) ?_
        refine v_cV (Y2 := Y_X9_sets) (As := [.int ((L2939 437 4).toInt32), .int 1, .int (I2938 436 18)]) (b := 436) (pc' := 93) (c1 := 0) (s1 := 0) 53 rfl rfl mf_X9_sets rfl rfl ml_X9_378 mi_X9_sets se_X9_sets (ci := 8) rfl ly_436 (lay_lt ly_436 (by decide)) rfl (Nat.le_of_ble_eq_true rfl) ⟨Nat.le_of_ble_eq_true rfl, Nat.le_of_ble_eq_true rfl⟩ rfl rfl (ok_X9_sets ((L2939 437 4).toInt32) (1 : Int32) (I2938 436 18) I2938 L2940 h) ?_ ?_
        · intro e9 u9 hx9
          exact hx9.elim
        intro v9 u9 hv9
        obtain ⟨L2941, rfl, rfl, h⟩ := hv9
        refine ⟨fun q => absurd q (Nat.lt_irrefl _), ?_⟩
        show V G Y_X9_open 93 _ _ _ _ _ _ _
        refine v_aload_n (pc' := 94) 54 1 rfl rfl rfl rfl ?_
        refine v_iload (pc' := 96) 55 0 rfl rfl rfl ?_
        refine v_iconst (v := 2) (pc' := 97) 56 rfl rfl (by decide) ?_
        refine v_aload_n (pc' := 98) 57 1 rfl rfl rfl rfl ?_
        refine v_getI (pc' := 101) 58 rfl rfl pf_X9_154 ly_436 (lay_lt ly_436 (by decide)) ?_
        refine v_cV (Y2 := Y_X9_sets) (As := [.int ((L2939 437 4).toInt32), .int 2, .int (I2938 436 19)]) (b := 436) (pc' := 104) (c1 := 0) (s1 := 0) 59 rfl rfl mf_X9_sets rfl rfl ml_X9_378 mi_X9_sets se_X9_sets (ci := 8) rfl ly_436 (lay_lt ly_436 (by decide)) rfl (Nat.le_of_ble_eq_true rfl) ⟨Nat.le_of_ble_eq_true rfl, Nat.le_of_ble_eq_true rfl⟩ rfl rfl (ok_X9_sets ((L2939 437 4).toInt32) (2 : Int32) (I2938 436 19) I2938 L2941 h) ?_ ?_
        · intro e9 u9 hx9
          exact hx9.elim
        intro v9 u9 hv9
        obtain ⟨L2942, rfl, rfl, h⟩ := hv9
        refine ⟨fun q => absurd q (Nat.lt_irrefl _), ?_⟩
        show V G Y_X9_open 104 _ _ _ _ _ _ _
        refine v_aload_n (pc' := 105) 60 1 rfl rfl rfl rfl ?_
        refine v_iload (pc' := 107) 61 0 rfl rfl rfl ?_
        refine v_iconst (v := 3) (pc' := 108) 62 rfl rfl (by decide) ?_
        refine v_aload_n (pc' := 109) 63 1 rfl rfl rfl rfl ?_
        refine v_getR (t := 444) (pc' := 112) 64 rfl rfl pf_X9_32 ly_436 (lay_lt ly_436 (by decide)) rt_436_15 ?_
        refine v_iload_n (pc' := 113) 65 3 rfl rfl rfl rfl ?_
        obtain ⟨hi2943, h⟩ := h
        refine v_lald (i := p2) (j := p2.toNatClampNeg) (pc' := 114) 66 rfl rfl ly_444 ln_444 (lay_lt ly_444 (by decide)) hi2943 rfl ?_
        refine v_aload_n (pc' := 115) 67 1 rfl rfl rfl rfl ?_
        refine v_getI (pc' := 118) 68 rfl rfl pf_X9_151 ly_436 (lay_lt ly_436 (by decide)) ?_
        refine v_cS (Y2 := Y_X9_bit) (As := [.long (L2942 444 (p2.toNatClampNeg)), .int (I2938 436 18)]) (pc' := 121) (c1 := 0) (s1 := 0) 69 rfl rfl mf_X9_bit rfl rfl ml_X9_113 ms_X9_bit rfl (Nat.le_of_ble_eq_true rfl) ⟨Nat.le_of_ble_eq_true rfl, Nat.le_of_ble_eq_true rfl⟩ rfl rfl (ok_X9_bit (L2942 444 (p2.toNatClampNeg)) (I2938 436 18) I2938 L2942 h) ?_ ?_
        · intro e9 u9 hx9
          exact hx9.elim
        intro v9 u9 hv9
        obtain ⟨r2944, rfl, rfl, h⟩ := hv9
        refine ⟨fun q => absurd q (Nat.lt_irrefl _), ?_⟩
        show V G Y_X9_open 121 _ (.int r2944 :: _) _ _ _ _ _
        refine v_cV (Y2 := Y_X9_sets) (As := [.int ((L2939 437 4).toInt32), .int 3, .int r2944]) (b := 436) (pc' := 124) (c1 := 0) (s1 := 0) 70 rfl rfl mf_X9_sets rfl rfl ml_X9_378 mi_X9_sets se_X9_sets (ci := 8) rfl ly_436 (lay_lt ly_436 (by decide)) rfl (Nat.le_of_ble_eq_true rfl) ⟨Nat.le_of_ble_eq_true rfl, Nat.le_of_ble_eq_true rfl⟩ rfl rfl (ok_X9_sets ((L2939 437 4).toInt32) (3 : Int32) r2944 I2938 L2942 h) ?_ ?_
        · intro e9 u9 hx9
          exact hx9.elim
        intro v9 u9 hv9
        obtain ⟨L2945, rfl, rfl, h⟩ := hv9
        refine ⟨fun q => absurd q (Nat.lt_irrefl _), ?_⟩
        show V G Y_X9_open 124 _ _ _ _ _ _ _
        refine v_aload_n (pc' := 125) 71 1 rfl rfl rfl rfl ?_
        refine v_iload (pc' := 127) 72 0 rfl rfl rfl ?_
        refine v_iconst (v := 4) (pc' := 128) 73 rfl rfl (by decide) ?_
        refine v_iload_n (pc' := 129) 74 2 rfl rfl rfl rfl ?_
        refine v_cV (Y2 := Y_X9_sets) (As := [.int ((L2939 437 4).toInt32), .int 4, .int p1]) (b := 436) (pc' := 132) (c1 := 0) (s1 := 0) 75 rfl rfl mf_X9_sets rfl rfl ml_X9_378 mi_X9_sets se_X9_sets (ci := 8) rfl ly_436 (lay_lt ly_436 (by decide)) rfl (Nat.le_of_ble_eq_true rfl) ⟨Nat.le_of_ble_eq_true rfl, Nat.le_of_ble_eq_true rfl⟩ rfl rfl (ok_X9_sets ((L2939 437 4).toInt32) (4 : Int32) p1 I2938 L2945 h) ?_ ?_
        · intro e9 u9 hx9
          exact hx9.elim
        intro v9 u9 hv9
        obtain ⟨L2946, rfl, rfl, h⟩ := hv9
        refine ⟨fun q => absurd q (Nat.lt_irrefl _), ?_⟩
        show V G Y_X9_open 132 _ _ _ _ _ _ _
        refine v_aload_n (pc' := 133) 76 1 rfl rfl rfl rfl ?_
        refine v_iload (pc' := 135) 77 0 rfl rfl rfl ?_
        refine v_iconst (v := 5) (pc' := 136) 78 rfl rfl (by decide) ?_
        refine v_iload (pc' := 138) 79 5 rfl rfl rfl ?_
        refine v_if_eq (tgt := 145) (pc' := 141) 80 rfl rfl (by decide) (fun hc => ?_) (fun hc => ?_)
        · replace h := h.1 hc
          refine v_iconst (v := 0) (pc' := 146) 83 rfl rfl (by decide) ?_
          refine V.sub [1, 0] rfl ?_
          exact b_X9_open_146 ((L2939 437 4).toInt32) ((L2939 437 4).toInt32) (5 : Int32) (0 : Int32) I2938 L2946 Q h
        replace h := h.2 hc
        refine v_iconst (v := 1) (pc' := 142) 81 rfl rfl (by decide) ?_
        refine v_goto (tgt := 146) 82 rfl (by decide) ?_
        refine V.sub [1, 0] rfl ?_
        exact b_X9_open_146 ((L2939 437 4).toInt32) ((L2939 437 4).toInt32) (5 : Int32) (1 : Int32) I2938 L2946 Q h
      replace h := h.2 hc
      refine v_bipush (v := -3) (pc' := 60) 33 rfl rfl (by decide) ?_
      exact v_iret 34 rfl rfl (by decide) (by decide) ⟨_, _, _, rfl, rfl, h⟩
    replace h := h.2 hc
    refine v_bipush (v := -2) (pc' := 44) 24 rfl rfl (by decide) ?_
    exact v_iret 25 rfl rfl (by decide) (by decide) ⟨_, _, _, rfl, rfl, h⟩
  replace h := h.2 hc
  refine v_iconst (v := 0) (pc' := 25) 14 rfl rfl (by decide) ?_
  exact v_iret 15 rfl rfl (by decide) (by decide) ⟨_, _, _, rfl, rfl, h⟩
set_option maxHeartbeats 4000000 in
set_option maxRecDepth 100000 in
theorem ok_X9_pays {G : GT} {b d t : Nat} (p1 : Int32) (p2 : Int32) (I : TI) (L : TL)  {Q : TL → Prop} (h : W_X9_pays p1 p2 I L Q) : MW G Y_X9_pays [.ref 436, .int p1, .int p2] (I, L, RT b d t, 457) (fun v9 u9 => ∃ (L9 : TL), v9 = none ∧ u9 = (I, L9, RT b d t, 457) ∧ Q L9) (fun _ _ => False) := by
  unfold W_X9_pays at h
  refine MW.intro rfl (by decide) is_X9_pays (Nat.le_of_ble_eq_true rfl) ?_
  show V G Y_X9_pays 0 [(0, .ref 436), (1, .int p1), (2, .int p2)] [] (I, L, RT b d t, 457) 0 0 _ _
  refine v_aload_n (pc' := 1) 0 0 rfl rfl rfl rfl ?_
  refine v_getR (t := 437) (pc' := 4) 1 rfl rfl pf_X9_7 ly_436 (lay_lt ly_436 (by decide)) rt_436_1 ?_
  refine v_iconst (v := 1) (pc' := 5) 2 rfl rfl (by decide) ?_
  refine v_iload_n (pc' := 6) 3 1 rfl rfl rfl rfl ?_
  refine v_iadd (pc' := 7) 4 rfl rfl ?_
  refine v_dup2 (pc' := 8) 5 rfl rfl rfl rfl ?_
  obtain ⟨hi2949, h⟩ := h
  refine v_lald (i := ((1 : Int32) + p1)) (j := ((1 : Int32) + p1).toNatClampNeg) (pc' := 9) 6 rfl rfl ly_437 ln_437 (lay_lt ly_437 (by decide)) hi2949 rfl ?_
  refine v_iload_n (pc' := 10) 7 2 rfl rfl rfl rfl ?_
  refine v_i2l (pc' := 11) 8 rfl rfl ?_
  refine v_lsub (pc' := 12) 9 rfl rfl ?_
  obtain ⟨hi2950, h⟩ := h
  refine v_last (i := ((1 : Int32) + p1)) (j := ((1 : Int32) + p1).toNatClampNeg) (pc' := 13) 10 rfl rfl ly_437 ln_437 (lay_lt ly_437 (by decide)) hi2950 rfl ?_
  refine nm_N (e := (up2 L 437 (((1 : Int32) + p1).toNatClampNeg) ((L 437 (((1 : Int32) + p1).toNatClampNeg)) - (p2.toInt64)))) (fun L2951 hL2951 => ?_)
  replace h := h L2951 hL2951
  refine v_aload_n (pc' := 14) 11 0 rfl rfl rfl rfl ?_
  refine v_getR (t := 437) (pc' := 17) 12 rfl rfl pf_X9_7 ly_436 (lay_lt ly_436 (by decide)) rt_436_1 ?_
  refine v_iconst (v := 3) (pc' := 18) 13 rfl rfl (by decide) ?_
  refine v_dup2 (pc' := 19) 14 rfl rfl rfl rfl ?_
  refine v_lald (i := 3) (j := 3) (pc' := 20) 15 rfl rfl ly_437 ln_437 (lay_lt ly_437 (by decide)) (vp_lit (by decide)) (by decide) ?_
  refine v_iload_n (pc' := 21) 16 2 rfl rfl rfl rfl ?_
  refine v_i2l (pc' := 22) 17 rfl rfl ?_
  refine v_ladd (pc' := 23) 18 rfl rfl ?_
  refine v_last (i := 3) (j := 3) (pc' := 24) 19 rfl rfl ly_437 ln_437 (lay_lt ly_437 (by decide)) (vp_lit (by decide)) (by decide) ?_
  exact v_vret 20 rfl rfl (by decide) (by decide) ⟨_, rfl, rfl, h⟩
set_option maxHeartbeats 4000000 in
set_option maxRecDepth 100000 in
theorem b_X9_judge_90 {G : GT} {b d t : Nat} (v1 : Int32) (v2 : Int32) (s0 : Int32) (I : TI) (L : TL)  (Q : Int32 → TI → TL → Prop)  (h : B_X9_judge_90 v1 v2 s0 I L Q) : V G Y_X9_judge 90 [(0, .ref 436), (1, .int v1), (2, .int v2)] [.int s0] (I, L, RT b d t, 457) 0 0 (fun v9 u9 => ∃ (r9 : Int32) (I9 : TI) (L9 : TL), v9 = some (.int r9) ∧ u9 = (I9, L9, RT b d t, 457) ∧ Q r9 I9 L9) (fun _ _ => False) := by
  unfold B_X9_judge_90 at h
  refine v_istore_n (ls' := [(3, .int s0), (0, .ref 436), (1, .int v1), (2, .int v2)]) (pc' := 91) 56 rfl rfl rfl (by decide) rfl ?_
  refine v_aload_n (pc' := 92) 57 1 rfl rfl rfl rfl ?_
  refine v_getR (t := 437) (pc' := 95) 58 rfl rfl pf_X9_7 ly_436 (lay_lt ly_436 (by decide)) rt_436_1 ?_
  refine v_iconst (v := 1) (pc' := 96) 59 rfl rfl (by decide) ?_
  refine v_iload_n (pc' := 97) 60 0 rfl rfl rfl rfl ?_
  refine v_iadd (pc' := 98) 61 rfl rfl ?_
  obtain ⟨hi2980, h⟩ := h
  refine v_lald (i := ((1 : Int32) + s0)) (j := ((1 : Int32) + s0).toNatClampNeg) (pc' := 99) 62 rfl rfl ly_437 ln_437 (lay_lt ly_437 (by decide)) hi2980 rfl ?_
  refine v_aload_n (pc' := 100) 63 1 rfl rfl rfl rfl ?_
  refine v_getI (pc' := 103) 64 rfl rfl pf_X9_92 ly_436 (lay_lt ly_436 (by decide)) ?_
  refine v_i2l (pc' := 104) 65 rfl rfl ?_
  refine v_lc_ge (tgt := 111) (pc' := 108) 66 67 rfl rfl rfl (by decide) (fun hc => ?_) (fun hc => ?_)
  · replace h := h.1 hc
    refine v_aload_n (pc' := 112) 70 1 rfl rfl rfl rfl ?_
    refine v_cV (Y2 := Y_X9_records) (As := []) (b := 436) (pc' := 115) (c1 := 0) (s1 := 0) 71 rfl rfl mf_X9_records rfl rfl ml_X9_375 mi_X9_records se_X9_records (ci := 8) rfl ly_436 (lay_lt ly_436 (by decide)) rfl (Nat.le_of_ble_eq_true rfl) ⟨Nat.le_of_ble_eq_true rfl, Nat.le_of_ble_eq_true rfl⟩ rfl rfl (ok_X9_records I L h) ?_ ?_
    · intro e9 u9 hx9
      exact hx9.elim
    intro v9 u9 hv9
    obtain ⟨I2981, L2982, rfl, rfl, h⟩ := hv9
    refine ⟨fun q => absurd q (Nat.lt_irrefl _), ?_⟩
    show V G Y_X9_judge 115 _ _ _ _ _ _ _
    refine v_aload_n (pc' := 116) 72 1 rfl rfl rfl rfl ?_
    refine v_iload_n (pc' := 117) 73 2 rfl rfl rfl rfl ?_
    refine v_bipush (v := 7) (pc' := 119) 74 rfl rfl (by decide) ?_
    refine v_iload_n (pc' := 120) 75 3 rfl rfl rfl rfl ?_
    refine v_cV (Y2 := Y_X9_sets) (As := [.int v1, .int 7, .int v2]) (b := 436) (pc' := 123) (c1 := 0) (s1 := 0) 76 rfl rfl mf_X9_sets rfl rfl ml_X9_378 mi_X9_sets se_X9_sets (ci := 8) rfl ly_436 (lay_lt ly_436 (by decide)) rfl (Nat.le_of_ble_eq_true rfl) ⟨Nat.le_of_ble_eq_true rfl, Nat.le_of_ble_eq_true rfl⟩ rfl rfl (ok_X9_sets v1 (7 : Int32) v2 I2981 L2982 h) ?_ ?_
    · intro e9 u9 hx9
      exact hx9.elim
    intro v9 u9 hv9
    obtain ⟨L2983, rfl, rfl, h⟩ := hv9
    refine ⟨fun q => absurd q (Nat.lt_irrefl _), ?_⟩
    show V G Y_X9_judge 123 _ _ _ _ _ _ _
    refine v_aload_n (pc' := 124) 77 1 rfl rfl rfl rfl ?_
    refine v_iload_n (pc' := 125) 78 2 rfl rfl rfl rfl ?_
    refine v_bipush (v := 6) (pc' := 127) 79 rfl rfl (by decide) ?_
    refine v_iconst (v := 1) (pc' := 128) 80 rfl rfl (by decide) ?_
    refine v_cV (Y2 := Y_X9_sets) (As := [.int v1, .int 6, .int 1]) (b := 436) (pc' := 131) (c1 := 0) (s1 := 0) 81 rfl rfl mf_X9_sets rfl rfl ml_X9_378 mi_X9_sets se_X9_sets (ci := 8) rfl ly_436 (lay_lt ly_436 (by decide)) rfl (Nat.le_of_ble_eq_true rfl) ⟨Nat.le_of_ble_eq_true rfl, Nat.le_of_ble_eq_true rfl⟩ rfl rfl (ok_X9_sets v1 (6 : Int32) (1 : Int32) I2981 L2983 h) ?_ ?_
    · intro e9 u9 hx9
      exact hx9.elim
    intro v9 u9 hv9
    obtain ⟨L2984, rfl, rfl, h⟩ := hv9
    refine ⟨fun q => absurd q (Nat.lt_irrefl _), ?_⟩
    show V G Y_X9_judge 131 _ _ _ _ _ _ _
    refine v_aload_n (pc' := 132) 82 1 rfl rfl rfl rfl ?_
    refine v_iload_n (pc' := 133) 83 0 rfl rfl rfl rfl ?_
    refine v_aload_n (pc' := 134) 84 1 rfl rfl rfl rfl ?_
    refine v_getI (pc' := 137) 85 rfl rfl pf_X9_92 ly_436 (lay_lt ly_436 (by decide)) ?_
    refine v_cV (Y2 := Y_X9_pays) (As := [.int s0, .int (I2981 436 9)]) (b := 436) (pc' := 140) (c1 := 0) (s1 := 0) 86 rfl rfl mf_X9_pays rfl rfl ml_X9_382 mi_X9_pays se_X9_pays (ci := 8) rfl ly_436 (lay_lt ly_436 (by decide)) rfl (Nat.le_of_ble_eq_true rfl) ⟨Nat.le_of_ble_eq_true rfl, Nat.le_of_ble_eq_true rfl⟩ rfl rfl (ok_X9_pays s0 (I2981 436 9) I2981 L2984 h) ?_ ?_
    · intro e9 u9 hx9
      exact hx9.elim
    intro v9 u9 hv9
    obtain ⟨L2985, rfl, rfl, h⟩ := hv9
    refine ⟨fun q => absurd q (Nat.lt_irrefl _), ?_⟩
    show V G Y_X9_judge 140 _ _ _ _ _ _ _
    refine v_iload_n (pc' := 141) 87 3 rfl rfl rfl rfl ?_
    exact v_iret 88 rfl rfl (by decide) (by decide) ⟨_, _, _, rfl, rfl, h⟩
  replace h := h.2 hc
  refine v_bipush (v := -3) (pc' := 110) 68 rfl rfl (by decide) ?_
  exact v_iret 69 rfl rfl (by decide) (by decide) ⟨_, _, _, rfl, rfl, h⟩
set_option maxHeartbeats 4000000 in
set_option maxRecDepth 100000 in
theorem b_X9_judge_62 {G : GT} {b d t : Nat} (v1 : Int32) (s0 : Int32) (I : TI) (L : TL)  (Q : Int32 → TI → TL → Prop)  (h : B_X9_judge_62 v1 s0 I L Q) : V G Y_X9_judge 62 [(0, .ref 436), (1, .int v1)] [.int s0] (I, L, RT b d t, 457) 0 0 (fun v9 u9 => ∃ (r9 : Int32) (I9 : TI) (L9 : TL), v9 = some (.int r9) ∧ u9 = (I9, L9, RT b d t, 457) ∧ Q r9 I9 L9) (fun _ _ => False) := by
  unfold B_X9_judge_62 at h
  refine v_istore_n (ls' := [(2, .int s0), (0, .ref 436), (1, .int v1)]) (pc' := 63) 38 rfl rfl rfl (by decide) rfl ?_
  refine v_aload_n (pc' := 64) 39 1 rfl rfl rfl rfl ?_
  refine v_iload_n (pc' := 65) 40 2 rfl rfl rfl rfl ?_
  refine v_iconst (v := 5) (pc' := 66) 41 rfl rfl (by decide) ?_
  refine v_cV (Y2 := Y_X9_of) (As := [.int v1, .int 5]) (b := 436) (pc' := 69) (c1 := 0) (s1 := 0) 42 rfl rfl mf_X9_of rfl rfl ml_X9_346 mi_X9_of se_X9_of (ci := 8) rfl ly_436 (lay_lt ly_436 (by decide)) rfl (Nat.le_of_ble_eq_true rfl) ⟨Nat.le_of_ble_eq_true rfl, Nat.le_of_ble_eq_true rfl⟩ rfl rfl (ok_X9_of v1 (5 : Int32) I L h) ?_ ?_
  · intro e9 u9 hx9
    exact hx9.elim
  intro v9 u9 hv9
  obtain ⟨r2986, rfl, rfl, h⟩ := hv9
  refine ⟨fun q => absurd q (Nat.lt_irrefl _), ?_⟩
  show V G Y_X9_judge 69 _ (.int r2986 :: _) _ _ _ _ _
  refine v_iload_n (pc' := 70) 43 0 rfl rfl rfl rfl ?_
  refine v_icmp_ne (tgt := 84) (pc' := 73) 44 rfl rfl (by decide) (fun hc => ?_) (fun hc => ?_)
  · replace h := h.1 hc
    refine v_aload_n (pc' := 85) 52 1 rfl rfl rfl rfl ?_
    refine v_iload_n (pc' := 86) 53 2 rfl rfl rfl rfl ?_
    refine v_iconst (v := 4) (pc' := 87) 54 rfl rfl (by decide) ?_
    refine v_cV (Y2 := Y_X9_of) (As := [.int v1, .int 4]) (b := 436) (pc' := 90) (c1 := 0) (s1 := 0) 55 rfl rfl mf_X9_of rfl rfl ml_X9_346 mi_X9_of se_X9_of (ci := 8) rfl ly_436 (lay_lt ly_436 (by decide)) rfl (Nat.le_of_ble_eq_true rfl) ⟨Nat.le_of_ble_eq_true rfl, Nat.le_of_ble_eq_true rfl⟩ rfl rfl (ok_X9_of v1 (4 : Int32) I L h) ?_ ?_
    · intro e9 u9 hx9
      exact hx9.elim
    intro v9 u9 hv9
    obtain ⟨r2987, rfl, rfl, h⟩ := hv9
    refine ⟨fun q => absurd q (Nat.lt_irrefl _), ?_⟩
    show V G Y_X9_judge 90 _ (.int r2987 :: _) _ _ _ _ _
    refine V.sub [1, 2, 0] rfl ?_
    exact b_X9_judge_90 v1 s0 r2987 I L Q h
  replace h := h.2 hc
  refine v_iconst (v := 1) (pc' := 74) 45 rfl rfl (by decide) ?_
  refine v_aload_n (pc' := 75) 46 1 rfl rfl rfl rfl ?_
  refine v_iload_n (pc' := 76) 47 2 rfl rfl rfl rfl ?_
  refine v_iconst (v := 4) (pc' := 77) 48 rfl rfl (by decide) ?_
  refine v_cV (Y2 := Y_X9_of) (As := [.int v1, .int 4]) (b := 436) (pc' := 80) (c1 := 0) (s1 := 0) 49 rfl rfl mf_X9_of rfl rfl ml_X9_346 mi_X9_of se_X9_of (ci := 8) rfl ly_436 (lay_lt ly_436 (by decide)) rfl (Nat.le_of_ble_eq_true rfl) ⟨Nat.le_of_ble_eq_true rfl, Nat.le_of_ble_eq_true rfl⟩ rfl rfl (ok_X9_of v1 (4 : Int32) I L h) ?_ ?_
  · intro e9 u9 hx9
    exact hx9.elim
  intro v9 u9 hv9
  obtain ⟨r2988, rfl, rfl, h⟩ := hv9
  refine ⟨fun q => absurd q (Nat.lt_irrefl _), ?_⟩
  show V G Y_X9_judge 80 _ (.int r2988 :: _) _ _ _ _ _
  refine v_isub (pc' := 81) 50 rfl rfl ?_
  refine v_goto (tgt := 90) 51 rfl (by decide) ?_
  refine V.sub [1, 2, 0] rfl ?_
  exact b_X9_judge_90 v1 s0 ((1 : Int32) - r2988) I L Q h
set_option maxHeartbeats 4000000 in
set_option maxRecDepth 100000 in
theorem ok_X9_judge {G : GT} {b d t : Nat} (p1 : Int32) (I : TI) (L : TL)  {Q : Int32 → TI → TL → Prop} (h : W_X9_judge p1 I L Q) : MW G Y_X9_judge [.ref 436, .int p1] (I, L, RT b d t, 457) (fun v9 u9 => ∃ (r9 : Int32) (I9 : TI) (L9 : TL), v9 = some (.int r9) ∧ u9 = (I9, L9, RT b d t, 457) ∧ Q r9 I9 L9) (fun _ _ => False) := by
  unfold W_X9_judge at h
  refine MW.intro rfl (by decide) is_X9_judge (Nat.le_of_ble_eq_true rfl) ?_
  show V G Y_X9_judge 0 [(0, .ref 436), (1, .int p1)] [] (I, L, RT b d t, 457) 0 0 _ _
  refine v_aload_n (pc' := 1) 0 0 rfl rfl rfl rfl ?_
  refine v_iload_n (pc' := 2) 1 1 rfl rfl rfl rfl ?_
  refine v_cV (Y2 := Y_X9_noDispute) (As := [.int p1]) (b := 436) (pc' := 5) (c1 := 0) (s1 := 0) 2 rfl rfl mf_X9_noDispute rfl rfl ml_X9_352 mi_X9_noDispute se_X9_noDispute (ci := 8) rfl ly_436 (lay_lt ly_436 (by decide)) rfl (Nat.le_of_ble_eq_true rfl) ⟨Nat.le_of_ble_eq_true rfl, Nat.le_of_ble_eq_true rfl⟩ rfl rfl (ok_X9_noDispute p1 I L h) ?_ ?_
  · intro e9 u9 hx9
    exact hx9.elim
  intro v9 u9 hv9
  obtain ⟨r2989, I2990, rfl, rfl, h⟩ := hv9
  refine ⟨fun q => absurd q (Nat.lt_irrefl _), ?_⟩
  show V G Y_X9_judge 5 _ (.int r2989 :: _) _ _ _ _ _
  refine v_if_eq (tgt := 10) (pc' := 8) 3 rfl rfl (by decide) (fun hc => ?_) (fun hc => ?_)
  · replace h := h.1 hc
    refine v_aload_n (pc' := 11) 6 0 rfl rfl rfl rfl ?_
    refine v_iload_n (pc' := 12) 7 1 rfl rfl rfl rfl ?_
    refine v_bipush (v := 6) (pc' := 14) 8 rfl rfl (by decide) ?_
    refine v_cV (Y2 := Y_X9_of) (As := [.int p1, .int 6]) (b := 436) (pc' := 17) (c1 := 0) (s1 := 0) 9 rfl rfl mf_X9_of rfl rfl ml_X9_346 mi_X9_of se_X9_of (ci := 8) rfl ly_436 (lay_lt ly_436 (by decide)) rfl (Nat.le_of_ble_eq_true rfl) ⟨Nat.le_of_ble_eq_true rfl, Nat.le_of_ble_eq_true rfl⟩ rfl rfl (ok_X9_of p1 (6 : Int32) I2990 L h) ?_ ?_
    · intro e9 u9 hx9
      exact hx9.elim
    intro v9 u9 hv9
    obtain ⟨r2991, rfl, rfl, h⟩ := hv9
    refine ⟨fun q => absurd q (Nat.lt_irrefl _), ?_⟩
    show V G Y_X9_judge 17 _ (.int r2991 :: _) _ _ _ _ _
    refine v_if_eq (tgt := 23) (pc' := 20) 10 rfl rfl (by decide) (fun hc => ?_) (fun hc => ?_)
    · replace h := h.1 hc
      refine v_aload_n (pc' := 24) 13 0 rfl rfl rfl rfl ?_
      refine v_iload_n (pc' := 25) 14 1 rfl rfl rfl rfl ?_
      refine v_iconst (v := 2) (pc' := 26) 15 rfl rfl (by decide) ?_
      refine v_cV (Y2 := Y_X9_of) (As := [.int p1, .int 2]) (b := 436) (pc' := 29) (c1 := 0) (s1 := 0) 16 rfl rfl mf_X9_of rfl rfl ml_X9_346 mi_X9_of se_X9_of (ci := 8) rfl ly_436 (lay_lt ly_436 (by decide)) rfl (Nat.le_of_ble_eq_true rfl) ⟨Nat.le_of_ble_eq_true rfl, Nat.le_of_ble_eq_true rfl⟩ rfl rfl (ok_X9_of p1 (2 : Int32) I2990 L h) ?_ ?_
      · intro e9 u9 hx9
        exact hx9.elim
      intro v9 u9 hv9
      obtain ⟨r2992, rfl, rfl, h⟩ := hv9
      refine ⟨fun q => absurd q (Nat.lt_irrefl _), ?_⟩
      show V G Y_X9_judge 29 _ (.int r2992 :: _) _ _ _ _ _
      refine v_aload_n (pc' := 30) 17 0 rfl rfl rfl rfl ?_
      refine v_iload_n (pc' := 31) 18 1 rfl rfl rfl rfl ?_
      refine v_iconst (v := 1) (pc' := 32) 19 rfl rfl (by decide) ?_
      refine v_cV (Y2 := Y_X9_of) (As := [.int p1, .int 1]) (b := 436) (pc' := 35) (c1 := 0) (s1 := 0) 20 rfl rfl mf_X9_of rfl rfl ml_X9_346 mi_X9_of se_X9_of (ci := 8) rfl ly_436 (lay_lt ly_436 (by decide)) rfl (Nat.le_of_ble_eq_true rfl) ⟨Nat.le_of_ble_eq_true rfl, Nat.le_of_ble_eq_true rfl⟩ rfl rfl (ok_X9_of p1 (1 : Int32) I2990 L h) ?_ ?_
      · intro e9 u9 hx9
        exact hx9.elim
      intro v9 u9 hv9
      obtain ⟨r2993, rfl, rfl, h⟩ := hv9
      refine ⟨fun q => absurd q (Nat.lt_irrefl _), ?_⟩
      show V G Y_X9_judge 35 _ (.int r2993 :: _) _ _ _ _ _
      refine v_isub (pc' := 36) 21 rfl rfl ?_
      refine v_iconst (v := 1) (pc' := 37) 22 rfl rfl (by decide) ?_
      refine v_iadd (pc' := 38) 23 rfl rfl ?_
      refine v_aload_n (pc' := 39) 24 0 rfl rfl rfl rfl ?_
      refine v_aload_n (pc' := 40) 25 0 rfl rfl rfl rfl ?_
      refine v_iload_n (pc' := 41) 26 1 rfl rfl rfl rfl ?_
      refine v_iconst (v := 0) (pc' := 42) 27 rfl rfl (by decide) ?_
      refine v_cV (Y2 := Y_X9_of) (As := [.int p1, .int 0]) (b := 436) (pc' := 45) (c1 := 0) (s1 := 0) 28 rfl rfl mf_X9_of rfl rfl ml_X9_346 mi_X9_of se_X9_of (ci := 8) rfl ly_436 (lay_lt ly_436 (by decide)) rfl (Nat.le_of_ble_eq_true rfl) ⟨Nat.le_of_ble_eq_true rfl, Nat.le_of_ble_eq_true rfl⟩ rfl rfl (ok_X9_of p1 (0 : Int32) I2990 L h) ?_ ?_
      · intro e9 u9 hx9
        exact hx9.elim
      intro v9 u9 hv9
      obtain ⟨r2994, rfl, rfl, h⟩ := hv9
      refine ⟨fun q => absurd q (Nat.lt_irrefl _), ?_⟩
      show V G Y_X9_judge 45 _ (.int r2994 :: _) _ _ _ _ _
      refine v_aload_n (pc' := 46) 29 0 rfl rfl rfl rfl ?_
      refine v_iload_n (pc' := 47) 30 1 rfl rfl rfl rfl ?_
      refine v_iconst (v := 3) (pc' := 48) 31 rfl rfl (by decide) ?_
      refine v_cV (Y2 := Y_X9_of) (As := [.int p1, .int 3]) (b := 436) (pc' := 51) (c1 := 0) (s1 := 0) 32 rfl rfl mf_X9_of rfl rfl ml_X9_346 mi_X9_of se_X9_of (ci := 8) rfl ly_436 (lay_lt ly_436 (by decide)) rfl (Nat.le_of_ble_eq_true rfl) ⟨Nat.le_of_ble_eq_true rfl, Nat.le_of_ble_eq_true rfl⟩ rfl rfl (ok_X9_of p1 (3 : Int32) I2990 L h) ?_ ?_
      · intro e9 u9 hx9
        exact hx9.elim
      intro v9 u9 hv9
      obtain ⟨r2995, rfl, rfl, h⟩ := hv9
      refine ⟨fun q => absurd q (Nat.lt_irrefl _), ?_⟩
      show V G Y_X9_judge 51 _ (.int r2995 :: _) _ _ _ _ _
      refine v_cV (Y2 := Y_X9_delayFor) (As := [.int r2994, .int r2995]) (b := 436) (pc' := 54) (c1 := 0) (s1 := 0) 33 rfl rfl mf_X9_delayFor rfl rfl ml_X9_343 mi_X9_delayFor se_X9_delayFor (ci := 8) rfl ly_436 (lay_lt ly_436 (by decide)) rfl (Nat.le_of_ble_eq_true rfl) ⟨Nat.le_of_ble_eq_true rfl, Nat.le_of_ble_eq_true rfl⟩ rfl rfl (ok_X9_delayFor r2994 r2995 I2990 L h) ?_ ?_
      · intro e9 u9 hx9
        exact hx9.elim
      intro v9 u9 hv9
      obtain ⟨r2996, rfl, rfl, h⟩ := hv9
      refine ⟨fun q => absurd q (Nat.lt_irrefl _), ?_⟩
      show V G Y_X9_judge 54 _ (.int r2996 :: _) _ _ _ _ _
      refine v_icmp_le (tgt := 61) (pc' := 57) 34 rfl rfl (by decide) (fun hc => ?_) (fun hc => ?_)
      · replace h := h.1 hc
        refine v_iconst (v := 0) (pc' := 62) 37 rfl rfl (by decide) ?_
        exact b_X9_judge_62 p1 (0 : Int32) I2990 L Q h
      replace h := h.2 hc
      refine v_iconst (v := 1) (pc' := 58) 35 rfl rfl (by decide) ?_
      refine v_goto (tgt := 62) 36 rfl (by decide) ?_
      exact b_X9_judge_62 p1 (1 : Int32) I2990 L Q h
    replace h := h.2 hc
    refine v_bipush (v := -2) (pc' := 22) 11 rfl rfl (by decide) ?_
    exact v_iret 12 rfl rfl (by decide) (by decide) ⟨_, _, _, rfl, rfl, h⟩
  replace h := h.2 hc
  refine v_iconst (v := 0) (pc' := 9) 4 rfl rfl (by decide) ?_
  exact v_iret 5 rfl rfl (by decide) (by decide) ⟨_, _, _, rfl, rfl, h⟩
set_option maxHeartbeats 4000000 in
set_option maxRecDepth 100000 in
theorem b_X9_appeal_99 {G : GT} {b d t : Nat} (v1 : Int32) (v3 : Int32) (v4 : Int32) (s0 : Int32) (I : TI) (L : TL)  (Q : Int32 → TI → TL → Prop)  (h : B_X9_appeal_99 v1 v3 v4 s0 I L Q) : V G Y_X9_appeal 99 [(0, .ref 436), (1, .int v1), (3, .int v3), (4, .int v4)] [.int s0] (I, L, RT b d t, 457) 0 0 (fun v9 u9 => ∃ (r9 : Int32) (I9 : TI) (L9 : TL), v9 = some (.int r9) ∧ u9 = (I9, L9, RT b d t, 457) ∧ Q r9 I9 L9) (fun _ _ => False) := by
  unfold B_X9_appeal_99 at h
  refine v_istore (ls' := [(6, .int s0), (0, .ref 436), (1, .int v1), (3, .int v3), (4, .int v4)]) (pc' := 101) 59 rfl rfl (by decide) rfl ?_
  refine v_aload_n (pc' := 102) 60 1 rfl rfl rfl rfl ?_
  refine v_iload_n (pc' := 103) 61 2 rfl rfl rfl rfl ?_
  refine v_bipush (v := 7) (pc' := 105) 62 rfl rfl (by decide) ?_
  refine v_iload (pc' := 107) 63 4 rfl rfl rfl ?_
  refine v_cV (Y2 := Y_X9_sets) (As := [.int v1, .int 7, .int v4]) (b := 436) (pc' := 110) (c1 := 0) (s1 := 0) 64 rfl rfl mf_X9_sets rfl rfl ml_X9_378 mi_X9_sets se_X9_sets (ci := 8) rfl ly_436 (lay_lt ly_436 (by decide)) rfl (Nat.le_of_ble_eq_true rfl) ⟨Nat.le_of_ble_eq_true rfl, Nat.le_of_ble_eq_true rfl⟩ rfl rfl (ok_X9_sets v1 (7 : Int32) v4 I L h) ?_ ?_
  · intro e9 u9 hx9
    exact hx9.elim
  intro v9 u9 hv9
  obtain ⟨L3028, rfl, rfl, h⟩ := hv9
  refine ⟨fun q => absurd q (Nat.lt_irrefl _), ?_⟩
  show V G Y_X9_appeal 110 _ _ _ _ _ _ _
  refine v_aload_n (pc' := 111) 65 1 rfl rfl rfl rfl ?_
  refine v_iload_n (pc' := 112) 66 2 rfl rfl rfl rfl ?_
  refine v_bipush (v := 6) (pc' := 114) 67 rfl rfl (by decide) ?_
  refine v_iconst (v := 2) (pc' := 115) 68 rfl rfl (by decide) ?_
  refine v_cV (Y2 := Y_X9_sets) (As := [.int v1, .int 6, .int 2]) (b := 436) (pc' := 118) (c1 := 0) (s1 := 0) 69 rfl rfl mf_X9_sets rfl rfl ml_X9_378 mi_X9_sets se_X9_sets (ci := 8) rfl ly_436 (lay_lt ly_436 (by decide)) rfl (Nat.le_of_ble_eq_true rfl) ⟨Nat.le_of_ble_eq_true rfl, Nat.le_of_ble_eq_true rfl⟩ rfl rfl (ok_X9_sets v1 (6 : Int32) (2 : Int32) I L3028 h) ?_ ?_
  · intro e9 u9 hx9
    exact hx9.elim
  intro v9 u9 hv9
  obtain ⟨L3029, rfl, rfl, h⟩ := hv9
  refine ⟨fun q => absurd q (Nat.lt_irrefl _), ?_⟩
  show V G Y_X9_appeal 118 _ _ _ _ _ _ _
  refine v_aload_n (pc' := 119) 70 1 rfl rfl rfl rfl ?_
  refine v_getR (t := 437) (pc' := 122) 71 rfl rfl pf_X9_7 ly_436 (lay_lt ly_436 (by decide)) rt_436_1 ?_
  refine v_bipush (v := 9) (pc' := 124) 72 rfl rfl (by decide) ?_
  refine v_aload_n (pc' := 125) 73 1 rfl rfl rfl rfl ?_
  refine v_iload_n (pc' := 126) 74 2 rfl rfl rfl rfl ?_
  refine v_iconst (v := 0) (pc' := 127) 75 rfl rfl (by decide) ?_
  refine v_cV (Y2 := Y_X9_of) (As := [.int v1, .int 0]) (b := 436) (pc' := 130) (c1 := 0) (s1 := 0) 76 rfl rfl mf_X9_of rfl rfl ml_X9_346 mi_X9_of se_X9_of (ci := 8) rfl ly_436 (lay_lt ly_436 (by decide)) rfl (Nat.le_of_ble_eq_true rfl) ⟨Nat.le_of_ble_eq_true rfl, Nat.le_of_ble_eq_true rfl⟩ rfl rfl (ok_X9_of v1 (0 : Int32) I L3029 h) ?_ ?_
  · intro e9 u9 hx9
    exact hx9.elim
  intro v9 u9 hv9
  obtain ⟨r3030, rfl, rfl, h⟩ := hv9
  refine ⟨fun q => absurd q (Nat.lt_irrefl _), ?_⟩
  show V G Y_X9_appeal 130 _ (.int r3030 :: _) _ _ _ _ _
  refine v_iadd (pc' := 131) 77 rfl rfl ?_
  refine v_aload_n (pc' := 132) 78 1 rfl rfl rfl rfl ?_
  refine v_getI (pc' := 135) 79 rfl rfl pf_X9_77 ly_436 (lay_lt ly_436 (by decide)) ?_
  refine v_isub (pc' := 136) 80 rfl rfl ?_
  refine v_dup2 (pc' := 137) 81 rfl rfl rfl rfl ?_
  obtain ⟨hi3031, h⟩ := h
  refine v_lald (i := (((9 : Int32) + r3030) - (I 436 10))) (j := (((9 : Int32) + r3030) - (I 436 10)).toNatClampNeg) (pc' := 138) 82 rfl rfl ly_437 ln_437 (lay_lt ly_437 (by decide)) hi3031 rfl ?_
  refine v_aload_n (pc' := 139) 83 1 rfl rfl rfl rfl ?_
  refine v_iload_n (pc' := 140) 84 2 rfl rfl rfl rfl ?_
  refine v_cV (Y2 := Y_X9_windowOf) (As := [.int v1]) (b := 436) (pc' := 143) (c1 := 0) (s1 := 0) 85 rfl rfl mf_X9_windowOf rfl rfl ml_X9_349 mi_X9_windowOf se_X9_windowOf (ci := 8) rfl ly_436 (lay_lt ly_436 (by decide)) rfl (Nat.le_of_ble_eq_true rfl) ⟨Nat.le_of_ble_eq_true rfl, Nat.le_of_ble_eq_true rfl⟩ rfl rfl (ok_X9_windowOf v1 I L3029 h) ?_ ?_
  · intro e9 u9 hx9
    exact hx9.elim
  intro v9 u9 hv9
  obtain ⟨r3032, rfl, rfl, h⟩ := hv9
  refine ⟨fun q => absurd q (Nat.lt_irrefl _), ?_⟩
  show V G Y_X9_appeal 143 _ (.long r3032 :: _) _ _ _ _ _
  refine v_lor (pc' := 144) 86 rfl rfl ?_
  obtain ⟨hi3033, h⟩ := h
  refine v_last (i := (((9 : Int32) + r3030) - (I 436 10))) (j := (((9 : Int32) + r3030) - (I 436 10)).toNatClampNeg) (pc' := 145) 87 rfl rfl ly_437 ln_437 (lay_lt ly_437 (by decide)) hi3033 rfl ?_
  refine nm_N (e := (up2 L3029 437 ((((9 : Int32) + r3030) - (I 436 10)).toNatClampNeg) ((L3029 437 ((((9 : Int32) + r3030) - (I 436 10)).toNatClampNeg)) ||| r3032))) (fun L3034 hL3034 => ?_)
  replace h := h L3034 hL3034
  refine v_aload_n (pc' := 146) 88 1 rfl rfl rfl rfl ?_
  refine v_iload (pc' := 148) 89 0 rfl rfl rfl ?_
  refine v_iload_n (pc' := 149) 90 3 rfl rfl rfl rfl ?_
  refine v_aload_n (pc' := 150) 91 1 rfl rfl rfl rfl ?_
  refine v_getR (t := 437) (pc' := 153) 92 rfl rfl pf_X9_7 ly_436 (lay_lt ly_436 (by decide)) rt_436_1 ?_
  refine v_iconst (v := 1) (pc' := 154) 93 rfl rfl (by decide) ?_
  refine v_iload (pc' := 156) 94 0 rfl rfl rfl ?_
  refine v_iadd (pc' := 157) 95 rfl rfl ?_
  obtain ⟨hi3035, h⟩ := h
  refine v_lald (i := ((1 : Int32) + s0)) (j := ((1 : Int32) + s0).toNatClampNeg) (pc' := 158) 96 rfl rfl ly_437 ln_437 (lay_lt ly_437 (by decide)) hi3035 rfl ?_
  refine v_l2i (pc' := 159) 97 rfl rfl ?_
  refine v_cS (Y2 := Y_X9_lesser) (As := [.int v3, .int ((L3034 437 (((1 : Int32) + s0).toNatClampNeg)).toInt32)]) (pc' := 162) (c1 := 0) (s1 := 0) 98 rfl rfl mf_X9_lesser rfl rfl ml_X9_322 ms_X9_lesser rfl (Nat.le_of_ble_eq_true rfl) ⟨Nat.le_of_ble_eq_true rfl, Nat.le_of_ble_eq_true rfl⟩ rfl rfl (ok_X9_lesser v3 ((L3034 437 (((1 : Int32) + s0).toNatClampNeg)).toInt32) I L3034 h) ?_ ?_
  · intro e9 u9 hx9
    exact hx9.elim
  intro v9 u9 hv9
  obtain ⟨r3036, rfl, rfl, h⟩ := hv9
  refine ⟨fun q => absurd q (Nat.lt_irrefl _), ?_⟩
  show V G Y_X9_appeal 162 _ (.int r3036 :: _) _ _ _ _ _
  refine v_cV (Y2 := Y_X9_pays) (As := [.int s0, .int r3036]) (b := 436) (pc' := 165) (c1 := 0) (s1 := 0) 99 rfl rfl mf_X9_pays rfl rfl ml_X9_382 mi_X9_pays se_X9_pays (ci := 8) rfl ly_436 (lay_lt ly_436 (by decide)) rfl (Nat.le_of_ble_eq_true rfl) ⟨Nat.le_of_ble_eq_true rfl, Nat.le_of_ble_eq_true rfl⟩ rfl rfl (ok_X9_pays s0 r3036 I L3034 h) ?_ ?_
  · intro e9 u9 hx9
    exact hx9.elim
  intro v9 u9 hv9
  obtain ⟨L3037, rfl, rfl, h⟩ := hv9
  refine ⟨fun q => absurd q (Nat.lt_irrefl _), ?_⟩
  show V G Y_X9_appeal 165 _ _ _ _ _ _ _
  refine v_iload (pc' := 167) 100 4 rfl rfl rfl ?_
  exact v_iret 101 rfl rfl (by decide) (by decide) ⟨_, _, _, rfl, rfl, h⟩
set_option maxHeartbeats 4000000 in
set_option maxRecDepth 100000 in
theorem b_X9_appeal_85 {G : GT} {b d t : Nat} (v1 : Int32) (v2 : Int32) (v3 : Int32) (v4 : Int32) (s0 : Int32) (I : TI) (L : TL)  (Q : Int32 → TI → TL → Prop)  (h : B_X9_appeal_85 v1 v2 v3 v4 s0 I L Q) : V G Y_X9_appeal 85 [(0, .ref 436), (1, .int v1), (2, .int v2), (3, .int v3), (4, .int v4)] [.int s0] (I, L, RT b d t, 457) 0 0 (fun v9 u9 => ∃ (r9 : Int32) (I9 : TI) (L9 : TL), v9 = some (.int r9) ∧ u9 = (I9, L9, RT b d t, 457) ∧ Q r9 I9 L9) (fun _ _ => False) := by
  unfold B_X9_appeal_85 at h
  refine v_istore (ls' := [(5, .int s0), (0, .ref 436), (1, .int v1), (2, .int v2), (3, .int v3), (4, .int v4)]) (pc' := 87) 51 rfl rfl (by decide) rfl ?_
  refine v_iload (pc' := 89) 52 0 rfl rfl rfl ?_
  refine v_if_eq (tgt := 96) (pc' := 92) 53 rfl rfl (by decide) (fun hc => ?_) (fun hc => ?_)
  · replace h := h.1 hc
    refine v_iconst (v := 1) (pc' := 97) 56 rfl rfl (by decide) ?_
    refine v_iload_n (pc' := 98) 57 3 rfl rfl rfl rfl ?_
    refine v_isub (pc' := 99) 58 rfl rfl ?_
    refine V.sub [1, 2, 4, 5] rfl ?_
    exact b_X9_appeal_99 v1 v3 v4 ((1 : Int32) - v2) I L Q h
  replace h := h.2 hc
  refine v_iload_n (pc' := 93) 54 3 rfl rfl rfl rfl ?_
  refine v_goto (tgt := 99) 55 rfl (by decide) ?_
  refine V.sub [1, 2, 4, 5] rfl ?_
  exact b_X9_appeal_99 v1 v3 v4 v2 I L Q h
set_option maxHeartbeats 4000000 in
set_option maxRecDepth 100000 in
theorem ok_X9_appeal {G : GT} {b d t : Nat} (p1 : Int32) (I : TI) (L : TL)  {Q : Int32 → TI → TL → Prop} (h : W_X9_appeal p1 I L Q) : MW G Y_X9_appeal [.ref 436, .int p1] (I, L, RT b d t, 457) (fun v9 u9 => ∃ (r9 : Int32) (I9 : TI) (L9 : TL), v9 = some (.int r9) ∧ u9 = (I9, L9, RT b d t, 457) ∧ Q r9 I9 L9) (fun _ _ => False) := by
  unfold W_X9_appeal at h
  refine MW.intro rfl (by decide) is_X9_appeal (Nat.le_of_ble_eq_true rfl) ?_
  show V G Y_X9_appeal 0 [(0, .ref 436), (1, .int p1)] [] (I, L, RT b d t, 457) 0 0 _ _
  refine v_aload_n (pc' := 1) 0 0 rfl rfl rfl rfl ?_
  refine v_iload_n (pc' := 2) 1 1 rfl rfl rfl rfl ?_
  refine v_cV (Y2 := Y_X9_noDispute) (As := [.int p1]) (b := 436) (pc' := 5) (c1 := 0) (s1 := 0) 2 rfl rfl mf_X9_noDispute rfl rfl ml_X9_352 mi_X9_noDispute se_X9_noDispute (ci := 8) rfl ly_436 (lay_lt ly_436 (by decide)) rfl (Nat.le_of_ble_eq_true rfl) ⟨Nat.le_of_ble_eq_true rfl, Nat.le_of_ble_eq_true rfl⟩ rfl rfl (ok_X9_noDispute p1 I L h) ?_ ?_
  · intro e9 u9 hx9
    exact hx9.elim
  intro v9 u9 hv9
  obtain ⟨r3038, I3039, rfl, rfl, h⟩ := hv9
  refine ⟨fun q => absurd q (Nat.lt_irrefl _), ?_⟩
  show V G Y_X9_appeal 5 _ (.int r3038 :: _) _ _ _ _ _
  refine v_if_eq (tgt := 10) (pc' := 8) 3 rfl rfl (by decide) (fun hc => ?_) (fun hc => ?_)
  · replace h := h.1 hc
    refine v_aload_n (pc' := 11) 6 0 rfl rfl rfl rfl ?_
    refine v_iload_n (pc' := 12) 7 1 rfl rfl rfl rfl ?_
    refine v_bipush (v := 6) (pc' := 14) 8 rfl rfl (by decide) ?_
    refine v_cV (Y2 := Y_X9_of) (As := [.int p1, .int 6]) (b := 436) (pc' := 17) (c1 := 0) (s1 := 0) 9 rfl rfl mf_X9_of rfl rfl ml_X9_346 mi_X9_of se_X9_of (ci := 8) rfl ly_436 (lay_lt ly_436 (by decide)) rfl (Nat.le_of_ble_eq_true rfl) ⟨Nat.le_of_ble_eq_true rfl, Nat.le_of_ble_eq_true rfl⟩ rfl rfl (ok_X9_of p1 (6 : Int32) I3039 L h) ?_ ?_
    · intro e9 u9 hx9
      exact hx9.elim
    intro v9 u9 hv9
    obtain ⟨r3040, rfl, rfl, h⟩ := hv9
    refine ⟨fun q => absurd q (Nat.lt_irrefl _), ?_⟩
    show V G Y_X9_appeal 17 _ (.int r3040 :: _) _ _ _ _ _
    refine v_iconst (v := 1) (pc' := 18) 10 rfl rfl (by decide) ?_
    refine v_icmp_eq (tgt := 24) (pc' := 21) 11 rfl rfl (by decide) (fun hc => ?_) (fun hc => ?_)
    · replace h := h.1 hc
      refine v_aload_n (pc' := 25) 14 0 rfl rfl rfl rfl ?_
      refine v_iload_n (pc' := 26) 15 1 rfl rfl rfl rfl ?_
      refine v_cV (Y2 := Y_X9_loserOf) (As := [.int p1]) (b := 436) (pc' := 29) (c1 := 0) (s1 := 0) 16 rfl rfl mf_X9_loserOf rfl rfl ml_X9_358 mi_X9_loserOf se_X9_loserOf (ci := 8) rfl ly_436 (lay_lt ly_436 (by decide)) rfl (Nat.le_of_ble_eq_true rfl) ⟨Nat.le_of_ble_eq_true rfl, Nat.le_of_ble_eq_true rfl⟩ rfl rfl (ok_X9_loserOf p1 I3039 L h) ?_ ?_
      · intro e9 u9 hx9
        exact hx9.elim
      intro v9 u9 hv9
      obtain ⟨r3041, rfl, rfl, h⟩ := hv9
      refine ⟨fun q => absurd q (Nat.lt_irrefl _), ?_⟩
      show V G Y_X9_appeal 29 _ (.int r3041 :: _) _ _ _ _ _
      refine v_istore_n (ls' := [(2, .int r3041), (0, .ref 436), (1, .int p1)]) (pc' := 30) 17 rfl rfl rfl (by decide) rfl ?_
      refine v_aload_n (pc' := 31) 18 1 rfl rfl rfl rfl ?_
      refine v_iload_n (pc' := 32) 19 2 rfl rfl rfl rfl ?_
      refine v_cV (Y2 := Y_X9_stakeOf) (As := [.int p1]) (b := 436) (pc' := 35) (c1 := 0) (s1 := 0) 20 rfl rfl mf_X9_stakeOf rfl rfl ml_X9_355 mi_X9_stakeOf se_X9_stakeOf (ci := 8) rfl ly_436 (lay_lt ly_436 (by decide)) rfl (Nat.le_of_ble_eq_true rfl) ⟨Nat.le_of_ble_eq_true rfl, Nat.le_of_ble_eq_true rfl⟩ rfl rfl (ok_X9_stakeOf p1 I3039 L h) ?_ ?_
      · intro e9 u9 hx9
        exact hx9.elim
      intro v9 u9 hv9
      obtain ⟨r3042, rfl, rfl, h⟩ := hv9
      refine ⟨fun q => absurd q (Nat.lt_irrefl _), ?_⟩
      show V G Y_X9_appeal 35 _ (.int r3042 :: _) _ _ _ _ _
      refine v_istore_n (ls' := [(3, .int r3042), (2, .int r3041), (0, .ref 436), (1, .int p1)]) (pc' := 36) 21 rfl rfl rfl (by decide) rfl ?_
      refine v_aload_n (pc' := 37) 22 2 rfl rfl rfl rfl ?_
      refine v_getR (t := 437) (pc' := 40) 23 rfl rfl pf_X9_7 ly_436 (lay_lt ly_436 (by decide)) rt_436_1 ?_
      refine v_iconst (v := 1) (pc' := 41) 24 rfl rfl (by decide) ?_
      refine v_iload_n (pc' := 42) 25 1 rfl rfl rfl rfl ?_
      refine v_iadd (pc' := 43) 26 rfl rfl ?_
      obtain ⟨hi3043, h⟩ := h
      refine v_lald (i := ((1 : Int32) + r3041)) (j := ((1 : Int32) + r3041).toNatClampNeg) (pc' := 44) 27 rfl rfl ly_437 ln_437 (lay_lt ly_437 (by decide)) hi3043 rfl ?_
      refine v_iload_n (pc' := 45) 28 0 rfl rfl rfl rfl ?_
      refine v_i2l (pc' := 46) 29 rfl rfl ?_
      refine v_lc_ge (tgt := 53) (pc' := 50) 30 31 rfl rfl rfl (by decide) (fun hc => ?_) (fun hc => ?_)
      · replace h := h.1 hc
        refine v_aload_n (pc' := 54) 34 2 rfl rfl rfl rfl ?_
        refine v_cV (Y2 := Y_X9_records) (As := []) (b := 436) (pc' := 57) (c1 := 0) (s1 := 0) 35 rfl rfl mf_X9_records rfl rfl ml_X9_375 mi_X9_records se_X9_records (ci := 8) rfl ly_436 (lay_lt ly_436 (by decide)) rfl (Nat.le_of_ble_eq_true rfl) ⟨Nat.le_of_ble_eq_true rfl, Nat.le_of_ble_eq_true rfl⟩ rfl rfl (ok_X9_records I3039 L h) ?_ ?_
        · intro e9 u9 hx9
          exact hx9.elim
        intro v9 u9 hv9
        obtain ⟨I3044, L3045, rfl, rfl, h⟩ := hv9
        refine ⟨fun q => absurd q (Nat.lt_irrefl _), ?_⟩
        show V G Y_X9_appeal 57 _ _ _ _ _ _ _
        refine v_aload_n (pc' := 58) 36 2 rfl rfl rfl rfl ?_
        refine v_cV (Y2 := Y_X9_waves) (As := []) (b := 436) (pc' := 61) (c1 := 0) (s1 := 0) 37 rfl rfl mf_X9_waves rfl rfl ml_X9_302 mi_X9_waves se_X9_waves (ci := 8) rfl ly_436 (lay_lt ly_436 (by decide)) rfl (Nat.le_of_ble_eq_true rfl) ⟨Nat.le_of_ble_eq_true rfl, Nat.le_of_ble_eq_true rfl⟩ rfl rfl (ok_X9_waves I3044 L3045 h) ?_ ?_
        · intro e9 u9 hx9
          exact hx9.elim
        intro v9 u9 hv9
        obtain ⟨L3046, rfl, rfl, h⟩ := hv9
        refine ⟨fun q => absurd q (Nat.lt_irrefl _), ?_⟩
        show V G Y_X9_appeal 61 _ _ _ _ _ _ _
        refine v_aload_n (pc' := 62) 38 2 rfl rfl rfl rfl ?_
        refine v_iload_n (pc' := 63) 39 3 rfl rfl rfl rfl ?_
        refine v_cV (Y2 := Y_X9_replayed) (As := [.int p1]) (b := 436) (pc' := 66) (c1 := 0) (s1 := 0) 40 rfl rfl mf_X9_replayed rfl rfl ml_X9_367 mi_X9_replayed se_X9_replayed (ci := 8) rfl ly_436 (lay_lt ly_436 (by decide)) rfl (Nat.le_of_ble_eq_true rfl) ⟨Nat.le_of_ble_eq_true rfl, Nat.le_of_ble_eq_true rfl⟩ rfl rfl (ok_X9_replayed p1 I3044 L3046 h) ?_ ?_
        · intro e9 u9 hx9
          exact hx9.elim
        intro v9 u9 hv9
        obtain ⟨r3047, rfl, rfl, h⟩ := hv9
        refine ⟨fun q => absurd q (Nat.lt_irrefl _), ?_⟩
        show V G Y_X9_appeal 66 _ (.int r3047 :: _) _ _ _ _ _
        refine v_istore (ls' := [(4, .int r3047), (3, .int r3042), (2, .int r3041), (0, .ref 436), (1, .int p1)]) (pc' := 68) 41 rfl rfl (by decide) rfl ?_
        refine v_iload (pc' := 70) 42 0 rfl rfl rfl ?_
        refine v_aload_n (pc' := 71) 43 3 rfl rfl rfl rfl ?_
        refine v_iload_n (pc' := 72) 44 4 rfl rfl rfl rfl ?_
        refine v_bipush (v := 7) (pc' := 74) 45 rfl rfl (by decide) ?_
        refine v_cV (Y2 := Y_X9_of) (As := [.int p1, .int 7]) (b := 436) (pc' := 77) (c1 := 0) (s1 := 0) 46 rfl rfl mf_X9_of rfl rfl ml_X9_346 mi_X9_of se_X9_of (ci := 8) rfl ly_436 (lay_lt ly_436 (by decide)) rfl (Nat.le_of_ble_eq_true rfl) ⟨Nat.le_of_ble_eq_true rfl, Nat.le_of_ble_eq_true rfl⟩ rfl rfl (ok_X9_of p1 (7 : Int32) I3044 L3046 h) ?_ ?_
        · intro e9 u9 hx9
          exact hx9.elim
        intro v9 u9 hv9
        obtain ⟨r3048, rfl, rfl, h⟩ := hv9
        refine ⟨fun q => absurd q (Nat.lt_irrefl _), ?_⟩
        show V G Y_X9_appeal 77 _ (.int r3048 :: _) _ _ _ _ _
        refine v_icmp_ne (tgt := 84) (pc' := 80) 47 rfl rfl (by decide) (fun hc => ?_) (fun hc => ?_)
        · replace h := h.1 hc
          refine v_iconst (v := 0) (pc' := 85) 50 rfl rfl (by decide) ?_
          refine V.sub [3, 4, 2, 1, 0] rfl ?_
          exact b_X9_appeal_85 p1 r3041 r3042 r3047 (0 : Int32) I3044 L3046 Q h
        replace h := h.2 hc
        refine v_iconst (v := 1) (pc' := 81) 48 rfl rfl (by decide) ?_
        refine v_goto (tgt := 85) 49 rfl (by decide) ?_
        refine V.sub [3, 4, 2, 1, 0] rfl ?_
        exact b_X9_appeal_85 p1 r3041 r3042 r3047 (1 : Int32) I3044 L3046 Q h
      replace h := h.2 hc
      refine v_bipush (v := -3) (pc' := 52) 32 rfl rfl (by decide) ?_
      exact v_iret 33 rfl rfl (by decide) (by decide) ⟨_, _, _, rfl, rfl, h⟩
    replace h := h.2 hc
    refine v_bipush (v := -2) (pc' := 23) 12 rfl rfl (by decide) ?_
    exact v_iret 13 rfl rfl (by decide) (by decide) ⟨_, _, _, rfl, rfl, h⟩
  replace h := h.2 hc
  refine v_iconst (v := 0) (pc' := 9) 4 rfl rfl (by decide) ?_
  exact v_iret 5 rfl rfl (by decide) (by decide) ⟨_, _, _, rfl, rfl, h⟩
set_option maxHeartbeats 4000000 in
set_option maxRecDepth 100000 in
theorem b_X9_accept_172 {G : GT} {b d t : Nat} (v1 : Int32) (v5 : Int32) (s1 : Int32) (s2 : Int64) (I : TI) (L : TL)  (Q : Int32 → TI → TL → Prop)  (h : B_X9_accept_172 v1 v5 s1 s2 I L Q) : V G Y_X9_accept 172 [(0, .ref 436), (1, .int v1), (5, .int v5)] [.long s2, .int s1, .ref 437] (I, L, RT b d t, 457) 0 0 (fun v9 u9 => ∃ (r9 : Int32) (I9 : TI) (L9 : TL), v9 = some (.int r9) ∧ u9 = (I9, L9, RT b d t, 457) ∧ Q r9 I9 L9) (fun _ _ => False) := by
  unfold B_X9_accept_172 at h
  obtain ⟨hi3107, h⟩ := h
  refine v_last (i := s1) (j := s1.toNatClampNeg) (pc' := 173) 106 rfl rfl ly_437 ln_437 (lay_lt ly_437 (by decide)) hi3107 rfl ?_
  refine v_aload_n (pc' := 174) 107 0 rfl rfl rfl rfl ?_
  refine v_iload_n (pc' := 175) 108 1 rfl rfl rfl rfl ?_
  refine v_bipush (v := 6) (pc' := 177) 109 rfl rfl (by decide) ?_
  refine v_iconst (v := 3) (pc' := 178) 110 rfl rfl (by decide) ?_
  refine v_cV (Y2 := Y_X9_sets) (As := [.int v1, .int 6, .int 3]) (b := 436) (pc' := 181) (c1 := 0) (s1 := 0) 111 rfl rfl mf_X9_sets rfl rfl ml_X9_378 mi_X9_sets se_X9_sets (ci := 8) rfl ly_436 (lay_lt ly_436 (by decide)) rfl (Nat.le_of_ble_eq_true rfl) ⟨Nat.le_of_ble_eq_true rfl, Nat.le_of_ble_eq_true rfl⟩ rfl rfl (ok_X9_sets v1 (6 : Int32) (3 : Int32) I (up2 L 437 (s1.toNatClampNeg) s2) h) ?_ ?_
  · intro e9 u9 hx9
    exact hx9.elim
  intro v9 u9 hv9
  obtain ⟨L3108, rfl, rfl, h⟩ := hv9
  refine ⟨fun q => absurd q (Nat.lt_irrefl _), ?_⟩
  show V G Y_X9_accept 181 _ _ _ _ _ _ _
  refine v_iload (pc' := 183) 112 2 rfl rfl rfl ?_
  exact v_iret 113 rfl rfl (by decide) (by decide) ⟨_, _, _, rfl, rfl, h⟩
set_option maxHeartbeats 4000000 in
set_option maxRecDepth 100000 in
theorem b_X9_accept_115 {G : GT} {b d t : Nat} (v1 : Int32) (v2 : Int32) (v3 : Int64) (v5 : Int32) (s0 : Int32) (I : TI) (L : TL)  (Q : Int32 → TI → TL → Prop)  (h : B_X9_accept_115 v1 v2 v3 v5 s0 I L Q) : V G Y_X9_accept 115 [(0, .ref 436), (1, .int v1), (2, .int v2), (3, .long v3), (5, .int v5)] [.int s0] (I, L, RT b d t, 457) 0 0 (fun v9 u9 => ∃ (r9 : Int32) (I9 : TI) (L9 : TL), v9 = some (.int r9) ∧ u9 = (I9, L9, RT b d t, 457) ∧ Q r9 I9 L9) (fun _ _ => False) := by
  unfold B_X9_accept_115 at h
  refine v_istore (ls' := [(6, .int s0), (0, .ref 436), (1, .int v1), (2, .int v2), (3, .long v3), (5, .int v5)]) (pc' := 117) 69 rfl rfl (by decide) rfl ?_
  refine v_aload_n (pc' := 118) 70 1 rfl rfl rfl rfl ?_
  refine v_getR (t := 437) (pc' := 121) 71 rfl rfl pf_X9_7 ly_436 (lay_lt ly_436 (by decide)) rt_436_1 ?_
  refine v_bipush (v := 21) (pc' := 123) 72 rfl rfl (by decide) ?_
  refine v_iload_n (pc' := 124) 73 3 rfl rfl rfl rfl ?_
  refine v_iadd (pc' := 125) 74 rfl rfl ?_
  refine v_dup2 (pc' := 126) 75 rfl rfl rfl rfl ?_
  obtain ⟨hi3109, h⟩ := h
  refine v_lald (i := ((21 : Int32) + v2)) (j := ((21 : Int32) + v2).toNatClampNeg) (pc' := 127) 76 rfl rfl ly_437 ln_437 (lay_lt ly_437 (by decide)) hi3109 rfl ?_
  refine v_lload_n (pc' := 128) 77 4 rfl rfl rfl rfl ?_
  refine v_lor (pc' := 129) 78 rfl rfl ?_
  obtain ⟨hi3110, h⟩ := h
  refine v_last (i := ((21 : Int32) + v2)) (j := ((21 : Int32) + v2).toNatClampNeg) (pc' := 130) 79 rfl rfl ly_437 ln_437 (lay_lt ly_437 (by decide)) hi3110 rfl ?_
  refine nm_N (e := (up2 L 437 (((21 : Int32) + v2).toNatClampNeg) ((L 437 (((21 : Int32) + v2).toNatClampNeg)) ||| v3))) (fun L3111 hL3111 => ?_)
  replace h := h L3111 hL3111
  refine v_aload_n (pc' := 131) 80 1 rfl rfl rfl rfl ?_
  refine v_getR (t := 437) (pc' := 134) 81 rfl rfl pf_X9_7 ly_436 (lay_lt ly_436 (by decide)) rt_436_1 ?_
  refine v_bipush (v := 33) (pc' := 136) 82 rfl rfl (by decide) ?_
  refine v_iload_n (pc' := 137) 83 3 rfl rfl rfl rfl ?_
  refine v_iadd (pc' := 138) 84 rfl rfl ?_
  refine v_iload (pc' := 140) 85 0 rfl rfl rfl ?_
  refine v_if_eq (tgt := 157) (pc' := 143) 86 rfl rfl (by decide) (fun hc => ?_) (fun hc => ?_)
  · replace h := h.1 hc
    refine v_aload_n (pc' := 158) 96 1 rfl rfl rfl rfl ?_
    refine v_getR (t := 437) (pc' := 161) 97 rfl rfl pf_X9_7 ly_436 (lay_lt ly_436 (by decide)) rt_436_1 ?_
    refine v_bipush (v := 33) (pc' := 163) 98 rfl rfl (by decide) ?_
    refine v_iload_n (pc' := 164) 99 3 rfl rfl rfl rfl ?_
    refine v_iadd (pc' := 165) 100 rfl rfl ?_
    obtain ⟨hi3112, h⟩ := h
    refine v_lald (i := ((33 : Int32) + v2)) (j := ((33 : Int32) + v2).toNatClampNeg) (pc' := 166) 101 rfl rfl ly_437 ln_437 (lay_lt ly_437 (by decide)) hi3112 rfl ?_
    refine v_lload_n (pc' := 167) 102 4 rfl rfl rfl rfl ?_
    refine v_ldc2 (v := -1) (pc' := 170) 103 rfl rfl kl_X9_111 ?_
    refine v_lxor (pc' := 171) 104 rfl rfl ?_
    refine v_land (pc' := 172) 105 rfl rfl ?_
    refine V.sub [1, 2, 5] rfl ?_
    exact b_X9_accept_172 v1 v5 ((33 : Int32) + v2) ((L3111 437 (((33 : Int32) + v2).toNatClampNeg)) &&& (v3 ^^^ (-1))) I L3111 Q h
  replace h := h.2 hc
  refine v_aload_n (pc' := 144) 87 1 rfl rfl rfl rfl ?_
  refine v_getR (t := 437) (pc' := 147) 88 rfl rfl pf_X9_7 ly_436 (lay_lt ly_436 (by decide)) rt_436_1 ?_
  refine v_bipush (v := 33) (pc' := 149) 89 rfl rfl (by decide) ?_
  refine v_iload_n (pc' := 150) 90 3 rfl rfl rfl rfl ?_
  refine v_iadd (pc' := 151) 91 rfl rfl ?_
  obtain ⟨hi3113, h⟩ := h
  refine v_lald (i := ((33 : Int32) + v2)) (j := ((33 : Int32) + v2).toNatClampNeg) (pc' := 152) 92 rfl rfl ly_437 ln_437 (lay_lt ly_437 (by decide)) hi3113 rfl ?_
  refine v_lload_n (pc' := 153) 93 4 rfl rfl rfl rfl ?_
  refine v_lor (pc' := 154) 94 rfl rfl ?_
  refine v_goto (tgt := 172) 95 rfl (by decide) ?_
  refine V.sub [1, 2, 5] rfl ?_
  exact b_X9_accept_172 v1 v5 ((33 : Int32) + v2) ((L3111 437 (((33 : Int32) + v2).toNatClampNeg)) ||| v3) I L3111 Q h
set_option maxHeartbeats 4000000 in
set_option maxRecDepth 100000 in
theorem b_X9_accept_107 {G : GT} {b d t : Nat} (v1 : Int32) (v2 : Int32) (v3 : Int64) (v5 : Int32) (s0 : Int32) (s1 : Int32) (I : TI) (L : TL)  (Q : Int32 → TI → TL → Prop)  (h : B_X9_accept_107 v1 v2 v3 v5 s0 s1 I L Q) : V G Y_X9_accept 107 [(0, .ref 436), (1, .int v1), (2, .int v2), (3, .long v3), (5, .int v5)] [.int s1, .int s0] (I, L, RT b d t, 457) 0 0 (fun v9 u9 => ∃ (r9 : Int32) (I9 : TI) (L9 : TL), v9 = some (.int r9) ∧ u9 = (I9, L9, RT b d t, 457) ∧ Q r9 I9 L9) (fun _ _ => False) := by
  unfold B_X9_accept_107 at h
  refine v_icmp_ne (tgt := 114) (pc' := 110) 65 rfl rfl (by decide) (fun hc => ?_) (fun hc => ?_)
  · replace h := h.1 hc
    refine v_iconst (v := 0) (pc' := 115) 68 rfl rfl (by decide) ?_
    exact b_X9_accept_115 v1 v2 v3 v5 (0 : Int32) I L Q h
  replace h := h.2 hc
  refine v_iconst (v := 1) (pc' := 111) 66 rfl rfl (by decide) ?_
  refine v_goto (tgt := 115) 67 rfl (by decide) ?_
  exact b_X9_accept_115 v1 v2 v3 v5 (1 : Int32) I L Q h
set_option maxHeartbeats 4000000 in
set_option maxRecDepth 100000 in
theorem b_X9_accept_92 {G : GT} {b d t : Nat} (v1 : Int32) (v2 : Int32) (v3 : Int64) (v5 : Int32) (s0 : Int32) (I : TI) (L : TL)  (Q : Int32 → TI → TL → Prop)  (h : B_X9_accept_92 v1 v2 v3 v5 s0 I L Q) : V G Y_X9_accept 92 [(0, .ref 436), (1, .int v1), (2, .int v2), (3, .long v3), (5, .int v5)] [.int s0] (I, L, RT b d t, 457) 0 0 (fun v9 u9 => ∃ (r9 : Int32) (I9 : TI) (L9 : TL), v9 = some (.int r9) ∧ u9 = (I9, L9, RT b d t, 457) ∧ Q r9 I9 L9) (fun _ _ => False) := by
  unfold B_X9_accept_92 at h
  refine v_aload_n (pc' := 93) 56 0 rfl rfl rfl rfl ?_
  refine v_iload_n (pc' := 94) 57 1 rfl rfl rfl rfl ?_
  refine v_iconst (v := 3) (pc' := 95) 58 rfl rfl (by decide) ?_
  refine v_cV (Y2 := Y_X9_of) (As := [.int v1, .int 3]) (b := 436) (pc' := 98) (c1 := 0) (s1 := 0) 59 rfl rfl mf_X9_of rfl rfl ml_X9_346 mi_X9_of se_X9_of (ci := 8) rfl ly_436 (lay_lt ly_436 (by decide)) rfl (Nat.le_of_ble_eq_true rfl) ⟨Nat.le_of_ble_eq_true rfl, Nat.le_of_ble_eq_true rfl⟩ rfl rfl (ok_X9_of v1 (3 : Int32) I L h) ?_ ?_
  · intro e9 u9 hx9
    exact hx9.elim
  intro v9 u9 hv9
  obtain ⟨r3114, rfl, rfl, h⟩ := hv9
  refine ⟨fun q => absurd q (Nat.lt_irrefl _), ?_⟩
  show V G Y_X9_accept 98 _ (.int r3114 :: _) _ _ _ _ _
  refine v_iconst (v := 1) (pc' := 99) 60 rfl rfl (by decide) ?_
  refine v_icmp_ne (tgt := 106) (pc' := 102) 61 rfl rfl (by decide) (fun hc => ?_) (fun hc => ?_)
  · replace h := h.1 hc
    refine v_iconst (v := 0) (pc' := 107) 64 rfl rfl (by decide) ?_
    exact b_X9_accept_107 v1 v2 v3 v5 s0 (0 : Int32) I L Q h
  replace h := h.2 hc
  refine v_iconst (v := 1) (pc' := 103) 62 rfl rfl (by decide) ?_
  refine v_goto (tgt := 107) 63 rfl (by decide) ?_
  exact b_X9_accept_107 v1 v2 v3 v5 s0 (1 : Int32) I L Q h
set_option maxHeartbeats 4000000 in
set_option maxRecDepth 100000 in
theorem ok_X9_accept {G : GT} {b d t : Nat} (p1 : Int32) (I : TI) (L : TL)  {Q : Int32 → TI → TL → Prop} (h : W_X9_accept p1 I L Q) : MW G Y_X9_accept [.ref 436, .int p1] (I, L, RT b d t, 457) (fun v9 u9 => ∃ (r9 : Int32) (I9 : TI) (L9 : TL), v9 = some (.int r9) ∧ u9 = (I9, L9, RT b d t, 457) ∧ Q r9 I9 L9) (fun _ _ => False) := by
  unfold W_X9_accept at h
  refine MW.intro rfl (by decide) is_X9_accept (Nat.le_of_ble_eq_true rfl) ?_
  show V G Y_X9_accept 0 [(0, .ref 436), (1, .int p1)] [] (I, L, RT b d t, 457) 0 0 _ _
  refine v_aload_n (pc' := 1) 0 0 rfl rfl rfl rfl ?_
  refine v_iload_n (pc' := 2) 1 1 rfl rfl rfl rfl ?_
  refine v_cV (Y2 := Y_X9_noDispute) (As := [.int p1]) (b := 436) (pc' := 5) (c1 := 0) (s1 := 0) 2 rfl rfl mf_X9_noDispute rfl rfl ml_X9_352 mi_X9_noDispute se_X9_noDispute (ci := 8) rfl ly_436 (lay_lt ly_436 (by decide)) rfl (Nat.le_of_ble_eq_true rfl) ⟨Nat.le_of_ble_eq_true rfl, Nat.le_of_ble_eq_true rfl⟩ rfl rfl (ok_X9_noDispute p1 I L h) ?_ ?_
  · intro e9 u9 hx9
    exact hx9.elim
  intro v9 u9 hv9
  obtain ⟨r3115, I3116, rfl, rfl, h⟩ := hv9
  refine ⟨fun q => absurd q (Nat.lt_irrefl _), ?_⟩
  show V G Y_X9_accept 5 _ (.int r3115 :: _) _ _ _ _ _
  refine v_if_eq (tgt := 10) (pc' := 8) 3 rfl rfl (by decide) (fun hc => ?_) (fun hc => ?_)
  · replace h := h.1 hc
    refine v_aload_n (pc' := 11) 6 0 rfl rfl rfl rfl ?_
    refine v_iload_n (pc' := 12) 7 1 rfl rfl rfl rfl ?_
    refine v_bipush (v := 6) (pc' := 14) 8 rfl rfl (by decide) ?_
    refine v_cV (Y2 := Y_X9_of) (As := [.int p1, .int 6]) (b := 436) (pc' := 17) (c1 := 0) (s1 := 0) 9 rfl rfl mf_X9_of rfl rfl ml_X9_346 mi_X9_of se_X9_of (ci := 8) rfl ly_436 (lay_lt ly_436 (by decide)) rfl (Nat.le_of_ble_eq_true rfl) ⟨Nat.le_of_ble_eq_true rfl, Nat.le_of_ble_eq_true rfl⟩ rfl rfl (ok_X9_of p1 (6 : Int32) I3116 L h) ?_ ?_
    · intro e9 u9 hx9
      exact hx9.elim
    intro v9 u9 hv9
    obtain ⟨r3117, rfl, rfl, h⟩ := hv9
    refine ⟨fun q => absurd q (Nat.lt_irrefl _), ?_⟩
    show V G Y_X9_accept 17 _ (.int r3117 :: _) _ _ _ _ _
    refine v_iconst (v := 1) (pc' := 18) 10 rfl rfl (by decide) ?_
    refine v_icmp_eq (tgt := 24) (pc' := 21) 11 rfl rfl (by decide) (fun hc => ?_) (fun hc => ?_)
    · replace h := h.1 hc
      refine v_aload_n (pc' := 25) 14 0 rfl rfl rfl rfl ?_
      refine v_cV (Y2 := Y_X9_records) (As := []) (b := 436) (pc' := 28) (c1 := 0) (s1 := 0) 15 rfl rfl mf_X9_records rfl rfl ml_X9_375 mi_X9_records se_X9_records (ci := 8) rfl ly_436 (lay_lt ly_436 (by decide)) rfl (Nat.le_of_ble_eq_true rfl) ⟨Nat.le_of_ble_eq_true rfl, Nat.le_of_ble_eq_true rfl⟩ rfl rfl (ok_X9_records I3116 L h) ?_ ?_
      · intro e9 u9 hx9
        exact hx9.elim
      intro v9 u9 hv9
      obtain ⟨I3118, L3119, rfl, rfl, h⟩ := hv9
      refine ⟨fun q => absurd q (Nat.lt_irrefl _), ?_⟩
      show V G Y_X9_accept 28 _ _ _ _ _ _ _
      refine v_aload_n (pc' := 29) 16 0 rfl rfl rfl rfl ?_
      refine v_iload_n (pc' := 30) 17 1 rfl rfl rfl rfl ?_
      refine v_iconst (v := 0) (pc' := 31) 18 rfl rfl (by decide) ?_
      refine v_cV (Y2 := Y_X9_of) (As := [.int p1, .int 0]) (b := 436) (pc' := 34) (c1 := 0) (s1 := 0) 19 rfl rfl mf_X9_of rfl rfl ml_X9_346 mi_X9_of se_X9_of (ci := 8) rfl ly_436 (lay_lt ly_436 (by decide)) rfl (Nat.le_of_ble_eq_true rfl) ⟨Nat.le_of_ble_eq_true rfl, Nat.le_of_ble_eq_true rfl⟩ rfl rfl (ok_X9_of p1 (0 : Int32) I3118 L3119 h) ?_ ?_
      · intro e9 u9 hx9
        exact hx9.elim
      intro v9 u9 hv9
      obtain ⟨r3120, rfl, rfl, h⟩ := hv9
      refine ⟨fun q => absurd q (Nat.lt_irrefl _), ?_⟩
      show V G Y_X9_accept 34 _ (.int r3120 :: _) _ _ _ _ _
      refine v_aload_n (pc' := 35) 20 0 rfl rfl rfl rfl ?_
      refine v_getI (pc' := 38) 21 rfl rfl pf_X9_77 ly_436 (lay_lt ly_436 (by decide)) ?_
      refine v_isub (pc' := 39) 22 rfl rfl ?_
      refine v_istore_n (ls' := [(2, .int (r3120 - (I3118 436 10))), (0, .ref 436), (1, .int p1)]) (pc' := 40) 23 rfl rfl rfl (by decide) rfl ?_
      refine v_aload_n (pc' := 41) 24 1 rfl rfl rfl rfl ?_
      refine v_iload_n (pc' := 42) 25 2 rfl rfl rfl rfl ?_
      refine v_cV (Y2 := Y_X9_windowOf) (As := [.int p1]) (b := 436) (pc' := 45) (c1 := 0) (s1 := 0) 26 rfl rfl mf_X9_windowOf rfl rfl ml_X9_349 mi_X9_windowOf se_X9_windowOf (ci := 8) rfl ly_436 (lay_lt ly_436 (by decide)) rfl (Nat.le_of_ble_eq_true rfl) ⟨Nat.le_of_ble_eq_true rfl, Nat.le_of_ble_eq_true rfl⟩ rfl rfl (ok_X9_windowOf p1 I3118 L3119 h) ?_ ?_
      · intro e9 u9 hx9
        exact hx9.elim
      intro v9 u9 hv9
      obtain ⟨r3121, rfl, rfl, h⟩ := hv9
      refine ⟨fun q => absurd q (Nat.lt_irrefl _), ?_⟩
      show V G Y_X9_accept 45 _ (.long r3121 :: _) _ _ _ _ _
      refine v_lstore_n (ls' := [(3, .long r3121), (2, .int (r3120 - (I3118 436 10))), (0, .ref 436), (1, .int p1)]) (pc' := 46) 27 rfl rfl rfl (by decide) rfl ?_
      refine v_lload_n (pc' := 47) 28 0 rfl rfl rfl rfl ?_
      refine v_aload_n (pc' := 48) 29 2 rfl rfl rfl rfl ?_
      refine v_getR (t := 437) (pc' := 51) 30 rfl rfl pf_X9_7 ly_436 (lay_lt ly_436 (by decide)) rt_436_1 ?_
      refine v_bipush (v := 21) (pc' := 53) 31 rfl rfl (by decide) ?_
      refine v_iload_n (pc' := 54) 32 1 rfl rfl rfl rfl ?_
      refine v_iadd (pc' := 55) 33 rfl rfl ?_
      obtain ⟨hi3122, h⟩ := h
      refine v_lald (i := ((21 : Int32) + (r3120 - (I3118 436 10)))) (j := ((21 : Int32) + (r3120 - (I3118 436 10))).toNatClampNeg) (pc' := 56) 34 rfl rfl ly_437 ln_437 (lay_lt ly_437 (by decide)) hi3122 rfl ?_
      refine v_aload_n (pc' := 57) 35 2 rfl rfl rfl rfl ?_
      refine v_getR (t := 437) (pc' := 60) 36 rfl rfl pf_X9_7 ly_436 (lay_lt ly_436 (by decide)) rt_436_1 ?_
      refine v_bipush (v := 9) (pc' := 62) 37 rfl rfl (by decide) ?_
      refine v_iload_n (pc' := 63) 38 1 rfl rfl rfl rfl ?_
      refine v_iadd (pc' := 64) 39 rfl rfl ?_
      obtain ⟨hi3123, h⟩ := h
      refine v_lald (i := ((9 : Int32) + (r3120 - (I3118 436 10)))) (j := ((9 : Int32) + (r3120 - (I3118 436 10))).toNatClampNeg) (pc' := 65) 40 rfl rfl ly_437 ln_437 (lay_lt ly_437 (by decide)) hi3123 rfl ?_
      refine v_lor (pc' := 66) 41 rfl rfl ?_
      refine v_ldc2 (v := -1) (pc' := 69) 42 rfl rfl kl_X9_111 ?_
      refine v_lxor (pc' := 70) 43 rfl rfl ?_
      refine v_land (pc' := 71) 44 rfl rfl ?_
      refine v_cS (Y2 := Y_X9_ones) (As := [.long (r3121 &&& (((L3119 437 (((21 : Int32) + (r3120 - (I3118 436 10))).toNatClampNeg)) ||| (L3119 437 (((9 : Int32) + (r3120 - (I3118 436 10))).toNatClampNeg))) ^^^ (-1)))]) (pc' := 74) (c1 := 0) (s1 := 0) 45 rfl rfl mf_X9_ones rfl rfl ml_X9_137 ms_X9_ones rfl (Nat.le_of_ble_eq_true rfl) ⟨Nat.le_of_ble_eq_true rfl, Nat.le_of_ble_eq_true rfl⟩ rfl rfl (ok_X9_ones (r3121 &&& (((L3119 437 (((21 : Int32) + (r3120 - (I3118 436 10))).toNatClampNeg)) ||| (L3119 437 (((9 : Int32) + (r3120 - (I3118 436 10))).toNatClampNeg))) ^^^ (-1))) I3118 L3119 h) ?_ ?_
      · intro e9 u9 hx9
        exact hx9.elim
      intro v9 u9 hv9
      obtain ⟨r3124, rfl, rfl, h⟩ := hv9
      refine ⟨fun q => absurd q (Nat.lt_irrefl _), ?_⟩
      show V G Y_X9_accept 74 _ (.int r3124 :: _) _ _ _ _ _
      refine v_istore (ls' := [(5, .int r3124), (3, .long r3121), (2, .int (r3120 - (I3118 436 10))), (0, .ref 436), (1, .int p1)]) (pc' := 76) 46 rfl rfl (by decide) rfl ?_
      refine v_aload_n (pc' := 77) 47 3 rfl rfl rfl rfl ?_
      refine v_iload_n (pc' := 78) 48 4 rfl rfl rfl rfl ?_
      refine v_bipush (v := 7) (pc' := 80) 49 rfl rfl (by decide) ?_
      refine v_cV (Y2 := Y_X9_of) (As := [.int p1, .int 7]) (b := 436) (pc' := 83) (c1 := 0) (s1 := 0) 50 rfl rfl mf_X9_of rfl rfl ml_X9_346 mi_X9_of se_X9_of (ci := 8) rfl ly_436 (lay_lt ly_436 (by decide)) rfl (Nat.le_of_ble_eq_true rfl) ⟨Nat.le_of_ble_eq_true rfl, Nat.le_of_ble_eq_true rfl⟩ rfl rfl (ok_X9_of p1 (7 : Int32) I3118 L3119 h) ?_ ?_
      · intro e9 u9 hx9
        exact hx9.elim
      intro v9 u9 hv9
      obtain ⟨r3125, rfl, rfl, h⟩ := hv9
      refine ⟨fun q => absurd q (Nat.lt_irrefl _), ?_⟩
      show V G Y_X9_accept 83 _ (.int r3125 :: _) _ _ _ _ _
      refine v_iconst (v := 1) (pc' := 84) 51 rfl rfl (by decide) ?_
      refine v_icmp_ne (tgt := 91) (pc' := 87) 52 rfl rfl (by decide) (fun hc => ?_) (fun hc => ?_)
      · replace h := h.1 hc
        refine v_iconst (v := 0) (pc' := 92) 55 rfl rfl (by decide) ?_
        refine V.sub [3, 4, 2, 1, 0] rfl ?_
        exact b_X9_accept_92 p1 (r3120 - (I3118 436 10)) r3121 r3124 (0 : Int32) I3118 L3119 Q h
      replace h := h.2 hc
      refine v_iconst (v := 1) (pc' := 88) 53 rfl rfl (by decide) ?_
      refine v_goto (tgt := 92) 54 rfl (by decide) ?_
      refine V.sub [3, 4, 2, 1, 0] rfl ?_
      exact b_X9_accept_92 p1 (r3120 - (I3118 436 10)) r3121 r3124 (1 : Int32) I3118 L3119 Q h
    replace h := h.2 hc
    refine v_bipush (v := -2) (pc' := 23) 12 rfl rfl (by decide) ?_
    exact v_iret 13 rfl rfl (by decide) (by decide) ⟨_, _, _, rfl, rfl, h⟩
  replace h := h.2 hc
  refine v_iconst (v := 0) (pc' := 9) 4 rfl rfl (by decide) ?_
  exact v_iret 5 rfl rfl (by decide) (by decide) ⟨_, _, _, rfl, rfl, h⟩
set_option maxHeartbeats 4000000 in
set_option maxRecDepth 100000 in
theorem ok_X9_replay {G : GT} {b d t : Nat} (p1 : Int32) (p2 : Int32) (p3 : Int32) (I : TI) (L : TL)  {Q : Int32 → TI → TL → Prop} (h : W_X9_replay p1 p2 p3 I L Q) : MW G Y_X9_replay [.ref 436, .int p1, .int p2, .int p3] (I, L, RT b d t, 457) (fun v9 u9 => ∃ (r9 : Int32) (I9 : TI) (L9 : TL), v9 = some (.int r9) ∧ u9 = (I9, L9, RT b d t, 457) ∧ Q r9 I9 L9) (fun _ _ => False) := by
  unfold W_X9_replay at h
  refine MW.intro rfl (by decide) is_X9_replay (Nat.le_of_ble_eq_true rfl) ?_
  show V G Y_X9_replay 0 [(0, .ref 436), (1, .int p1), (2, .int p2), (3, .int p3)] [] (I, L, RT b d t, 457) 0 0 _ _
  refine v_aload_n (pc' := 1) 0 0 rfl rfl rfl rfl ?_
  refine v_iload_n (pc' := 2) 1 1 rfl rfl rfl rfl ?_
  refine v_iload_n (pc' := 3) 2 2 rfl rfl rfl rfl ?_
  refine v_iload_n (pc' := 4) 3 3 rfl rfl rfl rfl ?_
  refine v_cV (Y2 := Y_X9_noTimes) (As := [.int p1, .int p2, .int p3]) (b := 436) (pc' := 7) (c1 := 0) (s1 := 0) 4 rfl rfl mf_X9_noTimes rfl rfl ml_X9_361 mi_X9_noTimes se_X9_noTimes (ci := 8) rfl ly_436 (lay_lt ly_436 (by decide)) rfl (Nat.le_of_ble_eq_true rfl) ⟨Nat.le_of_ble_eq_true rfl, Nat.le_of_ble_eq_true rfl⟩ rfl rfl (ok_X9_noTimes p1 p2 p3 I L h) ?_ ?_
  · intro e9 u9 hx9
    exact hx9.elim
  intro v9 u9 hv9
  obtain ⟨r3137, I3138, rfl, rfl, h⟩ := hv9
  refine ⟨fun q => absurd q (Nat.lt_irrefl _), ?_⟩
  show V G Y_X9_replay 7 _ (.int r3137 :: _) _ _ _ _ _
  refine v_if_eq (tgt := 12) (pc' := 10) 5 rfl rfl (by decide) (fun hc => ?_) (fun hc => ?_)
  · replace h := h.1 hc
    refine v_aload_n (pc' := 13) 8 0 rfl rfl rfl rfl ?_
    refine v_iload_n (pc' := 14) 9 1 rfl rfl rfl rfl ?_
    refine v_iload_n (pc' := 15) 10 2 rfl rfl rfl rfl ?_
    refine v_iload_n (pc' := 16) 11 3 rfl rfl rfl rfl ?_
    refine v_cV (Y2 := Y_X9_costOf) (As := [.int p1, .int p2, .int p3]) (b := 436) (pc' := 19) (c1 := 0) (s1 := 0) 12 rfl rfl mf_X9_costOf rfl rfl ml_X9_339 mi_X9_costOf se_X9_costOf (ci := 8) rfl ly_436 (lay_lt ly_436 (by decide)) rfl (Nat.le_of_ble_eq_true rfl) ⟨Nat.le_of_ble_eq_true rfl, Nat.le_of_ble_eq_true rfl⟩ rfl rfl (ok_X9_costOf p1 p2 p3 I3138 L h) ?_ ?_
    · intro e9 u9 hx9
      exact hx9.elim
    intro v9 u9 hv9
    obtain ⟨r3139, rfl, rfl, h⟩ := hv9
    refine ⟨fun q => absurd q (Nat.lt_irrefl _), ?_⟩
    show V G Y_X9_replay 19 _ (.int r3139 :: _) _ _ _ _ _
    refine v_istore (ls' := [(4, .int r3139), (0, .ref 436), (1, .int p1), (2, .int p2), (3, .int p3)]) (pc' := 21) 13 rfl rfl (by decide) rfl ?_
    refine v_aload_n (pc' := 22) 14 1 rfl rfl rfl rfl ?_
    refine v_getR (t := 437) (pc' := 25) 15 rfl rfl pf_X9_7 ly_436 (lay_lt ly_436 (by decide)) rt_436_1 ?_
    refine v_iconst (v := 3) (pc' := 26) 16 rfl rfl (by decide) ?_
    refine v_lald (i := 3) (j := 3) (pc' := 27) 17 rfl rfl ly_437 ln_437 (lay_lt ly_437 (by decide)) (vp_lit (by decide)) (by decide) ?_
    refine v_iload (pc' := 29) 18 0 rfl rfl rfl ?_
    refine v_i2l (pc' := 30) 19 rfl rfl ?_
    refine v_lc_ge (tgt := 37) (pc' := 34) 20 21 rfl rfl rfl (by decide) (fun hc => ?_) (fun hc => ?_)
    · replace h := h.1 hc
      refine v_aload_n (pc' := 38) 24 1 rfl rfl rfl rfl ?_
      refine v_cV (Y2 := Y_X9_records) (As := []) (b := 436) (pc' := 41) (c1 := 0) (s1 := 0) 25 rfl rfl mf_X9_records rfl rfl ml_X9_375 mi_X9_records se_X9_records (ci := 8) rfl ly_436 (lay_lt ly_436 (by decide)) rfl (Nat.le_of_ble_eq_true rfl) ⟨Nat.le_of_ble_eq_true rfl, Nat.le_of_ble_eq_true rfl⟩ rfl rfl (ok_X9_records I3138 L h) ?_ ?_
      · intro e9 u9 hx9
        exact hx9.elim
      intro v9 u9 hv9
      obtain ⟨I3140, L3141, rfl, rfl, h⟩ := hv9
      refine ⟨fun q => absurd q (Nat.lt_irrefl _), ?_⟩
      show V G Y_X9_replay 41 _ _ _ _ _ _ _
      refine v_iload_n (pc' := 42) 26 2 rfl rfl rfl rfl ?_
      refine v_aload_n (pc' := 43) 27 1 rfl rfl rfl rfl ?_
      refine v_getI (pc' := 46) 28 rfl rfl pf_X9_77 ly_436 (lay_lt ly_436 (by decide)) ?_
      refine v_isub (pc' := 47) 29 rfl rfl ?_
      refine v_istore (ls' := [(5, .int (p1 - (I3140 436 10))), (4, .int r3139), (0, .ref 436), (1, .int p1), (2, .int p2), (3, .int p3)]) (pc' := 49) 30 rfl rfl (by decide) rfl ?_
      refine v_iload_n (pc' := 50) 31 4 rfl rfl rfl rfl ?_
      refine v_iload_n (pc' := 51) 32 5 rfl rfl rfl rfl ?_
      refine v_cS (Y2 := Y_X9_times) (As := [.int p2, .int p3]) (pc' := 54) (c1 := 0) (s1 := 0) 33 rfl rfl mf_X9_times rfl rfl ml_X9_107 ms_X9_times rfl (Nat.le_of_ble_eq_true rfl) ⟨Nat.le_of_ble_eq_true rfl, Nat.le_of_ble_eq_true rfl⟩ rfl rfl (ok_X9_times p2 p3 I3140 L3141 h) ?_ ?_
      · intro e9 u9 hx9
        exact hx9.elim
      intro v9 u9 hv9
      obtain ⟨r3142, rfl, rfl, h⟩ := hv9
      refine ⟨fun q => absurd q (Nat.lt_irrefl _), ?_⟩
      show V G Y_X9_replay 54 _ (.long r3142 :: _) _ _ _ _ _
      refine v_aload_n (pc' := 55) 34 2 rfl rfl rfl rfl ?_
      refine v_getR (t := 437) (pc' := 58) 35 rfl rfl pf_X9_7 ly_436 (lay_lt ly_436 (by decide)) rt_436_1 ?_
      refine v_bipush (v := 9) (pc' := 60) 36 rfl rfl (by decide) ?_
      refine v_iload (pc' := 62) 37 0 rfl rfl rfl ?_
      refine v_iadd (pc' := 63) 38 rfl rfl ?_
      obtain ⟨hi3143, h⟩ := h
      refine v_lald (i := ((9 : Int32) + (p1 - (I3140 436 10)))) (j := ((9 : Int32) + (p1 - (I3140 436 10))).toNatClampNeg) (pc' := 64) 39 rfl rfl ly_437 ln_437 (lay_lt ly_437 (by decide)) hi3143 rfl ?_
      refine v_ldc2 (v := -1) (pc' := 67) 40 rfl rfl kl_X9_111 ?_
      refine v_lxor (pc' := 68) 41 rfl rfl ?_
      refine v_land (pc' := 69) 42 rfl rfl ?_
      refine v_cS (Y2 := Y_X9_ones) (As := [.long (r3142 &&& ((L3141 437 (((9 : Int32) + (p1 - (I3140 436 10))).toNatClampNeg)) ^^^ (-1)))]) (pc' := 72) (c1 := 0) (s1 := 0) 43 rfl rfl mf_X9_ones rfl rfl ml_X9_137 ms_X9_ones rfl (Nat.le_of_ble_eq_true rfl) ⟨Nat.le_of_ble_eq_true rfl, Nat.le_of_ble_eq_true rfl⟩ rfl rfl (ok_X9_ones (r3142 &&& ((L3141 437 (((9 : Int32) + (p1 - (I3140 436 10))).toNatClampNeg)) ^^^ (-1))) I3140 L3141 h) ?_ ?_
      · intro e9 u9 hx9
        exact hx9.elim
      intro v9 u9 hv9
      obtain ⟨r3144, rfl, rfl, h⟩ := hv9
      refine ⟨fun q => absurd q (Nat.lt_irrefl _), ?_⟩
      show V G Y_X9_replay 72 _ (.int r3144 :: _) _ _ _ _ _
      refine v_istore (ls' := [(6, .int r3144), (5, .int (p1 - (I3140 436 10))), (4, .int r3139), (0, .ref 436), (1, .int p1), (2, .int p2), (3, .int p3)]) (pc' := 74) 44 rfl rfl (by decide) rfl ?_
      refine v_aload_n (pc' := 75) 45 3 rfl rfl rfl rfl ?_
      refine v_getR (t := 437) (pc' := 78) 46 rfl rfl pf_X9_7 ly_436 (lay_lt ly_436 (by decide)) rt_436_1 ?_
      refine v_iconst (v := 3) (pc' := 79) 47 rfl rfl (by decide) ?_
      refine v_dup2 (pc' := 80) 48 rfl rfl rfl rfl ?_
      refine v_lald (i := 3) (j := 3) (pc' := 81) 49 rfl rfl ly_437 ln_437 (lay_lt ly_437 (by decide)) (vp_lit (by decide)) (by decide) ?_
      refine v_iload (pc' := 83) 50 2 rfl rfl rfl ?_
      refine v_i2l (pc' := 84) 51 rfl rfl ?_
      refine v_lsub (pc' := 85) 52 rfl rfl ?_
      refine v_last (i := 3) (j := 3) (pc' := 86) 53 rfl rfl ly_437 ln_437 (lay_lt ly_437 (by decide)) (vp_lit (by decide)) (by decide) ?_
      refine v_aload_n (pc' := 87) 54 3 rfl rfl rfl rfl ?_
      refine v_getR (t := 437) (pc' := 90) 55 rfl rfl pf_X9_7 ly_436 (lay_lt ly_436 (by decide)) rt_436_1 ?_
      refine v_bipush (v := 9) (pc' := 92) 56 rfl rfl (by decide) ?_
      refine v_iload (pc' := 94) 57 1 rfl rfl rfl ?_
      refine v_iadd (pc' := 95) 58 rfl rfl ?_
      refine v_dup2 (pc' := 96) 59 rfl rfl rfl rfl ?_
      obtain ⟨hi3145, h⟩ := h
      refine v_lald (i := ((9 : Int32) + (p1 - (I3140 436 10)))) (j := ((9 : Int32) + (p1 - (I3140 436 10))).toNatClampNeg) (pc' := 97) 60 rfl rfl ly_437 ln_437 (lay_lt ly_437 (by decide)) hi3145 rfl ?_
      refine v_iload_n (pc' := 98) 61 5 rfl rfl rfl rfl ?_
      refine v_iload_n (pc' := 99) 62 6 rfl rfl rfl rfl ?_
      refine v_cS (Y2 := Y_X9_times) (As := [.int p2, .int p3]) (pc' := 102) (c1 := 0) (s1 := 0) 63 rfl rfl mf_X9_times rfl rfl ml_X9_107 ms_X9_times rfl (Nat.le_of_ble_eq_true rfl) ⟨Nat.le_of_ble_eq_true rfl, Nat.le_of_ble_eq_true rfl⟩ rfl rfl (ok_X9_times p2 p3 I3140 (up2 L3141 437 3 ((L3141 437 3) - (r3139.toInt64))) h) ?_ ?_
      · intro e9 u9 hx9
        exact hx9.elim
      intro v9 u9 hv9
      obtain ⟨r3146, rfl, rfl, h⟩ := hv9
      refine ⟨fun q => absurd q (Nat.lt_irrefl _), ?_⟩
      show V G Y_X9_replay 102 _ (.long r3146 :: _) _ _ _ _ _
      refine v_lor (pc' := 103) 64 rfl rfl ?_
      obtain ⟨hi3147, h⟩ := h
      refine v_last (i := ((9 : Int32) + (p1 - (I3140 436 10)))) (j := ((9 : Int32) + (p1 - (I3140 436 10))).toNatClampNeg) (pc' := 104) 65 rfl rfl ly_437 ln_437 (lay_lt ly_437 (by decide)) hi3147 rfl ?_
      refine nm_N (e := (up2 (up2 L3141 437 3 ((L3141 437 3) - (r3139.toInt64))) 437 (((9 : Int32) + (p1 - (I3140 436 10))).toNatClampNeg) (((up2 L3141 437 3 ((L3141 437 3) - (r3139.toInt64))) 437 (((9 : Int32) + (p1 - (I3140 436 10))).toNatClampNeg)) ||| r3146))) (fun L3148 hL3148 => ?_)
      replace h := h L3148 hL3148
      refine v_iload (pc' := 106) 66 0 rfl rfl rfl ?_
      exact v_iret 67 rfl rfl (by decide) (by decide) ⟨_, _, _, rfl, rfl, h⟩
    replace h := h.2 hc
    refine v_bipush (v := -3) (pc' := 36) 22 rfl rfl (by decide) ?_
    exact v_iret 23 rfl rfl (by decide) (by decide) ⟨_, _, _, rfl, rfl, h⟩
  replace h := h.2 hc
  refine v_iconst (v := 0) (pc' := 11) 6 rfl rfl (by decide) ?_
  exact v_iret 7 rfl rfl (by decide) (by decide) ⟨_, _, _, rfl, rfl, h⟩
set_option maxHeartbeats 4000000 in
set_option maxRecDepth 100000 in
theorem b_X9_forgets_138 {G : GT} {b d t : Nat} (v2 : Int64) (v4 : Int32) (v5 : Int32) (I : TI) (L : TL)  (Q : Int32 → TL → Prop) (R82 : Int32 → Int32 → TL → Prop) (hR82 : ∀ (v4 : Int32) (v5 : Int32) (L : TL), R82 v4 v5 L → V G Y_X9_forgets 82 [(0, .ref 436), (2, .long v2), (4, .int v4), (5, .int v5)] [] (I, L, RT b d t, 457) 0 0 (fun v9 u9 => ∃ (r9 : Int32) (L9 : TL), v9 = some (.int r9) ∧ u9 = (I, L9, RT b d t, 457) ∧ Q r9 L9) (fun _ _ => False)) (h : B_X9_forgets_138 v2 v4 v5 I L Q R82) : V G Y_X9_forgets 138 [(0, .ref 436), (2, .long v2), (4, .int v4), (5, .int v5)] [] (I, L, RT b d t, 457) 0 0 (fun v9 u9 => ∃ (r9 : Int32) (L9 : TL), v9 = some (.int r9) ∧ u9 = (I, L9, RT b d t, 457) ∧ Q r9 L9) (fun _ _ => False) := by
  unfold B_X9_forgets_138 at h
  refine v_iinc (v := (v5 + 1)) (ls' := [(5, .int (v5 + 1)), (0, .ref 436), (2, .long v2), (4, .int v4)]) (pc' := 141) 81 3 rfl rfl rfl rfl (by decide) rfl ?_
  refine v_goto (tgt := 82) 82 rfl (by decide) ?_
  refine V.sub [1, 2, 3, 0] rfl ?_
  exact hR82 v4 (v5 + 1) L h
set_option maxHeartbeats 4000000 in
set_option maxRecDepth 100000 in
theorem d_X9_forgets_82 {G : GT} {b d t : Nat} (v2 : Int64) (I : TI)  (Q : Int32 → TL → Prop) (R82 : Int32 → Int32 → TL → Prop)  (hR82 : ∀ (v4 : Int32) (v5 : Int32) (L : TL), R82 v4 v5 L → V G Y_X9_forgets 82 [(0, .ref 436), (2, .long v2), (4, .int v4), (5, .int v5)] [] (I, L, RT b d t, 457) 0 0 (fun v9 u9 => ∃ (r9 : Int32) (L9 : TL), v9 = some (.int r9) ∧ u9 = (I, L9, RT b d t, 457) ∧ Q r9 L9) (fun _ _ => False)) (v4 : Int32) (v5 : Int32) (L : TL)  (h : D_X9_forgets_82 v2 I Q R82 v4 v5 L) : V G Y_X9_forgets 82 [(0, .ref 436), (2, .long v2), (4, .int v4), (5, .int v5)] [] (I, L, RT b d t, 457) 0 0 (fun v9 u9 => ∃ (r9 : Int32) (L9 : TL), v9 = some (.int r9) ∧ u9 = (I, L9, RT b d t, 457) ∧ Q r9 L9) (fun _ _ => False) := by
  unfold D_X9_forgets_82 at h
  refine v_iload (pc' := 84) 49 3 rfl rfl rfl ?_
  refine v_i2l (pc' := 85) 50 rfl rfl ?_
  refine v_aload_n (pc' := 86) 51 0 rfl rfl rfl rfl ?_
  refine v_getR (t := 437) (pc' := 89) 52 rfl rfl pf_X9_7 ly_436 (lay_lt ly_436 (by decide)) rt_436_1 ?_
  refine v_iconst (v := 4) (pc' := 90) 53 rfl rfl (by decide) ?_
  refine v_lald (i := 4) (j := 4) (pc' := 91) 54 rfl rfl ly_437 ln_437 (lay_lt ly_437 (by decide)) (vp_lit (by decide)) (by decide) ?_
  refine v_lc_ge (tgt := 144) (pc' := 95) 55 56 rfl rfl rfl (by decide) (fun hc => ?_) (fun hc => ?_)
  · replace h := h.1 hc
    refine v_iload (pc' := 146) 83 2 rfl rfl rfl ?_
    exact v_iret 84 rfl rfl (by decide) (by decide) ⟨_, _, rfl, rfl, h⟩
  replace h := h.2 hc
  refine v_lload_n (pc' := 96) 57 1 rfl rfl rfl rfl ?_
  refine v_aload_n (pc' := 97) 58 0 rfl rfl rfl rfl ?_
  refine v_iload (pc' := 99) 59 3 rfl rfl rfl ?_
  refine v_iconst (v := 0) (pc' := 100) 60 rfl rfl (by decide) ?_
  refine v_cV (Y2 := Y_X9_of) (As := [.int v5, .int 0]) (b := 436) (pc' := 103) (c1 := 0) (s1 := 0) 61 rfl rfl mf_X9_of rfl rfl ml_X9_346 mi_X9_of se_X9_of (ci := 8) rfl ly_436 (lay_lt ly_436 (by decide)) rfl (Nat.le_of_ble_eq_true rfl) ⟨Nat.le_of_ble_eq_true rfl, Nat.le_of_ble_eq_true rfl⟩ rfl rfl (ok_X9_of v5 (0 : Int32) I L h) ?_ ?_
  · intro e9 u9 hx9
    exact hx9.elim
  intro v9 u9 hv9
  obtain ⟨r3167, rfl, rfl, h⟩ := hv9
  refine ⟨fun q => absurd q (Nat.lt_irrefl _), ?_⟩
  show V G Y_X9_forgets 103 _ (.int r3167 :: _) _ _ _ _ _
  refine v_lshr (pc' := 104) 62 rfl rfl ?_
  refine v_lconst (v := 1) (pc' := 105) 63 rfl rfl (by decide) ?_
  refine v_land (pc' := 106) 64 rfl rfl ?_
  refine v_lconst (v := 0) (pc' := 107) 65 rfl rfl (by decide) ?_
  refine v_lc_eq (tgt := 138) (pc' := 111) 66 67 rfl rfl rfl (by decide) (fun hc => ?_) (fun hc => ?_)
  · replace h := h.1 hc
    exact b_X9_forgets_138 v2 v4 v5 I L Q R82 hR82 h
  replace h := h.2 hc
  refine v_aload_n (pc' := 112) 68 0 rfl rfl rfl rfl ?_
  refine v_iload (pc' := 114) 69 3 rfl rfl rfl ?_
  refine v_bipush (v := 6) (pc' := 116) 70 rfl rfl (by decide) ?_
  refine v_cV (Y2 := Y_X9_of) (As := [.int v5, .int 6]) (b := 436) (pc' := 119) (c1 := 0) (s1 := 0) 71 rfl rfl mf_X9_of rfl rfl ml_X9_346 mi_X9_of se_X9_of (ci := 8) rfl ly_436 (lay_lt ly_436 (by decide)) rfl (Nat.le_of_ble_eq_true rfl) ⟨Nat.le_of_ble_eq_true rfl, Nat.le_of_ble_eq_true rfl⟩ rfl rfl (ok_X9_of v5 (6 : Int32) I L h) ?_ ?_
  · intro e9 u9 hx9
    exact hx9.elim
  intro v9 u9 hv9
  obtain ⟨r3168, rfl, rfl, h⟩ := hv9
  refine ⟨fun q => absurd q (Nat.lt_irrefl _), ?_⟩
  show V G Y_X9_forgets 119 _ (.int r3168 :: _) _ _ _ _ _
  refine v_iconst (v := 1) (pc' := 120) 72 rfl rfl (by decide) ?_
  refine v_icmp_le (tgt := 126) (pc' := 123) 73 rfl rfl (by decide) (fun hc => ?_) (fun hc => ?_)
  · replace h := h.1 hc
    refine v_aload_n (pc' := 127) 75 0 rfl rfl rfl rfl ?_
    refine v_iload (pc' := 129) 76 3 rfl rfl rfl ?_
    refine v_bipush (v := 6) (pc' := 131) 77 rfl rfl (by decide) ?_
    refine v_iconst (v := 4) (pc' := 132) 78 rfl rfl (by decide) ?_
    refine v_cV (Y2 := Y_X9_sets) (As := [.int v5, .int 6, .int 4]) (b := 436) (pc' := 135) (c1 := 0) (s1 := 0) 79 rfl rfl mf_X9_sets rfl rfl ml_X9_378 mi_X9_sets se_X9_sets (ci := 8) rfl ly_436 (lay_lt ly_436 (by decide)) rfl (Nat.le_of_ble_eq_true rfl) ⟨Nat.le_of_ble_eq_true rfl, Nat.le_of_ble_eq_true rfl⟩ rfl rfl (ok_X9_sets v5 (6 : Int32) (4 : Int32) I L h) ?_ ?_
    · intro e9 u9 hx9
      exact hx9.elim
    intro v9 u9 hv9
    obtain ⟨L3169, rfl, rfl, h⟩ := hv9
    refine ⟨fun q => absurd q (Nat.lt_irrefl _), ?_⟩
    show V G Y_X9_forgets 135 _ _ _ _ _ _ _
    refine v_iinc (v := (v4 + 1)) (ls' := [(4, .int (v4 + 1)), (0, .ref 436), (2, .long v2), (5, .int v5)]) (pc' := 138) 80 2 rfl rfl rfl rfl (by decide) rfl ?_
    refine V.sub [1, 2, 0, 3] rfl ?_
    exact b_X9_forgets_138 v2 (v4 + 1) v5 I L3169 Q R82 hR82 h
  replace h := h.2 hc
  refine v_goto (tgt := 138) 74 rfl (by decide) ?_
  exact b_X9_forgets_138 v2 v4 v5 I L Q R82 hR82 h
theorem l_X9_forgets_82 {G : GT} {b d t : Nat} (v2 : Int64) (I : TI)  (Q : Int32 → TL → Prop)  : ∀ (n9 : Nat) (v4 : Int32) (v5 : Int32) (L : TL), L_X9_forgets_82 v2 I Q n9 v4 v5 L → V G Y_X9_forgets 82 [(0, .ref 436), (2, .long v2), (4, .int v4), (5, .int v5)] [] (I, L, RT b d t, 457) 0 0 (fun v9 u9 => ∃ (r9 : Int32) (L9 : TL), v9 = some (.int r9) ∧ u9 = (I, L9, RT b d t, 457) ∧ Q r9 L9) (fun _ _ => False)
  | 0, _, _, _, h => h.elim
  | n9 + 1, v4, v5, L, h => d_X9_forgets_82 v2 I Q _ (l_X9_forgets_82 v2 I Q n9) v4 v5 L h
set_option maxHeartbeats 4000000 in
set_option maxRecDepth 100000 in
theorem b_X9_forgets_73 {G : GT} {b d t : Nat} (v2 : Int64) (v4 : Int32) (v5 : Int32) (I : TI) (L : TL)  (Q : Int32 → TL → Prop) (R12 : Int32 → TL → Prop) (hR12 : ∀ (v5 : Int32) (L : TL), R12 v5 L → V G Y_X9_forgets 12 [(0, .ref 436), (2, .long v2), (4, .int v4), (5, .int v5)] [] (I, L, RT b d t, 457) 0 0 (fun v9 u9 => ∃ (r9 : Int32) (L9 : TL), v9 = some (.int r9) ∧ u9 = (I, L9, RT b d t, 457) ∧ Q r9 L9) (fun _ _ => False)) (h : B_X9_forgets_73 v2 v4 v5 I L Q R12) : V G Y_X9_forgets 73 [(0, .ref 436), (2, .long v2), (4, .int v4), (5, .int v5)] [] (I, L, RT b d t, 457) 0 0 (fun v9 u9 => ∃ (r9 : Int32) (L9 : TL), v9 = some (.int r9) ∧ u9 = (I, L9, RT b d t, 457) ∧ Q r9 L9) (fun _ _ => False) := by
  unfold B_X9_forgets_73 at h
  refine v_iinc (v := (v5 + 1)) (ls' := [(5, .int (v5 + 1)), (0, .ref 436), (2, .long v2), (4, .int v4)]) (pc' := 76) 45 3 rfl rfl rfl rfl (by decide) rfl ?_
  refine v_goto (tgt := 12) 46 rfl (by decide) ?_
  refine V.sub [1, 2, 3, 0] rfl ?_
  exact hR12 (v5 + 1) L h
set_option maxHeartbeats 4000000 in
set_option maxRecDepth 100000 in
theorem d_X9_forgets_12 {G : GT} {b d t : Nat} (v2 : Int64) (v4 : Int32) (I : TI)  (Q : Int32 → TL → Prop) (R12 : Int32 → TL → Prop)  (hR12 : ∀ (v5 : Int32) (L : TL), R12 v5 L → V G Y_X9_forgets 12 [(0, .ref 436), (2, .long v2), (4, .int v4), (5, .int v5)] [] (I, L, RT b d t, 457) 0 0 (fun v9 u9 => ∃ (r9 : Int32) (L9 : TL), v9 = some (.int r9) ∧ u9 = (I, L9, RT b d t, 457) ∧ Q r9 L9) (fun _ _ => False)) (v5 : Int32) (L : TL)  (h : D_X9_forgets_12 v2 v4 I Q R12 v5 L) : V G Y_X9_forgets 12 [(0, .ref 436), (2, .long v2), (4, .int v4), (5, .int v5)] [] (I, L, RT b d t, 457) 0 0 (fun v9 u9 => ∃ (r9 : Int32) (L9 : TL), v9 = some (.int r9) ∧ u9 = (I, L9, RT b d t, 457) ∧ Q r9 L9) (fun _ _ => False) := by
  unfold D_X9_forgets_12 at h
  refine v_iload (pc' := 14) 8 3 rfl rfl rfl ?_
  refine v_aload_n (pc' := 15) 9 0 rfl rfl rfl rfl ?_
  refine v_getI (pc' := 18) 10 rfl rfl pf_X9_83 ly_436 (lay_lt ly_436 (by decide)) ?_
  refine v_icmp_ge (tgt := 79) (pc' := 21) 11 rfl rfl (by decide) (fun hc => ?_) (fun hc => ?_)
  · replace h := h.1 hc
    refine v_iconst (v := 0) (pc' := 80) 47 rfl rfl (by decide) ?_
    refine v_istore (ls' := [(5, .int 0), (0, .ref 436), (2, .long v2), (4, .int v4)]) (pc' := 82) 48 rfl rfl (by decide) rfl ?_
    refine V.sub [1, 2, 3, 0] rfl ?_
    obtain ⟨n3170, h⟩ := h
    exact l_X9_forgets_82 v2 I Q n3170 v4 (0 : Int32) L h
  replace h := h.2 hc
  refine v_lload_n (pc' := 22) 12 1 rfl rfl rfl rfl ?_
  refine v_aload_n (pc' := 23) 13 0 rfl rfl rfl rfl ?_
  refine v_getI (pc' := 26) 14 rfl rfl pf_X9_77 ly_436 (lay_lt ly_436 (by decide)) ?_
  refine v_iload (pc' := 28) 15 3 rfl rfl rfl ?_
  refine v_iadd (pc' := 29) 16 rfl rfl ?_
  refine v_lshr (pc' := 30) 17 rfl rfl ?_
  refine v_lconst (v := 1) (pc' := 31) 18 rfl rfl (by decide) ?_
  refine v_land (pc' := 32) 19 rfl rfl ?_
  refine v_lconst (v := 0) (pc' := 33) 20 rfl rfl (by decide) ?_
  refine v_lc_ne (tgt := 40) (pc' := 37) 21 22 rfl rfl rfl (by decide) (fun hc => ?_) (fun hc => ?_)
  · replace h := h.1 hc
    refine v_aload_n (pc' := 41) 24 0 rfl rfl rfl rfl ?_
    refine v_getR (t := 437) (pc' := 44) 25 rfl rfl pf_X9_7 ly_436 (lay_lt ly_436 (by decide)) rt_436_1 ?_
    refine v_bipush (v := 9) (pc' := 46) 26 rfl rfl (by decide) ?_
    refine v_iload (pc' := 48) 27 3 rfl rfl rfl ?_
    refine v_iadd (pc' := 49) 28 rfl rfl ?_
    refine v_lconst (v := 0) (pc' := 50) 29 rfl rfl (by decide) ?_
    obtain ⟨hi3171, h⟩ := h
    refine v_last (i := ((9 : Int32) + v5)) (j := ((9 : Int32) + v5).toNatClampNeg) (pc' := 51) 30 rfl rfl ly_437 ln_437 (lay_lt ly_437 (by decide)) hi3171 rfl ?_
    refine v_aload_n (pc' := 52) 31 0 rfl rfl rfl rfl ?_
    refine v_getR (t := 437) (pc' := 55) 32 rfl rfl pf_X9_7 ly_436 (lay_lt ly_436 (by decide)) rt_436_1 ?_
    refine v_bipush (v := 21) (pc' := 57) 33 rfl rfl (by decide) ?_
    refine v_iload (pc' := 59) 34 3 rfl rfl rfl ?_
    refine v_iadd (pc' := 60) 35 rfl rfl ?_
    refine v_lconst (v := 0) (pc' := 61) 36 rfl rfl (by decide) ?_
    obtain ⟨hi3172, h⟩ := h
    refine v_last (i := ((21 : Int32) + v5)) (j := ((21 : Int32) + v5).toNatClampNeg) (pc' := 62) 37 rfl rfl ly_437 ln_437 (lay_lt ly_437 (by decide)) hi3172 rfl ?_
    refine nm_N (e := (up2 (up2 L 437 (((9 : Int32) + v5).toNatClampNeg) 0) 437 (((21 : Int32) + v5).toNatClampNeg) 0)) (fun L3173 hL3173 => ?_)
    replace h := h L3173 hL3173
    refine v_aload_n (pc' := 63) 38 0 rfl rfl rfl rfl ?_
    refine v_getR (t := 437) (pc' := 66) 39 rfl rfl pf_X9_7 ly_436 (lay_lt ly_436 (by decide)) rt_436_1 ?_
    refine v_bipush (v := 33) (pc' := 68) 40 rfl rfl (by decide) ?_
    refine v_iload (pc' := 70) 41 3 rfl rfl rfl ?_
    refine v_iadd (pc' := 71) 42 rfl rfl ?_
    refine v_lconst (v := 0) (pc' := 72) 43 rfl rfl (by decide) ?_
    obtain ⟨hi3174, h⟩ := h
    refine v_last (i := ((33 : Int32) + v5)) (j := ((33 : Int32) + v5).toNatClampNeg) (pc' := 73) 44 rfl rfl ly_437 ln_437 (lay_lt ly_437 (by decide)) hi3174 rfl ?_
    exact b_X9_forgets_73 v2 v4 v5 I (up2 L3173 437 (((33 : Int32) + v5).toNatClampNeg) 0) Q R12 hR12 h
  replace h := h.2 hc
  refine v_goto (tgt := 73) 23 rfl (by decide) ?_
  exact b_X9_forgets_73 v2 v4 v5 I L Q R12 hR12 h
theorem l_X9_forgets_12 {G : GT} {b d t : Nat} (v2 : Int64) (v4 : Int32) (I : TI)  (Q : Int32 → TL → Prop)  : ∀ (n9 : Nat) (v5 : Int32) (L : TL), L_X9_forgets_12 v2 v4 I Q n9 v5 L → V G Y_X9_forgets 12 [(0, .ref 436), (2, .long v2), (4, .int v4), (5, .int v5)] [] (I, L, RT b d t, 457) 0 0 (fun v9 u9 => ∃ (r9 : Int32) (L9 : TL), v9 = some (.int r9) ∧ u9 = (I, L9, RT b d t, 457) ∧ Q r9 L9) (fun _ _ => False)
  | 0, _, _, h => h.elim
  | n9 + 1, v5, L, h => d_X9_forgets_12 v2 v4 I Q _ (l_X9_forgets_12 v2 v4 I Q n9) v5 L h
set_option maxHeartbeats 4000000 in
set_option maxRecDepth 100000 in
theorem ok_X9_forgets {G : GT} {b d t : Nat} (p1 : Int32) (I : TI) (L : TL)  {Q : Int32 → TL → Prop} (h : W_X9_forgets p1 I L Q) : MW G Y_X9_forgets [.ref 436, .int p1] (I, L, RT b d t, 457) (fun v9 u9 => ∃ (r9 : Int32) (L9 : TL), v9 = some (.int r9) ∧ u9 = (I, L9, RT b d t, 457) ∧ Q r9 L9) (fun _ _ => False) := by
  unfold W_X9_forgets at h
  refine MW.intro rfl (by decide) is_X9_forgets (Nat.le_of_ble_eq_true rfl) ?_
  show V G Y_X9_forgets 0 [(0, .ref 436), (1, .int p1)] [] (I, L, RT b d t, 457) 0 0 _ _
  refine v_aload_n (pc' := 1) 0 0 rfl rfl rfl rfl ?_
  refine v_iload_n (pc' := 2) 1 1 rfl rfl rfl rfl ?_
  refine v_cV (Y2 := Y_X9_touched) (As := [.int p1]) (b := 436) (pc' := 5) (c1 := 0) (s1 := 0) 2 rfl rfl mf_X9_touched rfl rfl ml_X9_328 mi_X9_touched se_X9_touched (ci := 8) rfl ly_436 (lay_lt ly_436 (by decide)) rfl (Nat.le_of_ble_eq_true rfl) ⟨Nat.le_of_ble_eq_true rfl, Nat.le_of_ble_eq_true rfl⟩ rfl rfl (ok_X9_touched p1 I L h) ?_ ?_
  · intro e9 u9 hx9
    exact hx9.elim
  intro v9 u9 hv9
  obtain ⟨r3175, rfl, rfl, h⟩ := hv9
  refine ⟨fun q => absurd q (Nat.lt_irrefl _), ?_⟩
  show V G Y_X9_forgets 5 _ (.long r3175 :: _) _ _ _ _ _
  refine v_lstore_n (ls' := [(2, .long r3175), (0, .ref 436), (1, .int p1)]) (pc' := 6) 3 rfl rfl rfl (by decide) rfl ?_
  refine v_iconst (v := 0) (pc' := 7) 4 rfl rfl (by decide) ?_
  refine v_istore (ls' := [(4, .int 0), (2, .long r3175), (0, .ref 436), (1, .int p1)]) (pc' := 9) 5 rfl rfl (by decide) rfl ?_
  refine v_iconst (v := 0) (pc' := 10) 6 rfl rfl (by decide) ?_
  refine v_istore (ls' := [(5, .int 0), (4, .int 0), (2, .long r3175), (0, .ref 436), (1, .int p1)]) (pc' := 12) 7 rfl rfl (by decide) rfl ?_
  refine V.sub [3, 2, 1, 0] rfl ?_
  obtain ⟨n3176, h⟩ := h
  exact l_X9_forgets_12 r3175 (0 : Int32) I Q n3176 (0 : Int32) L h
set_option maxHeartbeats 4000000 in
set_option maxRecDepth 100000 in
theorem b_X9_setDelay_38 {G : GT} {b d t : Nat} (v1 : Int32) (v2 : Int32) (v3 : Int32) (s1 : Int32) (I : TI) (L : TL)  (Q : Int32 → TI → TL → Prop)  (h : B_X9_setDelay_38 v1 v2 v3 s1 I L Q) : V G Y_X9_setDelay 38 [(0, .ref 436), (1, .int v1), (2, .int v2), (3, .int v3)] [.int s1, .ref 436] (I, L, RT b d t, 457) 0 0 (fun v9 u9 => ∃ (r9 : Int32) (I9 : TI) (L9 : TL), v9 = some (.int r9) ∧ u9 = (I9, L9, RT b d t, 457) ∧ Q r9 I9 L9) (fun _ _ => False) := by
  unfold B_X9_setDelay_38 at h
  refine v_iconst (v := 2) (pc' := 39) 20 rfl rfl (by decide) ?_
  refine v_cV (Y2 := Y_X9_fails) (As := [.int s1, .int 2]) (b := 436) (pc' := 42) (c1 := 0) (s1 := 0) 21 rfl rfl mf_X9_fails rfl rfl ml_X9_280 mi_X9_fails se_X9_fails (ci := 8) rfl ly_436 (lay_lt ly_436 (by decide)) rfl (Nat.le_of_ble_eq_true rfl) ⟨Nat.le_of_ble_eq_true rfl, Nat.le_of_ble_eq_true rfl⟩ rfl rfl (ok_X9_fails s1 (2 : Int32) I L h) ?_ ?_
  · intro e9 u9 hx9
    exact hx9.elim
  intro v9 u9 hv9
  obtain ⟨r3201, I3202, rfl, rfl, h⟩ := hv9
  refine ⟨fun q => absurd q (Nat.lt_irrefl _), ?_⟩
  show V G Y_X9_setDelay 42 _ (.int r3201 :: _) _ _ _ _ _
  refine v_if_eq (tgt := 47) (pc' := 45) 22 rfl rfl (by decide) (fun hc => ?_) (fun hc => ?_)
  · replace h := h.1 hc
    refine v_aload_n (pc' := 48) 25 0 rfl rfl rfl rfl ?_
    refine v_cV (Y2 := Y_X9_records) (As := []) (b := 436) (pc' := 51) (c1 := 0) (s1 := 0) 26 rfl rfl mf_X9_records rfl rfl ml_X9_375 mi_X9_records se_X9_records (ci := 8) rfl ly_436 (lay_lt ly_436 (by decide)) rfl (Nat.le_of_ble_eq_true rfl) ⟨Nat.le_of_ble_eq_true rfl, Nat.le_of_ble_eq_true rfl⟩ rfl rfl (ok_X9_records I3202 L h) ?_ ?_
    · intro e9 u9 hx9
      exact hx9.elim
    intro v9 u9 hv9
    obtain ⟨I3203, L3204, rfl, rfl, h⟩ := hv9
    refine ⟨fun q => absurd q (Nat.lt_irrefl _), ?_⟩
    show V G Y_X9_setDelay 51 _ _ _ _ _ _ _
    refine v_aload_n (pc' := 52) 27 0 rfl rfl rfl rfl ?_
    refine v_iload_n (pc' := 53) 28 1 rfl rfl rfl rfl ?_
    refine v_iload_n (pc' := 54) 29 2 rfl rfl rfl rfl ?_
    refine v_cV (Y2 := Y_X9_delayOf) (As := [.int v1, .int v2]) (b := 436) (pc' := 57) (c1 := 0) (s1 := 0) 30 rfl rfl mf_X9_delayOf rfl rfl ml_X9_160 mi_X9_delayOf se_X9_delayOf (ci := 8) rfl ly_436 (lay_lt ly_436 (by decide)) rfl (Nat.le_of_ble_eq_true rfl) ⟨Nat.le_of_ble_eq_true rfl, Nat.le_of_ble_eq_true rfl⟩ rfl rfl (ok_X9_delayOf v1 v2 I3203 L3204 h) ?_ ?_
    · intro e9 u9 hx9
      exact hx9.elim
    intro v9 u9 hv9
    obtain ⟨r3205, rfl, rfl, h⟩ := hv9
    refine ⟨fun q => absurd q (Nat.lt_irrefl _), ?_⟩
    show V G Y_X9_setDelay 57 _ (.int r3205 :: _) _ _ _ _ _
    refine v_istore (ls' := [(4, .int r3205), (0, .ref 436), (1, .int v1), (2, .int v2), (3, .int v3)]) (pc' := 59) 31 rfl rfl (by decide) rfl ?_
    refine v_aload_n (pc' := 60) 32 1 rfl rfl rfl rfl ?_
    refine v_getR (t := 437) (pc' := 63) 33 rfl rfl pf_X9_7 ly_436 (lay_lt ly_436 (by decide)) rt_436_1 ?_
    refine v_bipush (v := 45) (pc' := 65) 34 rfl rfl (by decide) ?_
    refine v_iconst (v := 3) (pc' := 66) 35 rfl rfl (by decide) ?_
    refine v_iload_n (pc' := 67) 36 2 rfl rfl rfl rfl ?_
    refine v_aload_n (pc' := 68) 37 1 rfl rfl rfl rfl ?_
    refine v_getI (pc' := 71) 38 rfl rfl pf_X9_77 ly_436 (lay_lt ly_436 (by decide)) ?_
    refine v_isub (pc' := 72) 39 rfl rfl ?_
    refine v_imul (pc' := 73) 40 rfl rfl ?_
    refine v_iadd (pc' := 74) 41 rfl rfl ?_
    refine v_iload_n (pc' := 75) 42 3 rfl rfl rfl rfl ?_
    refine v_iadd (pc' := 76) 43 rfl rfl ?_
    refine v_iload_n (pc' := 77) 44 4 rfl rfl rfl rfl ?_
    refine v_i2l (pc' := 78) 45 rfl rfl ?_
    obtain ⟨hi3206, h⟩ := h
    refine v_last (i := (((45 : Int32) + ((3 : Int32) * (v1 - (I3203 436 10)))) + v2)) (j := (((45 : Int32) + ((3 : Int32) * (v1 - (I3203 436 10)))) + v2).toNatClampNeg) (pc' := 79) 46 rfl rfl ly_437 ln_437 (lay_lt ly_437 (by decide)) hi3206 rfl ?_
    refine nm_N (e := (up2 L3204 437 ((((45 : Int32) + ((3 : Int32) * (v1 - (I3203 436 10)))) + v2).toNatClampNeg) (v3.toInt64))) (fun L3207 hL3207 => ?_)
    replace h := h L3207 hL3207
    refine v_iload (pc' := 81) 47 0 rfl rfl rfl ?_
    refine v_iload_n (pc' := 82) 48 4 rfl rfl rfl rfl ?_
    refine v_icmp_ne (tgt := 89) (pc' := 85) 49 rfl rfl (by decide) (fun hc => ?_) (fun hc => ?_)
    · replace h := h.1 hc
      refine v_aload_n (pc' := 90) 52 1 rfl rfl rfl rfl ?_
      refine v_iload_n (pc' := 91) 53 2 rfl rfl rfl rfl ?_
      refine v_cV (Y2 := Y_X9_forgets) (As := [.int v1]) (b := 436) (pc' := 94) (c1 := 0) (s1 := 0) 54 rfl rfl mf_X9_forgets rfl rfl ml_X9_386 mi_X9_forgets se_X9_forgets (ci := 8) rfl ly_436 (lay_lt ly_436 (by decide)) rfl (Nat.le_of_ble_eq_true rfl) ⟨Nat.le_of_ble_eq_true rfl, Nat.le_of_ble_eq_true rfl⟩ rfl rfl (ok_X9_forgets v1 I3203 L3207 h) ?_ ?_
      · intro e9 u9 hx9
        exact hx9.elim
      intro v9 u9 hv9
      obtain ⟨r3208, L3209, rfl, rfl, h⟩ := hv9
      refine ⟨fun q => absurd q (Nat.lt_irrefl _), ?_⟩
      show V G Y_X9_setDelay 94 _ (.int r3208 :: _) _ _ _ _ _
      refine v_istore (ls' := [(5, .int r3208), (4, .int r3205), (0, .ref 436), (1, .int v1), (2, .int v2), (3, .int v3)]) (pc' := 96) 55 rfl rfl (by decide) rfl ?_
      refine v_iload (pc' := 98) 56 1 rfl rfl rfl ?_
      exact v_iret 57 rfl rfl (by decide) (by decide) ⟨_, _, _, rfl, rfl, h⟩
    replace h := h.2 hc
    refine v_iconst (v := 0) (pc' := 86) 50 rfl rfl (by decide) ?_
    refine v_goto (tgt := 94) 51 rfl (by decide) ?_
    refine v_istore (ls' := [(5, .int 0), (4, .int r3205), (0, .ref 436), (1, .int v1), (2, .int v2), (3, .int v3)]) (pc' := 96) 55 rfl rfl (by decide) rfl ?_
    refine v_iload (pc' := 98) 56 1 rfl rfl rfl ?_
    exact v_iret 57 rfl rfl (by decide) (by decide) ⟨_, _, _, rfl, rfl, h⟩
  replace h := h.2 hc
  refine v_iconst (v := 0) (pc' := 46) 23 rfl rfl (by decide) ?_
  exact v_iret 24 rfl rfl (by decide) (by decide) ⟨_, _, _, rfl, rfl, h⟩
set_option maxHeartbeats 4000000 in
set_option maxRecDepth 100000 in
theorem b_X9_setDelay_37 {G : GT} {b d t : Nat} (v1 : Int32) (v2 : Int32) (v3 : Int32) (I : TI) (L : TL)  (Q : Int32 → TI → TL → Prop)  (h : B_X9_setDelay_37 v1 v2 v3 I L Q) : V G Y_X9_setDelay 37 [(0, .ref 436), (1, .int v1), (2, .int v2), (3, .int v3)] [.ref 436] (I, L, RT b d t, 457) 0 0 (fun v9 u9 => ∃ (r9 : Int32) (I9 : TI) (L9 : TL), v9 = some (.int r9) ∧ u9 = (I9, L9, RT b d t, 457) ∧ Q r9 I9 L9) (fun _ _ => False) := by
  unfold B_X9_setDelay_37 at h
  refine v_iconst (v := 0) (pc' := 38) 19 rfl rfl (by decide) ?_
  exact b_X9_setDelay_38 v1 v2 v3 (0 : Int32) I L Q h
set_option maxHeartbeats 4000000 in
set_option maxRecDepth 100000 in
theorem ok_X9_setDelay {G : GT} {b d t : Nat} (p1 : Int32) (p2 : Int32) (p3 : Int32) (I : TI) (L : TL)  {Q : Int32 → TI → TL → Prop} (h : W_X9_setDelay p1 p2 p3 I L Q) : MW G Y_X9_setDelay [.ref 436, .int p1, .int p2, .int p3] (I, L, RT b d t, 457) (fun v9 u9 => ∃ (r9 : Int32) (I9 : TI) (L9 : TL), v9 = some (.int r9) ∧ u9 = (I9, L9, RT b d t, 457) ∧ Q r9 I9 L9) (fun _ _ => False) := by
  unfold W_X9_setDelay at h
  refine MW.intro rfl (by decide) is_X9_setDelay (Nat.le_of_ble_eq_true rfl) ?_
  show V G Y_X9_setDelay 0 [(0, .ref 436), (1, .int p1), (2, .int p2), (3, .int p3)] [] (I, L, RT b d t, 457) 0 0 _ _
  refine v_aload_n (pc' := 1) 0 0 rfl rfl rfl rfl ?_
  refine v_iload_n (pc' := 2) 1 1 rfl rfl rfl rfl ?_
  refine v_cV (Y2 := Y_X9_noGate) (As := [.int p1]) (b := 436) (pc' := 5) (c1 := 0) (s1 := 0) 2 rfl rfl mf_X9_noGate rfl rfl ml_X9_307 mi_X9_noGate se_X9_noGate (ci := 8) rfl ly_436 (lay_lt ly_436 (by decide)) rfl (Nat.le_of_ble_eq_true rfl) ⟨Nat.le_of_ble_eq_true rfl, Nat.le_of_ble_eq_true rfl⟩ rfl rfl (ok_X9_noGate p1 I L h) ?_ ?_
  · intro e9 u9 hx9
    exact hx9.elim
  intro v9 u9 hv9
  obtain ⟨r3210, I3211, rfl, rfl, h⟩ := hv9
  refine ⟨fun q => absurd q (Nat.lt_irrefl _), ?_⟩
  show V G Y_X9_setDelay 5 _ (.int r3210 :: _) _ _ _ _ _
  refine v_if_ne (tgt := 45) (pc' := 8) 3 rfl rfl (by decide) (fun hc => ?_) (fun hc => ?_)
  · replace h := h.1 hc
    refine v_iconst (v := 0) (pc' := 46) 23 rfl rfl (by decide) ?_
    exact v_iret 24 rfl rfl (by decide) (by decide) ⟨_, _, _, rfl, rfl, h⟩
  replace h := h.2 hc
  refine v_aload_n (pc' := 9) 4 0 rfl rfl rfl rfl ?_
  refine v_iload_n (pc' := 10) 5 2 rfl rfl rfl rfl ?_
  refine v_i2l (pc' := 11) 6 rfl rfl ?_
  refine v_lconst (v := 0) (pc' := 12) 7 rfl rfl (by decide) ?_
  refine v_ldc2 (v := 2) (pc' := 15) 8 rfl rfl kl_X9_300 ?_
  refine v_cS (Y2 := Y_X9_in) (As := [.long (p2.toInt64), .long 0, .long 2]) (pc' := 18) (c1 := 0) (s1 := 0) 9 rfl rfl mf_X9_in rfl rfl ml_X9_232 ms_X9_in rfl (Nat.le_of_ble_eq_true rfl) ⟨Nat.le_of_ble_eq_true rfl, Nat.le_of_ble_eq_true rfl⟩ rfl rfl (ok_X9_in (p2.toInt64) (0 : Int64) (2 : Int64) I3211 L h) ?_ ?_
  · intro e9 u9 hx9
    exact hx9.elim
  intro v9 u9 hv9
  obtain ⟨r3212, rfl, rfl, h⟩ := hv9
  refine ⟨fun q => absurd q (Nat.lt_irrefl _), ?_⟩
  show V G Y_X9_setDelay 18 _ (.int r3212 :: _) _ _ _ _ _
  refine v_if_eq (tgt := 37) (pc' := 21) 10 rfl rfl (by decide) (fun hc => ?_) (fun hc => ?_)
  · replace h := h.1 hc
    exact b_X9_setDelay_37 p1 p2 p3 I3211 L Q h
  replace h := h.2 hc
  refine v_iload_n (pc' := 22) 11 3 rfl rfl rfl rfl ?_
  refine v_i2l (pc' := 23) 12 rfl rfl ?_
  refine v_lconst (v := 1) (pc' := 24) 13 rfl rfl (by decide) ?_
  refine v_ldc2 (v := 9) (pc' := 27) 14 rfl rfl kl_X9_305 ?_
  refine v_cS (Y2 := Y_X9_in) (As := [.long (p3.toInt64), .long 1, .long 9]) (pc' := 30) (c1 := 0) (s1 := 0) 15 rfl rfl mf_X9_in rfl rfl ml_X9_232 ms_X9_in rfl (Nat.le_of_ble_eq_true rfl) ⟨Nat.le_of_ble_eq_true rfl, Nat.le_of_ble_eq_true rfl⟩ rfl rfl (ok_X9_in (p3.toInt64) (1 : Int64) (9 : Int64) I3211 L h) ?_ ?_
  · intro e9 u9 hx9
    exact hx9.elim
  intro v9 u9 hv9
  obtain ⟨r3213, rfl, rfl, h⟩ := hv9
  refine ⟨fun q => absurd q (Nat.lt_irrefl _), ?_⟩
  show V G Y_X9_setDelay 30 _ (.int r3213 :: _) _ _ _ _ _
  refine v_if_eq (tgt := 37) (pc' := 33) 16 rfl rfl (by decide) (fun hc => ?_) (fun hc => ?_)
  · replace h := h.1 hc
    exact b_X9_setDelay_37 p1 p2 p3 I3211 L Q h
  replace h := h.2 hc
  refine v_iconst (v := 1) (pc' := 34) 17 rfl rfl (by decide) ?_
  refine v_goto (tgt := 38) 18 rfl (by decide) ?_
  exact b_X9_setDelay_38 p1 p2 p3 (1 : Int32) I3211 L Q h
set_option maxHeartbeats 4000000 in
set_option maxRecDepth 100000 in
theorem ok_X9_toggle {G : GT} {b d t : Nat} (p1 : Int32) (p2 : Int32) (I : TI) (L : TL)  {Q : Int32 → TI → TL → Prop} (h : W_X9_toggle p1 p2 I L Q) : MW G Y_X9_toggle [.ref 436, .int p1, .int p2] (I, L, RT b d t, 457) (fun v9 u9 => ∃ (r9 : Int32) (I9 : TI) (L9 : TL), v9 = some (.int r9) ∧ u9 = (I9, L9, RT b d t, 457) ∧ Q r9 I9 L9) (fun _ _ => False) := by
  unfold W_X9_toggle at h
  refine MW.intro rfl (by decide) is_X9_toggle (Nat.le_of_ble_eq_true rfl) ?_
  show V G Y_X9_toggle 0 [(0, .ref 436), (1, .int p1), (2, .int p2)] [] (I, L, RT b d t, 457) 0 0 _ _
  refine v_aload_n (pc' := 1) 0 0 rfl rfl rfl rfl ?_
  refine v_iconst (v := 0) (pc' := 2) 1 rfl rfl (by decide) ?_
  refine v_putI (pc' := 5) 2 rfl rfl pf_X9_80 (fun q => absurd q (by decide)) ly_436 (lay_lt ly_436 (by decide)) ?_
  refine v_aload_n (pc' := 6) 3 0 rfl rfl rfl rfl ?_
  refine v_iload_n (pc' := 7) 4 1 rfl rfl rfl rfl ?_
  refine v_i2l (pc' := 8) 5 rfl rfl ?_
  refine v_lconst (v := 0) (pc' := 9) 6 rfl rfl (by decide) ?_
  refine v_aload_n (pc' := 10) 7 0 rfl rfl rfl rfl ?_
  refine v_getI (pc' := 13) 8 rfl rfl pf_X9_77 ly_436 (lay_lt ly_436 (by decide)) ?_
  refine v_iconst (v := 1) (pc' := 14) 9 rfl rfl (by decide) ?_
  refine v_isub (pc' := 15) 10 rfl rfl ?_
  refine v_i2l (pc' := 16) 11 rfl rfl ?_
  refine v_cS (Y2 := Y_X9_in) (As := [.long (p1.toInt64), .long 0, .long ((((up2 I 436 0 0) 436 10) - 1).toInt64)]) (pc' := 19) (c1 := 0) (s1 := 0) 12 rfl rfl mf_X9_in rfl rfl ml_X9_232 ms_X9_in rfl (Nat.le_of_ble_eq_true rfl) ⟨Nat.le_of_ble_eq_true rfl, Nat.le_of_ble_eq_true rfl⟩ rfl rfl (ok_X9_in (p1.toInt64) (0 : Int64) ((((up2 I 436 0 0) 436 10) - 1).toInt64) (up2 I 436 0 0) L h) ?_ ?_
  · intro e9 u9 hx9
    exact hx9.elim
  intro v9 u9 hv9
  obtain ⟨r3227, rfl, rfl, h⟩ := hv9
  refine ⟨fun q => absurd q (Nat.lt_irrefl _), ?_⟩
  show V G Y_X9_toggle 19 _ (.int r3227 :: _) _ _ _ _ _
  refine v_iconst (v := 1) (pc' := 20) 13 rfl rfl (by decide) ?_
  refine v_cV (Y2 := Y_X9_fails) (As := [.int r3227, .int 1]) (b := 436) (pc' := 23) (c1 := 0) (s1 := 0) 14 rfl rfl mf_X9_fails rfl rfl ml_X9_280 mi_X9_fails se_X9_fails (ci := 8) rfl ly_436 (lay_lt ly_436 (by decide)) rfl (Nat.le_of_ble_eq_true rfl) ⟨Nat.le_of_ble_eq_true rfl, Nat.le_of_ble_eq_true rfl⟩ rfl rfl (ok_X9_fails r3227 (1 : Int32) (up2 I 436 0 0) L h) ?_ ?_
  · intro e9 u9 hx9
    exact hx9.elim
  intro v9 u9 hv9
  obtain ⟨r3228, I3229, rfl, rfl, h⟩ := hv9
  refine ⟨fun q => absurd q (Nat.lt_irrefl _), ?_⟩
  show V G Y_X9_toggle 23 _ (.int r3228 :: _) _ _ _ _ _
  refine v_if_ne (tgt := 45) (pc' := 26) 15 rfl rfl (by decide) (fun hc => ?_) (fun hc => ?_)
  · replace h := h.1 hc
    refine v_iconst (v := 0) (pc' := 46) 27 rfl rfl (by decide) ?_
    exact v_iret 28 rfl rfl (by decide) (by decide) ⟨_, _, _, rfl, rfl, h⟩
  replace h := h.2 hc
  refine v_aload_n (pc' := 27) 16 0 rfl rfl rfl rfl ?_
  refine v_iload_n (pc' := 28) 17 2 rfl rfl rfl rfl ?_
  refine v_i2l (pc' := 29) 18 rfl rfl ?_
  refine v_lconst (v := 0) (pc' := 30) 19 rfl rfl (by decide) ?_
  refine v_aload_n (pc' := 31) 20 0 rfl rfl rfl rfl ?_
  refine v_getI (pc' := 34) 21 rfl rfl pf_X9_86 ly_436 (lay_lt ly_436 (by decide)) ?_
  refine v_i2l (pc' := 35) 22 rfl rfl ?_
  refine v_cS (Y2 := Y_X9_in) (As := [.long (p2.toInt64), .long 0, .long ((I3229 436 7).toInt64)]) (pc' := 38) (c1 := 0) (s1 := 0) 23 rfl rfl mf_X9_in rfl rfl ml_X9_232 ms_X9_in rfl (Nat.le_of_ble_eq_true rfl) ⟨Nat.le_of_ble_eq_true rfl, Nat.le_of_ble_eq_true rfl⟩ rfl rfl (ok_X9_in (p2.toInt64) (0 : Int64) ((I3229 436 7).toInt64) I3229 L h) ?_ ?_
  · intro e9 u9 hx9
    exact hx9.elim
  intro v9 u9 hv9
  obtain ⟨r3230, rfl, rfl, h⟩ := hv9
  refine ⟨fun q => absurd q (Nat.lt_irrefl _), ?_⟩
  show V G Y_X9_toggle 38 _ (.int r3230 :: _) _ _ _ _ _
  refine v_iconst (v := 2) (pc' := 39) 24 rfl rfl (by decide) ?_
  refine v_cV (Y2 := Y_X9_fails) (As := [.int r3230, .int 2]) (b := 436) (pc' := 42) (c1 := 0) (s1 := 0) 25 rfl rfl mf_X9_fails rfl rfl ml_X9_280 mi_X9_fails se_X9_fails (ci := 8) rfl ly_436 (lay_lt ly_436 (by decide)) rfl (Nat.le_of_ble_eq_true rfl) ⟨Nat.le_of_ble_eq_true rfl, Nat.le_of_ble_eq_true rfl⟩ rfl rfl (ok_X9_fails r3230 (2 : Int32) I3229 L h) ?_ ?_
  · intro e9 u9 hx9
    exact hx9.elim
  intro v9 u9 hv9
  obtain ⟨r3231, I3232, rfl, rfl, h⟩ := hv9
  refine ⟨fun q => absurd q (Nat.lt_irrefl _), ?_⟩
  show V G Y_X9_toggle 42 _ (.int r3231 :: _) _ _ _ _ _
  refine v_if_eq (tgt := 47) (pc' := 45) 26 rfl rfl (by decide) (fun hc => ?_) (fun hc => ?_)
  · replace h := h.1 hc
    refine v_aload_n (pc' := 48) 29 0 rfl rfl rfl rfl ?_
    refine v_cV (Y2 := Y_X9_records) (As := []) (b := 436) (pc' := 51) (c1 := 0) (s1 := 0) 30 rfl rfl mf_X9_records rfl rfl ml_X9_375 mi_X9_records se_X9_records (ci := 8) rfl ly_436 (lay_lt ly_436 (by decide)) rfl (Nat.le_of_ble_eq_true rfl) ⟨Nat.le_of_ble_eq_true rfl, Nat.le_of_ble_eq_true rfl⟩ rfl rfl (ok_X9_records I3232 L h) ?_ ?_
    · intro e9 u9 hx9
      exact hx9.elim
    intro v9 u9 hv9
    obtain ⟨I3233, L3234, rfl, rfl, h⟩ := hv9
    refine ⟨fun q => absurd q (Nat.lt_irrefl _), ?_⟩
    show V G Y_X9_toggle 51 _ _ _ _ _ _ _
    refine v_aload_n (pc' := 52) 31 0 rfl rfl rfl rfl ?_
    refine v_getR (t := 437) (pc' := 55) 32 rfl rfl pf_X9_7 ly_436 (lay_lt ly_436 (by decide)) rt_436_1 ?_
    refine v_iconst (v := 5) (pc' := 56) 33 rfl rfl (by decide) ?_
    refine v_iload_n (pc' := 57) 34 1 rfl rfl rfl rfl ?_
    refine v_iadd (pc' := 58) 35 rfl rfl ?_
    refine v_dup2 (pc' := 59) 36 rfl rfl rfl rfl ?_
    obtain ⟨hi3235, h⟩ := h
    refine v_lald (i := ((5 : Int32) + p1)) (j := ((5 : Int32) + p1).toNatClampNeg) (pc' := 60) 37 rfl rfl ly_437 ln_437 (lay_lt ly_437 (by decide)) hi3235 rfl ?_
    refine v_iload_n (pc' := 61) 38 2 rfl rfl rfl rfl ?_
    refine v_aload_n (pc' := 62) 39 0 rfl rfl rfl rfl ?_
    refine v_getI (pc' := 65) 40 rfl rfl pf_X9_86 ly_436 (lay_lt ly_436 (by decide)) ?_
    refine v_cS (Y2 := Y_X9_times) (As := [.int p2, .int (I3233 436 7)]) (pc' := 68) (c1 := 0) (s1 := 0) 41 rfl rfl mf_X9_times rfl rfl ml_X9_107 ms_X9_times rfl (Nat.le_of_ble_eq_true rfl) ⟨Nat.le_of_ble_eq_true rfl, Nat.le_of_ble_eq_true rfl⟩ rfl rfl (ok_X9_times p2 (I3233 436 7) I3233 L3234 h) ?_ ?_
    · intro e9 u9 hx9
      exact hx9.elim
    intro v9 u9 hv9
    obtain ⟨r3236, rfl, rfl, h⟩ := hv9
    refine ⟨fun q => absurd q (Nat.lt_irrefl _), ?_⟩
    show V G Y_X9_toggle 68 _ (.long r3236 :: _) _ _ _ _ _
    refine v_lxor (pc' := 69) 42 rfl rfl ?_
    obtain ⟨hi3237, h⟩ := h
    refine v_last (i := ((5 : Int32) + p1)) (j := ((5 : Int32) + p1).toNatClampNeg) (pc' := 70) 43 rfl rfl ly_437 ln_437 (lay_lt ly_437 (by decide)) hi3237 rfl ?_
    refine nm_N (e := (up2 L3234 437 (((5 : Int32) + p1).toNatClampNeg) ((L3234 437 (((5 : Int32) + p1).toNatClampNeg)) ^^^ r3236))) (fun L3238 hL3238 => ?_)
    replace h := h L3238 hL3238
    refine v_aload_n (pc' := 71) 44 0 rfl rfl rfl rfl ?_
    refine v_iload_n (pc' := 72) 45 1 rfl rfl rfl rfl ?_
    refine v_cV (Y2 := Y_X9_forgets) (As := [.int p1]) (b := 436) (pc' := 75) (c1 := 0) (s1 := 0) 46 rfl rfl mf_X9_forgets rfl rfl ml_X9_386 mi_X9_forgets se_X9_forgets (ci := 8) rfl ly_436 (lay_lt ly_436 (by decide)) rfl (Nat.le_of_ble_eq_true rfl) ⟨Nat.le_of_ble_eq_true rfl, Nat.le_of_ble_eq_true rfl⟩ rfl rfl (ok_X9_forgets p1 I3233 L3238 h) ?_ ?_
    · intro e9 u9 hx9
      exact hx9.elim
    intro v9 u9 hv9
    obtain ⟨r3239, L3240, rfl, rfl, h⟩ := hv9
    refine ⟨fun q => absurd q (Nat.lt_irrefl _), ?_⟩
    show V G Y_X9_toggle 75 _ (.int r3239 :: _) _ _ _ _ _
    exact v_iret 47 rfl rfl (by decide) (by decide) ⟨_, _, _, rfl, rfl, h⟩
  replace h := h.2 hc
  refine v_iconst (v := 0) (pc' := 46) 27 rfl rfl (by decide) ?_
  exact v_iret 28 rfl rfl (by decide) (by decide) ⟨_, _, _, rfl, rfl, h⟩
set_option maxHeartbeats 4000000 in
set_option maxRecDepth 100000 in
theorem b_X9_deposit_35 {G : GT} {b d t : Nat} (v1 : Int32) (v2 : Int32) (s1 : Int32) (I : TI) (L : TL)  (Q : Int32 → TI → TL → Prop)  (h : B_X9_deposit_35 v1 v2 s1 I L Q) : V G Y_X9_deposit 35 [(0, .ref 436), (1, .int v1), (2, .int v2)] [.int s1, .ref 436] (I, L, RT b d t, 457) 0 0 (fun v9 u9 => ∃ (r9 : Int32) (I9 : TI) (L9 : TL), v9 = some (.int r9) ∧ u9 = (I9, L9, RT b d t, 457) ∧ Q r9 I9 L9) (fun _ _ => False) := by
  unfold B_X9_deposit_35 at h
  refine v_iconst (v := 1) (pc' := 36) 19 rfl rfl (by decide) ?_
  refine v_cV (Y2 := Y_X9_fails) (As := [.int s1, .int 1]) (b := 436) (pc' := 39) (c1 := 0) (s1 := 0) 20 rfl rfl mf_X9_fails rfl rfl ml_X9_280 mi_X9_fails se_X9_fails (ci := 8) rfl ly_436 (lay_lt ly_436 (by decide)) rfl (Nat.le_of_ble_eq_true rfl) ⟨Nat.le_of_ble_eq_true rfl, Nat.le_of_ble_eq_true rfl⟩ rfl rfl (ok_X9_fails s1 (1 : Int32) I L h) ?_ ?_
  · intro e9 u9 hx9
    exact hx9.elim
  intro v9 u9 hv9
  obtain ⟨r3261, I3262, rfl, rfl, h⟩ := hv9
  refine ⟨fun q => absurd q (Nat.lt_irrefl _), ?_⟩
  show V G Y_X9_deposit 39 _ (.int r3261 :: _) _ _ _ _ _
  refine v_if_eq (tgt := 44) (pc' := 42) 21 rfl rfl (by decide) (fun hc => ?_) (fun hc => ?_)
  · replace h := h.1 hc
    refine v_aload_n (pc' := 45) 24 0 rfl rfl rfl rfl ?_
    refine v_getR (t := 437) (pc' := 48) 25 rfl rfl pf_X9_7 ly_436 (lay_lt ly_436 (by decide)) rt_436_1 ?_
    refine v_iconst (v := 1) (pc' := 49) 26 rfl rfl (by decide) ?_
    refine v_iload_n (pc' := 50) 27 1 rfl rfl rfl rfl ?_
    refine v_iadd (pc' := 51) 28 rfl rfl ?_
    obtain ⟨hi3263, h⟩ := h
    refine v_lald (i := ((1 : Int32) + v1)) (j := ((1 : Int32) + v1).toNatClampNeg) (pc' := 52) 29 rfl rfl ly_437 ln_437 (lay_lt ly_437 (by decide)) hi3263 rfl ?_
    refine v_iload_n (pc' := 53) 30 2 rfl rfl rfl rfl ?_
    refine v_i2l (pc' := 54) 31 rfl rfl ?_
    refine v_ladd (pc' := 55) 32 rfl rfl ?_
    refine v_ldc2 (v := 1000000) (pc' := 58) 33 rfl rfl kl_X9_391 ?_
    refine v_lc_le (tgt := 65) (pc' := 62) 34 35 rfl rfl rfl (by decide) (fun hc => ?_) (fun hc => ?_)
    · replace h := h.1 hc
      refine v_aload_n (pc' := 66) 38 0 rfl rfl rfl rfl ?_
      refine v_cV (Y2 := Y_X9_records) (As := []) (b := 436) (pc' := 69) (c1 := 0) (s1 := 0) 39 rfl rfl mf_X9_records rfl rfl ml_X9_375 mi_X9_records se_X9_records (ci := 8) rfl ly_436 (lay_lt ly_436 (by decide)) rfl (Nat.le_of_ble_eq_true rfl) ⟨Nat.le_of_ble_eq_true rfl, Nat.le_of_ble_eq_true rfl⟩ rfl rfl (ok_X9_records I3262 L h) ?_ ?_
      · intro e9 u9 hx9
        exact hx9.elim
      intro v9 u9 hv9
      obtain ⟨I3264, L3265, rfl, rfl, h⟩ := hv9
      refine ⟨fun q => absurd q (Nat.lt_irrefl _), ?_⟩
      show V G Y_X9_deposit 69 _ _ _ _ _ _ _
      refine v_aload_n (pc' := 70) 40 0 rfl rfl rfl rfl ?_
      refine v_getR (t := 437) (pc' := 73) 41 rfl rfl pf_X9_7 ly_436 (lay_lt ly_436 (by decide)) rt_436_1 ?_
      refine v_iconst (v := 1) (pc' := 74) 42 rfl rfl (by decide) ?_
      refine v_iload_n (pc' := 75) 43 1 rfl rfl rfl rfl ?_
      refine v_iadd (pc' := 76) 44 rfl rfl ?_
      refine v_dup2 (pc' := 77) 45 rfl rfl rfl rfl ?_
      obtain ⟨hi3266, h⟩ := h
      refine v_lald (i := ((1 : Int32) + v1)) (j := ((1 : Int32) + v1).toNatClampNeg) (pc' := 78) 46 rfl rfl ly_437 ln_437 (lay_lt ly_437 (by decide)) hi3266 rfl ?_
      refine v_iload_n (pc' := 79) 47 2 rfl rfl rfl rfl ?_
      refine v_i2l (pc' := 80) 48 rfl rfl ?_
      refine v_ladd (pc' := 81) 49 rfl rfl ?_
      obtain ⟨hi3267, h⟩ := h
      refine v_last (i := ((1 : Int32) + v1)) (j := ((1 : Int32) + v1).toNatClampNeg) (pc' := 82) 50 rfl rfl ly_437 ln_437 (lay_lt ly_437 (by decide)) hi3267 rfl ?_
      refine nm_N (e := (up2 L3265 437 (((1 : Int32) + v1).toNatClampNeg) ((L3265 437 (((1 : Int32) + v1).toNatClampNeg)) + (v2.toInt64)))) (fun L3268 hL3268 => ?_)
      replace h := h L3268 hL3268
      refine v_aload_n (pc' := 83) 51 0 rfl rfl rfl rfl ?_
      refine v_getR (t := 437) (pc' := 86) 52 rfl rfl pf_X9_7 ly_436 (lay_lt ly_436 (by decide)) rt_436_1 ?_
      refine v_iconst (v := 1) (pc' := 87) 53 rfl rfl (by decide) ?_
      refine v_iload_n (pc' := 88) 54 1 rfl rfl rfl rfl ?_
      refine v_iadd (pc' := 89) 55 rfl rfl ?_
      obtain ⟨hi3269, h⟩ := h
      refine v_lald (i := ((1 : Int32) + v1)) (j := ((1 : Int32) + v1).toNatClampNeg) (pc' := 90) 56 rfl rfl ly_437 ln_437 (lay_lt ly_437 (by decide)) hi3269 rfl ?_
      refine v_l2i (pc' := 91) 57 rfl rfl ?_
      exact v_iret 58 rfl rfl (by decide) (by decide) ⟨_, _, _, rfl, rfl, h⟩
    replace h := h.2 hc
    refine v_bipush (v := -3) (pc' := 64) 36 rfl rfl (by decide) ?_
    exact v_iret 37 rfl rfl (by decide) (by decide) ⟨_, _, _, rfl, rfl, h⟩
  replace h := h.2 hc
  refine v_iconst (v := 0) (pc' := 43) 22 rfl rfl (by decide) ?_
  exact v_iret 23 rfl rfl (by decide) (by decide) ⟨_, _, _, rfl, rfl, h⟩
set_option maxHeartbeats 4000000 in
set_option maxRecDepth 100000 in
theorem b_X9_deposit_34 {G : GT} {b d t : Nat} (v1 : Int32) (v2 : Int32) (I : TI) (L : TL)  (Q : Int32 → TI → TL → Prop)  (h : B_X9_deposit_34 v1 v2 I L Q) : V G Y_X9_deposit 34 [(0, .ref 436), (1, .int v1), (2, .int v2)] [.ref 436] (I, L, RT b d t, 457) 0 0 (fun v9 u9 => ∃ (r9 : Int32) (I9 : TI) (L9 : TL), v9 = some (.int r9) ∧ u9 = (I9, L9, RT b d t, 457) ∧ Q r9 I9 L9) (fun _ _ => False) := by
  unfold B_X9_deposit_34 at h
  refine v_iconst (v := 0) (pc' := 35) 18 rfl rfl (by decide) ?_
  exact b_X9_deposit_35 v1 v2 (0 : Int32) I L Q h
set_option maxHeartbeats 4000000 in
set_option maxRecDepth 100000 in
theorem ok_X9_deposit {G : GT} {b d t : Nat} (p1 : Int32) (p2 : Int32) (I : TI) (L : TL)  {Q : Int32 → TI → TL → Prop} (h : W_X9_deposit p1 p2 I L Q) : MW G Y_X9_deposit [.ref 436, .int p1, .int p2] (I, L, RT b d t, 457) (fun v9 u9 => ∃ (r9 : Int32) (I9 : TI) (L9 : TL), v9 = some (.int r9) ∧ u9 = (I9, L9, RT b d t, 457) ∧ Q r9 I9 L9) (fun _ _ => False) := by
  unfold W_X9_deposit at h
  refine MW.intro rfl (by decide) is_X9_deposit (Nat.le_of_ble_eq_true rfl) ?_
  show V G Y_X9_deposit 0 [(0, .ref 436), (1, .int p1), (2, .int p2)] [] (I, L, RT b d t, 457) 0 0 _ _
  refine v_aload_n (pc' := 1) 0 0 rfl rfl rfl rfl ?_
  refine v_iconst (v := 0) (pc' := 2) 1 rfl rfl (by decide) ?_
  refine v_putI (pc' := 5) 2 rfl rfl pf_X9_80 (fun q => absurd q (by decide)) ly_436 (lay_lt ly_436 (by decide)) ?_
  refine v_aload_n (pc' := 6) 3 0 rfl rfl rfl rfl ?_
  refine v_iload_n (pc' := 7) 4 1 rfl rfl rfl rfl ?_
  refine v_i2l (pc' := 8) 5 rfl rfl ?_
  refine v_lconst (v := 0) (pc' := 9) 6 rfl rfl (by decide) ?_
  refine v_ldc2 (v := 2) (pc' := 12) 7 rfl rfl kl_X9_300 ?_
  refine v_cS (Y2 := Y_X9_in) (As := [.long (p1.toInt64), .long 0, .long 2]) (pc' := 15) (c1 := 0) (s1 := 0) 8 rfl rfl mf_X9_in rfl rfl ml_X9_232 ms_X9_in rfl (Nat.le_of_ble_eq_true rfl) ⟨Nat.le_of_ble_eq_true rfl, Nat.le_of_ble_eq_true rfl⟩ rfl rfl (ok_X9_in (p1.toInt64) (0 : Int64) (2 : Int64) (up2 I 436 0 0) L h) ?_ ?_
  · intro e9 u9 hx9
    exact hx9.elim
  intro v9 u9 hv9
  obtain ⟨r3270, rfl, rfl, h⟩ := hv9
  refine ⟨fun q => absurd q (Nat.lt_irrefl _), ?_⟩
  show V G Y_X9_deposit 15 _ (.int r3270 :: _) _ _ _ _ _
  refine v_if_eq (tgt := 34) (pc' := 18) 9 rfl rfl (by decide) (fun hc => ?_) (fun hc => ?_)
  · replace h := h.1 hc
    exact b_X9_deposit_34 p1 p2 (up2 I 436 0 0) L Q h
  replace h := h.2 hc
  refine v_iload_n (pc' := 19) 10 2 rfl rfl rfl rfl ?_
  refine v_i2l (pc' := 20) 11 rfl rfl ?_
  refine v_lconst (v := 0) (pc' := 21) 12 rfl rfl (by decide) ?_
  refine v_ldc2 (v := 99999) (pc' := 24) 13 rfl rfl kl_X9_389 ?_
  refine v_cS (Y2 := Y_X9_in) (As := [.long (p2.toInt64), .long 0, .long 99999]) (pc' := 27) (c1 := 0) (s1 := 0) 14 rfl rfl mf_X9_in rfl rfl ml_X9_232 ms_X9_in rfl (Nat.le_of_ble_eq_true rfl) ⟨Nat.le_of_ble_eq_true rfl, Nat.le_of_ble_eq_true rfl⟩ rfl rfl (ok_X9_in (p2.toInt64) (0 : Int64) (99999 : Int64) (up2 I 436 0 0) L h) ?_ ?_
  · intro e9 u9 hx9
    exact hx9.elim
  intro v9 u9 hv9
  obtain ⟨r3271, rfl, rfl, h⟩ := hv9
  refine ⟨fun q => absurd q (Nat.lt_irrefl _), ?_⟩
  show V G Y_X9_deposit 27 _ (.int r3271 :: _) _ _ _ _ _
  refine v_if_eq (tgt := 34) (pc' := 30) 15 rfl rfl (by decide) (fun hc => ?_) (fun hc => ?_)
  · replace h := h.1 hc
    exact b_X9_deposit_34 p1 p2 (up2 I 436 0 0) L Q h
  replace h := h.2 hc
  refine v_iconst (v := 1) (pc' := 31) 16 rfl rfl (by decide) ?_
  refine v_goto (tgt := 35) 17 rfl (by decide) ?_
  exact b_X9_deposit_35 p1 p2 (1 : Int32) (up2 I 436 0 0) L Q h
