set_option maxHeartbeats 4000000 in
set_option maxRecDepth 100000 in
theorem d_X8_putBytes_3 {G : GT} {b d t : Nat} (v1 : Int32) (L : TL)  (Q : TI → Prop) (R3 : Int32 → TI → Prop)  (hR3 : ∀ (v2 : Int32) (I : TI), R3 v2 I → V G Y_X8_putBytes 3 [(0, .ref 0), (1, .int v1), (2, .int v2)] [] (I, L, RT b d t, 457) 0 0 (fun v9 u9 => ∃ (I9 : TI), v9 = none ∧ u9 = (I9, L, RT b d t, 457) ∧ Q I9) (fun _ _ => False)) (v2 : Int32) (I : TI)  (h : D_X8_putBytes_3 v1 L Q R3 v2 I) : V G Y_X8_putBytes 3 [(0, .ref 0), (1, .int v1), (2, .int v2)] [] (I, L, RT b d t, 457) 0 0 (fun v9 u9 => ∃ (I9 : TI), v9 = none ∧ u9 = (I9, L, RT b d t, 457) ∧ Q I9) (fun _ _ => False) := by
  unfold D_X8_putBytes_3 at h
  refine v_iload_n (pc' := 4) 2 2 rfl rfl rfl rfl ?_
  refine v_if_lt (tgt := 46) (pc' := 7) 3 rfl rfl (by decide) (fun hc => ?_) (fun hc => ?_)
  · replace h := h.1 hc
    exact v_vret 25 rfl rfl (by decide) (by decide) ⟨_, rfl, rfl, h⟩
  replace h := h.2 hc
  refine v_aload_n (pc' := 8) 4 0 rfl rfl rfl rfl ?_
  refine v_getI (pc' := 11) 5 rfl rfl pf_X8_47 ly_0 (lay_lt ly_0 (by decide)) ?_
  refine v_sipush (v := 600) (pc' := 14) 6 rfl rfl (by decide) ?_
  refine v_icmp_ge (tgt := 46) (pc' := 17) 7 rfl rfl (by decide) (fun hc => ?_) (fun hc => ?_)
  · replace h := h.1 hc
    exact v_vret 25 rfl rfl (by decide) (by decide) ⟨_, rfl, rfl, h⟩
  replace h := h.2 hc
  refine v_aload_n (pc' := 18) 8 0 rfl rfl rfl rfl ?_
  refine v_getR (t := 350) (pc' := 21) 9 rfl rfl pf_X8_30 ly_0 (lay_lt ly_0 (by decide)) rt_0_3 ?_
  refine v_aload_n (pc' := 22) 10 0 rfl rfl rfl rfl ?_
  refine v_getI (pc' := 25) 11 rfl rfl pf_X8_47 ly_0 (lay_lt ly_0 (by decide)) ?_
  refine v_iload_n (pc' := 26) 12 1 rfl rfl rfl rfl ?_
  refine v_iload_n (pc' := 27) 13 2 rfl rfl rfl rfl ?_
  refine v_iushr (pc' := 28) 14 rfl rfl ?_
  refine v_i2b (pc' := 29) 15 rfl rfl ?_
  obtain ⟨hi1033, h⟩ := h
  refine v_bast (i := (I 0 7)) (j := (I 0 7).toNatClampNeg) (pc' := 30) 16 rfl rfl ly_350 ln_350 (lay_lt ly_350 (by decide)) hi1033 rfl ?_
  refine nm_M (e := (up2 I 350 ((I 0 7).toNatClampNeg) ((ushI v1 v2).toInt8.toInt32).toInt8.toInt32)) (fun I1034 hI1034 => ?_)
  replace h := h I1034 hI1034
  refine v_aload_n (pc' := 31) 17 0 rfl rfl rfl rfl ?_
  refine v_dup (pc' := 32) 18 rfl rfl rfl ?_
  refine v_getI (pc' := 35) 19 rfl rfl pf_X8_47 ly_0 (lay_lt ly_0 (by decide)) ?_
  refine v_iconst (v := 1) (pc' := 36) 20 rfl rfl (by decide) ?_
  refine v_iadd (pc' := 37) 21 rfl rfl ?_
  refine v_putI (pc' := 40) 22 rfl rfl pf_X8_47 (fun q => absurd q (by decide)) ly_0 (lay_lt ly_0 (by decide)) ?_
  refine v_iinc (v := (v2 + (-8))) (ls' := [(2, .int (v2 + (-8))), (0, .ref 0), (1, .int v1)]) (pc' := 43) 23 2 rfl rfl rfl rfl (by decide) rfl ?_
  refine v_goto (tgt := 3) 24 rfl (by decide) ?_
  refine V.sub [1, 2, 0] rfl ?_
  exact hR3 (v2 + (-8)) (up2 I1034 0 7 ((I1034 0 7) + 1)) h
theorem l_X8_putBytes_3 {G : GT} {b d t : Nat} (v1 : Int32) (L : TL)  (Q : TI → Prop)  : ∀ (n9 : Nat) (v2 : Int32) (I : TI), L_X8_putBytes_3 v1 L Q n9 v2 I → V G Y_X8_putBytes 3 [(0, .ref 0), (1, .int v1), (2, .int v2)] [] (I, L, RT b d t, 457) 0 0 (fun v9 u9 => ∃ (I9 : TI), v9 = none ∧ u9 = (I9, L, RT b d t, 457) ∧ Q I9) (fun _ _ => False)
  | 0, _, _, h => h.elim
  | n9 + 1, v2, I, h => d_X8_putBytes_3 v1 L Q _ (l_X8_putBytes_3 v1 L Q n9) v2 I h
set_option maxHeartbeats 4000000 in
set_option maxRecDepth 100000 in
theorem ok_X8_putBytes {G : GT} {b d t : Nat} (p1 : Int32) (I : TI) (L : TL)  {Q : TI → Prop} (h : W_X8_putBytes p1 I L Q) : MW G Y_X8_putBytes [.ref 0, .int p1] (I, L, RT b d t, 457) (fun v9 u9 => ∃ (I9 : TI), v9 = none ∧ u9 = (I9, L, RT b d t, 457) ∧ Q I9) (fun _ _ => False) := by
  unfold W_X8_putBytes at h
  refine MW.intro rfl (by decide) is_X8_putBytes (Nat.le_of_ble_eq_true rfl) ?_
  show V G Y_X8_putBytes 0 [(0, .ref 0), (1, .int p1)] [] (I, L, RT b d t, 457) 0 0 _ _
  refine v_bipush (v := 24) (pc' := 2) 0 rfl rfl (by decide) ?_
  refine v_istore_n (ls' := [(2, .int 24), (0, .ref 0), (1, .int p1)]) (pc' := 3) 1 rfl rfl rfl (by decide) rfl ?_
  refine V.sub [1, 2, 0] rfl ?_
  obtain ⟨n1035, h⟩ := h
  exact l_X8_putBytes_3 p1 L Q n1035 (24 : Int32) I h
set_option maxHeartbeats 4000000 in
set_option maxRecDepth 100000 in
theorem ok_X8_feed {G : GT} {b d t : Nat} (p1 : Int32) (p2 : Int32) (p3 : Int32) (p4 : Int32) (p5 : Int32) (I : TI) (L : TL)  {Q : Int32 → TI → Prop} (h : W_X8_feed p1 p2 p3 p4 p5 I L Q) : MW G Y_X8_feed [.ref 0, .int p1, .int p2, .int p3, .int p4, .int p5] (I, L, RT b d t, 457) (fun v9 u9 => ∃ (r9 : Int32) (I9 : TI), v9 = some (.int r9) ∧ u9 = (I9, L, RT b d t, 457) ∧ Q r9 I9) (fun _ _ => False) := by
  unfold W_X8_feed at h
  refine MW.intro rfl (by decide) is_X8_feed (Nat.le_of_ble_eq_true rfl) ?_
  show V G Y_X8_feed 0 [(0, .ref 0), (1, .int p1), (2, .int p2), (3, .int p3), (4, .int p4), (5, .int p5)] [] (I, L, RT b d t, 457) 0 0 _ _
  refine v_aload_n (pc' := 1) 0 0 rfl rfl rfl rfl ?_
  refine v_getI (pc' := 4) 1 rfl rfl pf_X8_47 ly_0 (lay_lt ly_0 (by decide)) ?_
  refine v_sipush (v := 580) (pc' := 7) 2 rfl rfl (by decide) ?_
  refine v_icmp_le (tgt := 12) (pc' := 10) 3 rfl rfl (by decide) (fun hc => ?_) (fun hc => ?_)
  · replace h := h.1 hc
    refine v_aload_n (pc' := 13) 6 0 rfl rfl rfl rfl ?_
    refine v_iload_n (pc' := 14) 7 1 rfl rfl rfl rfl ?_
    refine v_cV (Y2 := Y_X8_putBytes) (As := [.int p1]) (b := 0) (pc' := 17) (c1 := 0) (s1 := 0) 8 rfl rfl mf_X8_putBytes rfl rfl ml_X8_57 mi_X8_putBytes se_X8_putBytes (ci := 7) rfl ly_0 (lay_lt ly_0 (by decide)) rfl (Nat.le_of_ble_eq_true rfl) ⟨Nat.le_of_ble_eq_true rfl, Nat.le_of_ble_eq_true rfl⟩ rfl rfl (ok_X8_putBytes p1 I L h) ?_ ?_
    · intro e9 u9 hx9
      exact hx9.elim
    intro v9 u9 hv9
    obtain ⟨I1041, rfl, rfl, h⟩ := hv9
    refine ⟨fun q => absurd q (Nat.lt_irrefl _), ?_⟩
    show V G Y_X8_feed 17 _ _ _ _ _ _ _
    refine v_aload_n (pc' := 18) 9 0 rfl rfl rfl rfl ?_
    refine v_iload_n (pc' := 19) 10 2 rfl rfl rfl rfl ?_
    refine v_cV (Y2 := Y_X8_putBytes) (As := [.int p2]) (b := 0) (pc' := 22) (c1 := 0) (s1 := 0) 11 rfl rfl mf_X8_putBytes rfl rfl ml_X8_57 mi_X8_putBytes se_X8_putBytes (ci := 7) rfl ly_0 (lay_lt ly_0 (by decide)) rfl (Nat.le_of_ble_eq_true rfl) ⟨Nat.le_of_ble_eq_true rfl, Nat.le_of_ble_eq_true rfl⟩ rfl rfl (ok_X8_putBytes p2 I1041 L h) ?_ ?_
    · intro e9 u9 hx9
      exact hx9.elim
    intro v9 u9 hv9
    obtain ⟨I1042, rfl, rfl, h⟩ := hv9
    refine ⟨fun q => absurd q (Nat.lt_irrefl _), ?_⟩
    show V G Y_X8_feed 22 _ _ _ _ _ _ _
    refine v_aload_n (pc' := 23) 12 0 rfl rfl rfl rfl ?_
    refine v_iload_n (pc' := 24) 13 3 rfl rfl rfl rfl ?_
    refine v_cV (Y2 := Y_X8_putBytes) (As := [.int p3]) (b := 0) (pc' := 27) (c1 := 0) (s1 := 0) 14 rfl rfl mf_X8_putBytes rfl rfl ml_X8_57 mi_X8_putBytes se_X8_putBytes (ci := 7) rfl ly_0 (lay_lt ly_0 (by decide)) rfl (Nat.le_of_ble_eq_true rfl) ⟨Nat.le_of_ble_eq_true rfl, Nat.le_of_ble_eq_true rfl⟩ rfl rfl (ok_X8_putBytes p3 I1042 L h) ?_ ?_
    · intro e9 u9 hx9
      exact hx9.elim
    intro v9 u9 hv9
    obtain ⟨I1043, rfl, rfl, h⟩ := hv9
    refine ⟨fun q => absurd q (Nat.lt_irrefl _), ?_⟩
    show V G Y_X8_feed 27 _ _ _ _ _ _ _
    refine v_aload_n (pc' := 28) 15 0 rfl rfl rfl rfl ?_
    refine v_iload (pc' := 30) 16 4 rfl rfl rfl ?_
    refine v_cV (Y2 := Y_X8_putBytes) (As := [.int p4]) (b := 0) (pc' := 33) (c1 := 0) (s1 := 0) 17 rfl rfl mf_X8_putBytes rfl rfl ml_X8_57 mi_X8_putBytes se_X8_putBytes (ci := 7) rfl ly_0 (lay_lt ly_0 (by decide)) rfl (Nat.le_of_ble_eq_true rfl) ⟨Nat.le_of_ble_eq_true rfl, Nat.le_of_ble_eq_true rfl⟩ rfl rfl (ok_X8_putBytes p4 I1043 L h) ?_ ?_
    · intro e9 u9 hx9
      exact hx9.elim
    intro v9 u9 hv9
    obtain ⟨I1044, rfl, rfl, h⟩ := hv9
    refine ⟨fun q => absurd q (Nat.lt_irrefl _), ?_⟩
    show V G Y_X8_feed 33 _ _ _ _ _ _ _
    refine v_aload_n (pc' := 34) 18 0 rfl rfl rfl rfl ?_
    refine v_iload (pc' := 36) 19 5 rfl rfl rfl ?_
    refine v_cV (Y2 := Y_X8_putBytes) (As := [.int p5]) (b := 0) (pc' := 39) (c1 := 0) (s1 := 0) 20 rfl rfl mf_X8_putBytes rfl rfl ml_X8_57 mi_X8_putBytes se_X8_putBytes (ci := 7) rfl ly_0 (lay_lt ly_0 (by decide)) rfl (Nat.le_of_ble_eq_true rfl) ⟨Nat.le_of_ble_eq_true rfl, Nat.le_of_ble_eq_true rfl⟩ rfl rfl (ok_X8_putBytes p5 I1044 L h) ?_ ?_
    · intro e9 u9 hx9
      exact hx9.elim
    intro v9 u9 hv9
    obtain ⟨I1045, rfl, rfl, h⟩ := hv9
    refine ⟨fun q => absurd q (Nat.lt_irrefl _), ?_⟩
    show V G Y_X8_feed 39 _ _ _ _ _ _ _
    refine v_aload_n (pc' := 40) 21 0 rfl rfl rfl rfl ?_
    refine v_getI (pc' := 43) 22 rfl rfl pf_X8_47 ly_0 (lay_lt ly_0 (by decide)) ?_
    exact v_iret 23 rfl rfl (by decide) (by decide) ⟨_, _, rfl, rfl, h⟩
  replace h := h.2 hc
  refine v_iconst (v := -1) (pc' := 11) 4 rfl rfl (by decide) ?_
  exact v_iret 5 rfl rfl (by decide) (by decide) ⟨_, _, rfl, rfl, h⟩
set_option maxHeartbeats 4000000 in
set_option maxRecDepth 100000 in
theorem ok_X8_load {G : GT} (p1 : Int32) (I : TI) (L : TL) (b : Nat) (d : Nat) (t : Nat) (hb : bnOK b) (hd : bnOK d) (ht : txOK t) {Q : Int32 → TI → TL → Nat → Nat → Nat → Prop} {QX : String → TI → TL → Nat → Nat → Nat → Prop} (h : W_X8_load p1 I L b d t Q QX) : MW G Y_X8_load [.ref 0, .int p1] (I, L, RT b d t, 457) (fun v9 u9 => ∃ (r9 : Int32) (I9 : TI) (L9 : TL) (b9 : Nat) (d9 : Nat) (t9 : Nat), v9 = some (.int r9) ∧ u9 = (I9, L9, RT b9 d9 t9, 457) ∧ Q r9 I9 L9 b9 d9 t9) (fun e9 u9 => ∃ (I9 : TI) (L9 : TL) (b9 : Nat) (d9 : Nat) (t9 : Nat), u9 = (I9, L9, RT b9 d9 t9, 457) ∧ QX e9 I9 L9 b9 d9 t9) := by
  unfold W_X8_load at h
  refine MW.intro rfl (by decide) is_X8_load (Nat.le_of_ble_eq_true rfl) ?_
  show V G Y_X8_load 0 [(0, .ref 0), (1, .int p1)] [] (I, L, RT b d t, 457) 0 0 _ _
  refine v_iload_n (pc' := 1) 0 1 rfl rfl rfl rfl ?_
  refine v_if_lt (tgt := 12) (pc' := 4) 1 rfl rfl (by decide) (fun hc => ?_) (fun hc => ?_)
  · replace h := h.1 hc
    exact v_throw 6 7 8 9 10 rfl rfl rfl rfl rfl tf_X8_61_65 sr_X8_63 rfl (by decide) (Nat.le_of_ble_eq_true rfl) (by decide) (by decide) ⟨_, _, _, _, _, rfl, h⟩
  replace h := h.2 hc
  refine v_iload_n (pc' := 5) 2 1 rfl rfl rfl rfl ?_
  refine v_aload_n (pc' := 6) 3 0 rfl rfl rfl rfl ?_
  refine v_getI (pc' := 9) 4 rfl rfl pf_X8_47 ly_0 (lay_lt ly_0 (by decide)) ?_
  refine v_icmp_le (tgt := 22) (pc' := 12) 5 rfl rfl (by decide) (fun hc => ?_) (fun hc => ?_)
  · replace h := h.1 hc
    refine v_aload_n (pc' := 23) 11 0 rfl rfl rfl rfl ?_
    refine v_getR (t := 344) (pc' := 26) 12 rfl rfl pf_X8_19 ly_0 (lay_lt ly_0 (by decide)) rt_0_1 ?_
    refine v_aload_n (pc' := 27) 13 0 rfl rfl rfl rfl ?_
    refine v_getR (t := 350) (pc' := 30) 14 rfl rfl pf_X8_30 ly_0 (lay_lt ly_0 (by decide)) rt_0_3 ?_
    refine v_iload_n (pc' := 31) 15 1 rfl rfl rfl rfl ?_
    refine v_cV (Y2 := Y_X7_begin) (As := [.ref 350, .int p1]) (b := 344) (pc' := 34) (c1 := 0) (s1 := 0) 16 rfl rfl mf_X7_begin rfl rfl ml_X8_68 mi_X7_begin se_X7_begin (ci := 6) rfl ly_344 (lay_lt ly_344 (by decide)) rfl (Nat.le_of_ble_eq_true rfl) ⟨Nat.le_of_ble_eq_true rfl, Nat.le_of_ble_eq_true rfl⟩ rfl rfl (ok_X7_begin p1 I L t ht h) ?_ ?_
    · intro e9 u9 hx9
      exact hx9.elim
    intro v9 u9 hv9
    obtain ⟨I1058, t1059, rfl, rfl, h⟩ := hv9
    refine ⟨fun q => absurd q (Nat.lt_irrefl _), ?_⟩
    obtain ⟨ht1060, h⟩ := h
    show V G Y_X8_load 34 _ _ _ _ _ _ _
    refine v_aload_n (pc' := 35) 17 0 rfl rfl rfl rfl ?_
    refine v_getR (t := d) (pc' := 38) 18 rfl rfl pf_X8_44 ly_0 (lay_lt ly_0 (by decide)) rt_0_6 ?_
    refine v_cV (Y2 := Y_X0_clear) (As := []) (b := d) (pc' := 41) (c1 := 0) (s1 := 0) 19 rfl rfl mf_X0_clear rfl rfl ml_X8_72 mi_X0_clear se_X0_clear (ci := 0) rfl (bn0l hd) (lay_lt (bn0l hd) (by decide)) rfl (Nat.le_of_ble_eq_true rfl) ⟨Nat.le_of_ble_eq_true rfl, Nat.le_of_ble_eq_true rfl⟩ rfl rfl (ok_X0_clear d I1058 L hd h) ?_ ?_
    · intro e9 u9 hx9
      exact hx9.elim
    intro v9 u9 hv9
    obtain ⟨I1061, L1062, rfl, rfl, h⟩ := hv9
    refine ⟨fun q => absurd q (Nat.lt_irrefl _), ?_⟩
    show V G Y_X8_load 41 _ _ _ _ _ _ _
    refine v_aload_n (pc' := 42) 20 0 rfl rfl rfl rfl ?_
    refine v_getR (t := 344) (pc' := 45) 21 rfl rfl pf_X8_19 ly_0 (lay_lt ly_0 (by decide)) rt_0_1 ?_
    refine v_aload_n (pc' := 46) 22 0 rfl rfl rfl rfl ?_
    refine v_getR (t := d) (pc' := 49) 23 rfl rfl pf_X8_44 ly_0 (lay_lt ly_0 (by decide)) rt_0_6 ?_
    refine v_cS (Y2 := Y_X1_read) (As := [.ref 344, .ref d]) (pc' := 52) (c1 := 0) (s1 := 0) 24 rfl rfl mf_X1_read rfl rfl ml_X8_75 ms_X1_read rfl (Nat.le_of_ble_eq_true rfl) ⟨Nat.le_of_ble_eq_true rfl, Nat.le_of_ble_eq_true rfl⟩ rfl rfl (ok_X1_read d I1061 L1062 t1059 hd ht1060 h) ?_ ?_
    · intro e9 u9 hx9
      exact hx9.elim
    intro v9 u9 hv9
    obtain ⟨I1063, L1064, rfl, rfl, h⟩ := hv9
    refine ⟨fun q => absurd q (Nat.lt_irrefl _), ?_⟩
    show V G Y_X8_load 52 _ _ _ _ _ _ _
    refine v_aload_n (pc' := 53) 25 0 rfl rfl rfl rfl ?_
    refine v_iconst (v := 0) (pc' := 54) 26 rfl rfl (by decide) ?_
    refine v_putI (pc' := 57) 27 rfl rfl pf_X8_47 (fun q => absurd q (by decide)) ly_0 (lay_lt ly_0 (by decide)) ?_
    refine v_aload_n (pc' := 58) 28 0 rfl rfl rfl rfl ?_
    refine v_aload_n (pc' := 59) 29 0 rfl rfl rfl rfl ?_
    refine v_getR (t := 344) (pc' := 62) 30 rfl rfl pf_X8_19 ly_0 (lay_lt ly_0 (by decide)) rt_0_1 ?_
    refine v_getI (pc' := 65) 31 rfl rfl pf_X8_81 ly_344 (lay_lt ly_344 (by decide)) ?_
    refine v_putI (pc' := 68) 32 rfl rfl pf_X8_54 (fun q => absurd q (by decide)) ly_0 (lay_lt ly_0 (by decide)) ?_
    refine v_aload_n (pc' := 69) 33 0 rfl rfl rfl rfl ?_
    refine v_getR (t := 344) (pc' := 72) 34 rfl rfl pf_X8_19 ly_0 (lay_lt ly_0 (by decide)) rt_0_1 ?_
    refine v_cV (Y2 := Y_X7_failed) (As := []) (b := 344) (pc' := 75) (c1 := 0) (s1 := 0) 35 rfl rfl mf_X7_failed rfl rfl ml_X8_82 mi_X7_failed se_X7_failed (ci := 6) rfl ly_344 (lay_lt ly_344 (by decide)) rfl (Nat.le_of_ble_eq_true rfl) ⟨Nat.le_of_ble_eq_true rfl, Nat.le_of_ble_eq_true rfl⟩ rfl rfl (ok_X7_failed (up2 (up2 I1063 0 7 0) 0 9 ((up2 I1063 0 7 0) 344 7)) L1064 h) ?_ ?_
    · intro e9 u9 hx9
      exact hx9.elim
    intro v9 u9 hv9
    obtain ⟨r1065, rfl, rfl, h⟩ := hv9
    refine ⟨fun q => absurd q (Nat.lt_irrefl _), ?_⟩
    show V G Y_X8_load 75 _ (.int r1065 :: _) _ _ _ _ _
    refine v_if_eq (tgt := 89) (pc' := 78) 36 rfl rfl (by decide) (fun hc => ?_) (fun hc => ?_)
    · replace h := h.1 hc
      refine v_aload_n (pc' := 90) 43 0 rfl rfl rfl rfl ?_
      refine v_getR (t := b) (pc' := 93) 44 rfl rfl pf_X8_40 ly_0 (lay_lt ly_0 (by decide)) rt_0_5 ?_
      refine v_astore_n (ls' := [(2, .ref b), (0, .ref 0), (1, .int p1)]) (pc' := 94) 45 rfl rfl rfl (by decide) rfl ?_
      refine v_aload_n (pc' := 95) 46 1 rfl rfl rfl rfl ?_
      refine v_aload_n (pc' := 96) 47 1 rfl rfl rfl rfl ?_
      refine v_getR (t := d) (pc' := 99) 48 rfl rfl pf_X8_44 ly_0 (lay_lt ly_0 (by decide)) rt_0_6 ?_
      refine v_putR (pc' := 102) 49 rfl rfl pf_X8_40 (fun q => absurd q (by decide)) ly_0 (lay_lt ly_0 (by decide)) ?_
      rw [rt_ubench]
      refine v_aload_n (pc' := 103) 50 1 rfl rfl rfl rfl ?_
      refine v_aload_n (pc' := 104) 51 0 rfl rfl rfl rfl ?_
      refine v_putR (pc' := 107) 52 rfl rfl pf_X8_44 (fun q => absurd q (by decide)) ly_0 (lay_lt ly_0 (by decide)) ?_
      rw [rt_udraft]
      refine v_aload_n (pc' := 108) 53 1 rfl rfl rfl rfl ?_
      refine v_getR (t := d) (pc' := 111) 54 rfl rfl pf_X8_40 ly_0 (lay_lt ly_0 (by decide)) rt_0_5 ?_
      refine v_cV (Y2 := Y_X0_refresh) (As := []) (b := d) (pc' := 114) (c1 := 0) (s1 := 0) 55 rfl rfl mf_X0_refresh rfl rfl ml_X8_89 mi_X0_refresh se_X0_refresh (ci := 0) rfl (bn0l hd) (lay_lt (bn0l hd) (by decide)) rfl (Nat.le_of_ble_eq_true rfl) ⟨Nat.le_of_ble_eq_true rfl, Nat.le_of_ble_eq_true rfl⟩ rfl rfl (ok_X0_refresh d (up2 (up2 I1063 0 7 0) 0 9 ((up2 I1063 0 7 0) 344 7)) L1064 hd h) ?_ ?_
      · intro e9 u9 hx9
        exact hx9.elim
      intro v9 u9 hv9
      obtain ⟨I1066, L1067, rfl, rfl, h⟩ := hv9
      refine ⟨fun q => absurd q (Nat.lt_irrefl _), ?_⟩
      show V G Y_X8_load 114 _ _ _ _ _ _ _
      refine v_aload_n (pc' := 115) 56 1 rfl rfl rfl rfl ?_
      refine v_getR (t := 1) (pc' := 118) 57 rfl rfl pf_X8_10 ly_0 (lay_lt ly_0 (by decide)) rt_0_0 ?_
      refine v_cV (Y2 := Y_X4_discardAll) (As := []) (b := 1) (pc' := 121) (c1 := 0) (s1 := 0) 58 rfl rfl mf_X4_discardAll rfl rfl ml_X8_92 mi_X4_discardAll se_X4_discardAll (ci := 3) rfl ly_1 (lay_lt ly_1 (by decide)) rfl (Nat.le_of_ble_eq_true rfl) ⟨Nat.le_of_ble_eq_true rfl, Nat.le_of_ble_eq_true rfl⟩ rfl rfl (ok_X4_discardAll I1066 L1067 h) ?_ ?_
      · intro e9 u9 hx9
        exact hx9.elim
      intro v9 u9 hv9
      obtain ⟨I1068, rfl, rfl, h⟩ := hv9
      refine ⟨fun q => absurd q (Nat.lt_irrefl _), ?_⟩
      show V G Y_X8_load 121 _ _ _ _ _ _ _
      refine v_aload_n (pc' := 122) 59 1 rfl rfl rfl rfl ?_
      refine v_getR (t := d) (pc' := 125) 60 rfl rfl pf_X8_40 ly_0 (lay_lt ly_0 (by decide)) rt_0_5 ?_
      refine v_getR (t := (d + 1)) (pc' := 128) 61 rfl rfl pf_X8_95 (bn0l hd) (lay_lt (bn0l hd) (by decide)) (rt_bn_0 hd) ?_
      refine v_cV (Y2 := Y_X2_nets) (As := []) (b := (d + 1)) (pc' := 131) (c1 := 0) (s1 := 0) 62 rfl rfl mf_X2_nets rfl rfl ml_X8_99 mi_X2_nets se_X2_nets (ci := 1) rfl (bn1l hd) (lay_lt (bn1l hd) (by decide)) rfl (Nat.le_of_ble_eq_true rfl) ⟨Nat.le_of_ble_eq_true rfl, Nat.le_of_ble_eq_true rfl⟩ rfl rfl (ok_X2_nets (d + 1) I1068 L1067 (bn_ck hd) h) ?_ ?_
      · intro e9 u9 hx9
        exact hx9.elim
      intro v9 u9 hv9
      obtain ⟨r1069, rfl, rfl, h⟩ := hv9
      refine ⟨fun q => absurd q (Nat.lt_irrefl _), ?_⟩
      show V G Y_X8_load 131 _ (.int r1069 :: _) _ _ _ _ _
      exact v_iret 63 rfl rfl (by decide) (by decide) ⟨_, _, _, _, _, _, rfl, rfl, h⟩
    replace h := h.2 hc
    refine v_bipush (v := -10) (pc' := 80) 37 rfl rfl (by decide) ?_
    refine v_aload_n (pc' := 81) 38 0 rfl rfl rfl rfl ?_
    refine v_getR (t := 344) (pc' := 84) 39 rfl rfl pf_X8_19 ly_0 (lay_lt ly_0 (by decide)) rt_0_1 ?_
    refine v_getI (pc' := 87) 40 rfl rfl pf_X8_86 ly_344 (lay_lt ly_344 (by decide)) ?_
    refine v_isub (pc' := 88) 41 rfl rfl ?_
    exact v_iret 42 rfl rfl (by decide) (by decide) ⟨_, _, _, _, _, _, rfl, rfl, h⟩
  replace h := h.2 hc
  exact v_throw 6 7 8 9 10 rfl rfl rfl rfl rfl tf_X8_61_65 sr_X8_63 rfl (by decide) (Nat.le_of_ble_eq_true rfl) (by decide) (by decide) ⟨_, _, _, _, _, rfl, h⟩
set_option maxHeartbeats 4000000 in
set_option maxRecDepth 100000 in
theorem ok_X8_errorPosition {G : GT} {b d t : Nat} (I : TI) (L : TL)  {Q : Int32 → Prop} (h : W_X8_errorPosition I L Q) : MW G Y_X8_errorPosition [.ref 0] (I, L, RT b d t, 457) (fun v9 u9 => ∃ (r9 : Int32), v9 = some (.int r9) ∧ u9 = (I, L, RT b d t, 457) ∧ Q r9) (fun _ _ => False) := by
  unfold W_X8_errorPosition at h
  refine MW.intro rfl (by decide) is_X8_errorPosition (Nat.le_of_ble_eq_true rfl) ?_
  show V G Y_X8_errorPosition 0 [(0, .ref 0)] [] (I, L, RT b d t, 457) 0 0 _ _
  refine v_aload_n (pc' := 1) 0 0 rfl rfl rfl rfl ?_
  refine v_getI (pc' := 4) 1 rfl rfl pf_X8_54 ly_0 (lay_lt ly_0 (by decide)) ?_
  exact v_iret 2 rfl rfl (by decide) (by decide) ⟨_, rfl, rfl, h⟩
set_option maxHeartbeats 4000000 in
set_option maxRecDepth 100000 in
theorem ok_X8_size {G : GT} {t : Nat} (p1 : Int32) (I : TI) (L : TL) (b : Nat) (d : Nat) (hb : bnOK b) (hd : bnOK d) {Q : Int32 → Prop} {QX : String → Prop} (h : W_X8_size p1 I L b d Q QX) : MW G Y_X8_size [.ref 0, .int p1] (I, L, RT b d t, 457) (fun v9 u9 => ∃ (r9 : Int32), v9 = some (.int r9) ∧ u9 = (I, L, RT b d t, 457) ∧ Q r9) (fun e9 u9 => u9 = (I, L, RT b d t, 457) ∧ QX e9) := by
  unfold W_X8_size at h
  refine MW.intro rfl (by decide) is_X8_size (Nat.le_of_ble_eq_true rfl) ?_
  show V G Y_X8_size 0 [(0, .ref 0), (1, .int p1)] [] (I, L, RT b d t, 457) 0 0 _ _
  refine v_iload_n (pc' := 1) 0 1 rfl rfl rfl rfl ?_
  refine v_ts (clo := 0) (chi := 9) (dt := 172) 1 10 [56, 67, 78, 89, 100, 111, 122, 133, 146, 159] rfl (by decide) (by decide) (by decide) (by decide) (by decide) ?_ (fun hc => ?_)
  · intro j9 t9 ht9 hj9 hx9
    match j9, ht9, hj9, hx9 with
    | 0, ht9, hj9, hx9 =>
      cases ht9
      replace hx9 := hx9.trans (show Int32.ofInt _ = (0 : Int32) by decide)
      replace h := h.1 hx9
      refine v_aload_n (pc' := 57) 2 0 rfl rfl rfl rfl ?_
      refine v_getR (t := b) (pc' := 60) 3 rfl rfl pf_X8_40 ly_0 (lay_lt ly_0 (by decide)) rt_0_5 ?_
      refine v_getR (t := (b + 1)) (pc' := 63) 4 rfl rfl pf_X8_95 (bn0l hb) (lay_lt (bn0l hb) (by decide)) (rt_bn_0 hb) ?_
      refine v_getI (pc' := 66) 5 rfl rfl pf_X8_105 (bn1l hb) (lay_lt (bn1l hb) (by decide)) ?_
      exact v_iret 6 rfl rfl (by decide) (by decide) ⟨_, rfl, rfl, h⟩
    | 1, ht9, hj9, hx9 =>
      cases ht9
      replace hx9 := hx9.trans (show Int32.ofInt _ = (1 : Int32) by decide)
      replace h := h.2.1 hx9
      refine v_aload_n (pc' := 68) 7 0 rfl rfl rfl rfl ?_
      refine v_getR (t := b) (pc' := 71) 8 rfl rfl pf_X8_40 ly_0 (lay_lt ly_0 (by decide)) rt_0_5 ?_
      refine v_getR (t := (b + 1)) (pc' := 74) 9 rfl rfl pf_X8_95 (bn0l hb) (lay_lt (bn0l hb) (by decide)) (rt_bn_0 hb) ?_
      refine v_getI (pc' := 77) 10 rfl rfl pf_X8_108 (bn1l hb) (lay_lt (bn1l hb) (by decide)) ?_
      exact v_iret 11 rfl rfl (by decide) (by decide) ⟨_, rfl, rfl, h⟩
    | 2, ht9, hj9, hx9 =>
      cases ht9
      replace hx9 := hx9.trans (show Int32.ofInt _ = (2 : Int32) by decide)
      replace h := h.2.2.1 hx9
      refine v_aload_n (pc' := 79) 12 0 rfl rfl rfl rfl ?_
      refine v_getR (t := b) (pc' := 82) 13 rfl rfl pf_X8_40 ly_0 (lay_lt ly_0 (by decide)) rt_0_5 ?_
      refine v_getR (t := (b + 1)) (pc' := 85) 14 rfl rfl pf_X8_95 (bn0l hb) (lay_lt (bn0l hb) (by decide)) (rt_bn_0 hb) ?_
      refine v_getI (pc' := 88) 15 rfl rfl pf_X8_111 (bn1l hb) (lay_lt (bn1l hb) (by decide)) ?_
      exact v_iret 16 rfl rfl (by decide) (by decide) ⟨_, rfl, rfl, h⟩
    | 3, ht9, hj9, hx9 =>
      cases ht9
      replace hx9 := hx9.trans (show Int32.ofInt _ = (3 : Int32) by decide)
      replace h := h.2.2.2.1 hx9
      refine v_aload_n (pc' := 90) 17 0 rfl rfl rfl rfl ?_
      refine v_getR (t := b) (pc' := 93) 18 rfl rfl pf_X8_40 ly_0 (lay_lt ly_0 (by decide)) rt_0_5 ?_
      refine v_getR (t := (b + 6)) (pc' := 96) 19 rfl rfl pf_X8_114 (bn0l hb) (lay_lt (bn0l hb) (by decide)) (rt_bn_1 hb) ?_
      refine v_getI (pc' := 99) 20 rfl rfl pf_X8_118 (bn6l hb) (lay_lt (bn6l hb) (by decide)) ?_
      exact v_iret 21 rfl rfl (by decide) (by decide) ⟨_, rfl, rfl, h⟩
    | 4, ht9, hj9, hx9 =>
      cases ht9
      replace hx9 := hx9.trans (show Int32.ofInt _ = (4 : Int32) by decide)
      replace h := h.2.2.2.2.1 hx9
      refine v_aload_n (pc' := 101) 22 0 rfl rfl rfl rfl ?_
      refine v_getR (t := b) (pc' := 104) 23 rfl rfl pf_X8_40 ly_0 (lay_lt ly_0 (by decide)) rt_0_5 ?_
      refine v_getR (t := (b + 1)) (pc' := 107) 24 rfl rfl pf_X8_95 (bn0l hb) (lay_lt (bn0l hb) (by decide)) (rt_bn_0 hb) ?_
      refine v_getI (pc' := 110) 25 rfl rfl pf_X8_123 (bn1l hb) (lay_lt (bn1l hb) (by decide)) ?_
      exact v_iret 26 rfl rfl (by decide) (by decide) ⟨_, rfl, rfl, h⟩
    | 5, ht9, hj9, hx9 =>
      cases ht9
      replace hx9 := hx9.trans (show Int32.ofInt _ = (5 : Int32) by decide)
      replace h := h.2.2.2.2.2.1 hx9
      refine v_aload_n (pc' := 112) 27 0 rfl rfl rfl rfl ?_
      refine v_getR (t := b) (pc' := 115) 28 rfl rfl pf_X8_40 ly_0 (lay_lt ly_0 (by decide)) rt_0_5 ?_
      refine v_getR (t := (b + 1)) (pc' := 118) 29 rfl rfl pf_X8_95 (bn0l hb) (lay_lt (bn0l hb) (by decide)) (rt_bn_0 hb) ?_
      refine v_getI (pc' := 121) 30 rfl rfl pf_X8_126 (bn1l hb) (lay_lt (bn1l hb) (by decide)) ?_
      exact v_iret 31 rfl rfl (by decide) (by decide) ⟨_, rfl, rfl, h⟩
    | 6, ht9, hj9, hx9 =>
      cases ht9
      replace hx9 := hx9.trans (show Int32.ofInt _ = (6 : Int32) by decide)
      replace h := h.2.2.2.2.2.2.1 hx9
      refine v_aload_n (pc' := 123) 32 0 rfl rfl rfl rfl ?_
      refine v_getR (t := b) (pc' := 126) 33 rfl rfl pf_X8_40 ly_0 (lay_lt ly_0 (by decide)) rt_0_5 ?_
      refine v_getR (t := (b + 6)) (pc' := 129) 34 rfl rfl pf_X8_114 (bn0l hb) (lay_lt (bn0l hb) (by decide)) (rt_bn_1 hb) ?_
      refine v_getI (pc' := 132) 35 rfl rfl pf_X8_129 (bn6l hb) (lay_lt (bn6l hb) (by decide)) ?_
      exact v_iret 36 rfl rfl (by decide) (by decide) ⟨_, rfl, rfl, h⟩
    | 7, ht9, hj9, hx9 =>
      cases ht9
      replace hx9 := hx9.trans (show Int32.ofInt _ = (7 : Int32) by decide)
      replace h := h.2.2.2.2.2.2.2.1 hx9
      refine v_aload_n (pc' := 134) 37 0 rfl rfl rfl rfl ?_
      refine v_getR (t := b) (pc' := 137) 38 rfl rfl pf_X8_40 ly_0 (lay_lt ly_0 (by decide)) rt_0_5 ?_
      refine v_getR (t := (b + 6)) (pc' := 140) 39 rfl rfl pf_X8_114 (bn0l hb) (lay_lt (bn0l hb) (by decide)) (rt_bn_1 hb) ?_
      refine v_getR (t := (b + 15)) (pc' := 143) 40 rfl rfl pf_X8_132 (bn6l hb) (lay_lt (bn6l hb) (by decide)) (rt_st_5 (bn_st hb)) ?_
      refine v_iconst (v := 0) (pc' := 144) 41 rfl rfl (by decide) ?_
      refine v_iald (i := 0) (j := 0) (pc' := 145) 42 rfl rfl (bn15l hb) (bn15n hb) (lay_lt (bn15l hb) (by decide)) (vp_lit (by decide)) (by decide) ?_
      exact v_iret 43 rfl rfl (by decide) (by decide) ⟨_, rfl, rfl, h⟩
    | 8, ht9, hj9, hx9 =>
      cases ht9
      replace hx9 := hx9.trans (show Int32.ofInt _ = (8 : Int32) by decide)
      replace h := h.2.2.2.2.2.2.2.2.1 hx9
      refine v_aload_n (pc' := 147) 44 0 rfl rfl rfl rfl ?_
      refine v_getR (t := b) (pc' := 150) 45 rfl rfl pf_X8_40 ly_0 (lay_lt ly_0 (by decide)) rt_0_5 ?_
      refine v_getR (t := (b + 6)) (pc' := 153) 46 rfl rfl pf_X8_114 (bn0l hb) (lay_lt (bn0l hb) (by decide)) (rt_bn_1 hb) ?_
      refine v_getR (t := (b + 15)) (pc' := 156) 47 rfl rfl pf_X8_132 (bn6l hb) (lay_lt (bn6l hb) (by decide)) (rt_st_5 (bn_st hb)) ?_
      refine v_iconst (v := 1) (pc' := 157) 48 rfl rfl (by decide) ?_
      refine v_iald (i := 1) (j := 1) (pc' := 158) 49 rfl rfl (bn15l hb) (bn15n hb) (lay_lt (bn15l hb) (by decide)) (vp_lit (by decide)) (by decide) ?_
      exact v_iret 50 rfl rfl (by decide) (by decide) ⟨_, rfl, rfl, h⟩
    | 9, ht9, hj9, hx9 =>
      cases ht9
      replace hx9 := hx9.trans (show Int32.ofInt _ = (9 : Int32) by decide)
      replace h := h.2.2.2.2.2.2.2.2.2.1 hx9
      refine v_aload_n (pc' := 160) 51 0 rfl rfl rfl rfl ?_
      refine v_getR (t := b) (pc' := 163) 52 rfl rfl pf_X8_40 ly_0 (lay_lt ly_0 (by decide)) rt_0_5 ?_
      refine v_getR (t := (b + 6)) (pc' := 166) 53 rfl rfl pf_X8_114 (bn0l hb) (lay_lt (bn0l hb) (by decide)) (rt_bn_1 hb) ?_
      refine v_getR (t := (b + 15)) (pc' := 169) 54 rfl rfl pf_X8_132 (bn6l hb) (lay_lt (bn6l hb) (by decide)) (rt_st_5 (bn_st hb)) ?_
      refine v_iconst (v := 2) (pc' := 170) 55 rfl rfl (by decide) ?_
      refine v_iald (i := 2) (j := 2) (pc' := 171) 56 rfl rfl (bn15l hb) (bn15n hb) (lay_lt (bn15l hb) (by decide)) (vp_lit (by decide)) (by decide) ?_
      exact v_iret 57 rfl rfl (by decide) (by decide) ⟨_, rfl, rfl, h⟩
    | q9 + 10, ht9, hj9, hx9 => exact absurd hj9 (by omega)
  replace h := h.2.2.2.2.2.2.2.2.2.2 hc
  exact v_throwX 58 59 60 61 62 rfl rfl (Or.inl ⟨rfl, rfl⟩) rfl rfl tf_X8_136_140 sr_X8_138 rfl (by decide) (Nat.le_of_ble_eq_true rfl) (by decide) (by decide) ⟨rfl, h⟩
set_option maxHeartbeats 4000000 in
set_option maxRecDepth 100000 in
theorem ok_X8_requireGate {G : GT} {t : Nat} (p1 : Int32) (I : TI) (L : TL) (b : Nat) (d : Nat) (hb : bnOK b) (hd : bnOK d) {Q : Prop} {QX : String → Prop} (h : W_X8_requireGate p1 I L b d Q QX) : MW G Y_X8_requireGate [.ref 0, .int p1] (I, L, RT b d t, 457) (fun v9 u9 => v9 = none ∧ u9 = (I, L, RT b d t, 457) ∧ Q) (fun e9 u9 => u9 = (I, L, RT b d t, 457) ∧ QX e9) := by
  unfold W_X8_requireGate at h
  refine MW.intro rfl (by decide) is_X8_requireGate (Nat.le_of_ble_eq_true rfl) ?_
  show V G Y_X8_requireGate 0 [(0, .ref 0), (1, .int p1)] [] (I, L, RT b d t, 457) 0 0 _ _
  refine v_aload_n (pc' := 1) 0 0 rfl rfl rfl rfl ?_
  refine v_getR (t := b) (pc' := 4) 1 rfl rfl pf_X8_40 ly_0 (lay_lt ly_0 (by decide)) rt_0_5 ?_
  refine v_getR (t := (b + 1)) (pc' := 7) 2 rfl rfl pf_X8_95 (bn0l hb) (lay_lt (bn0l hb) (by decide)) (rt_bn_0 hb) ?_
  refine v_iload_n (pc' := 8) 3 1 rfl rfl rfl rfl ?_
  refine v_cV (Y2 := Y_X2_hasGate) (As := [.int p1]) (b := (b + 1)) (pc' := 11) (c1 := 0) (s1 := 0) 4 rfl rfl mf_X2_hasGate rfl rfl ml_X8_170 mi_X2_hasGate se_X2_hasGate (ci := 1) rfl (bn1l hb) (lay_lt (bn1l hb) (by decide)) rfl (Nat.le_of_ble_eq_true rfl) ⟨Nat.le_of_ble_eq_true rfl, Nat.le_of_ble_eq_true rfl⟩ rfl rfl (ok_X2_hasGate (b + 1) p1 I L (bn_ck hb) h) ?_ ?_
  · intro e9 u9 hx9
    exact hx9.elim
  intro v9 u9 hv9
  obtain ⟨r1071, rfl, rfl, h⟩ := hv9
  refine ⟨fun q => absurd q (Nat.lt_irrefl _), ?_⟩
  show V G Y_X8_requireGate 11 _ (.int r1071 :: _) _ _ _ _ _
  refine v_if_ne (tgt := 24) (pc' := 14) 5 rfl rfl (by decide) (fun hc => ?_) (fun hc => ?_)
  · replace h := h.1 hc
    exact v_vret 11 rfl rfl (by decide) (by decide) ⟨rfl, rfl, h⟩
  replace h := h.2 hc
  exact v_throwX 6 7 8 9 10 rfl rfl (Or.inl ⟨rfl, rfl⟩) rfl rfl tf_X8_136_140 sr_X8_174 rfl (by decide) (Nat.le_of_ble_eq_true rfl) (by decide) (by decide) ⟨rfl, h⟩
set_option maxHeartbeats 4000000 in
set_option maxRecDepth 100000 in
theorem ok_X8_gate {G : GT} {t : Nat} (p1 : Int32) (p2 : Int32) (I : TI) (L : TL) (b : Nat) (d : Nat) (hb : bnOK b) (hd : bnOK d) {Q : Int32 → Prop} {QX : String → Prop} (h : W_X8_gate p1 p2 I L b d Q QX) : MW G Y_X8_gate [.ref 0, .int p1, .int p2] (I, L, RT b d t, 457) (fun v9 u9 => ∃ (r9 : Int32), v9 = some (.int r9) ∧ u9 = (I, L, RT b d t, 457) ∧ Q r9) (fun e9 u9 => u9 = (I, L, RT b d t, 457) ∧ QX e9) := by
  unfold W_X8_gate at h
  refine MW.intro rfl (by decide) is_X8_gate (Nat.le_of_ble_eq_true rfl) ?_
  show V G Y_X8_gate 0 [(0, .ref 0), (1, .int p1), (2, .int p2)] [] (I, L, RT b d t, 457) 0 0 _ _
  refine v_aload_n (pc' := 1) 0 0 rfl rfl rfl rfl ?_
  refine v_iload_n (pc' := 2) 1 1 rfl rfl rfl rfl ?_
  refine v_cV (Y2 := Y_X8_requireGate) (As := [.int p1]) (b := 0) (pc' := 5) (c1 := 1) (s1 := 6) 2 rfl rfl mf_X8_requireGate rfl rfl ml_X8_141 mi_X8_requireGate se_X8_requireGate (ci := 7) rfl ly_0 (lay_lt ly_0 (by decide)) rfl (Nat.le_of_ble_eq_true rfl) ⟨Nat.le_of_ble_eq_true rfl, Nat.le_of_ble_eq_true rfl⟩ rfl rfl (ok_X8_requireGate p1 I L b d hb hd h) ?_ ?_
  · intro e9 u9 hx9
    obtain ⟨rfl, hx9⟩ := hx9
    exact vx_leave rfl (by decide) (by decide) ⟨rfl, hx9⟩
  intro v9 u9 hv9
  obtain ⟨rfl, rfl, h⟩ := hv9
  refine ⟨fun q => absurd q (Nat.lt_irrefl _), ?_⟩
  show V G Y_X8_gate 5 _ _ _ _ _ _ _
  refine v_iload_n (pc' := 6) 3 2 rfl rfl rfl rfl ?_
  refine v_ts (clo := 0) (chi := 9) (dt := 189) 4 10 [60, 73, 86, 99, 114, 129, 144, 156, 168, 180] rfl (by decide) (by decide) (by decide) (by decide) (by decide) ?_ (fun hc => ?_)
  · intro j9 t9 ht9 hj9 hx9
    match j9, ht9, hj9, hx9 with
    | 0, ht9, hj9, hx9 =>
      cases ht9
      replace hx9 := hx9.trans (show Int32.ofInt _ = (0 : Int32) by decide)
      replace h := h.1 hx9
      refine v_aload_n (pc' := 61) 5 0 rfl rfl rfl rfl ?_
      refine v_getR (t := b) (pc' := 64) 6 rfl rfl pf_X8_40 ly_0 (lay_lt ly_0 (by decide)) rt_0_5 ?_
      refine v_getR (t := (b + 1)) (pc' := 67) 7 rfl rfl pf_X8_95 (bn0l hb) (lay_lt (bn0l hb) (by decide)) (rt_bn_0 hb) ?_
      refine v_getR (t := (b + 2)) (pc' := 70) 8 rfl rfl pf_X8_144 (bn1l hb) (lay_lt (bn1l hb) (by decide)) (rt_ck_0 (bn_ck hb)) ?_
      refine v_iload_n (pc' := 71) 9 1 rfl rfl rfl rfl ?_
      obtain ⟨hi1082, h⟩ := h
      refine v_iald (i := p1) (j := p1.toNatClampNeg) (pc' := 72) 10 rfl rfl (bn2l hb) (bn2n hb) (lay_lt (bn2l hb) (by decide)) hi1082 rfl ?_
      exact v_iret 11 rfl rfl (by decide) (by decide) ⟨_, rfl, rfl, h⟩
    | 1, ht9, hj9, hx9 =>
      cases ht9
      replace hx9 := hx9.trans (show Int32.ofInt _ = (1 : Int32) by decide)
      replace h := h.2.1 hx9
      refine v_aload_n (pc' := 74) 12 0 rfl rfl rfl rfl ?_
      refine v_getR (t := b) (pc' := 77) 13 rfl rfl pf_X8_40 ly_0 (lay_lt ly_0 (by decide)) rt_0_5 ?_
      refine v_getR (t := (b + 1)) (pc' := 80) 14 rfl rfl pf_X8_95 (bn0l hb) (lay_lt (bn0l hb) (by decide)) (rt_bn_0 hb) ?_
      refine v_getR (t := (b + 3)) (pc' := 83) 15 rfl rfl pf_X8_147 (bn1l hb) (lay_lt (bn1l hb) (by decide)) (rt_ck_1 (bn_ck hb)) ?_
      refine v_iload_n (pc' := 84) 16 1 rfl rfl rfl rfl ?_
      obtain ⟨hi1083, h⟩ := h
      refine v_iald (i := p1) (j := p1.toNatClampNeg) (pc' := 85) 17 rfl rfl (bn3l hb) (bn3n hb) (lay_lt (bn3l hb) (by decide)) hi1083 rfl ?_
      exact v_iret 18 rfl rfl (by decide) (by decide) ⟨_, rfl, rfl, h⟩
    | 2, ht9, hj9, hx9 =>
      cases ht9
      replace hx9 := hx9.trans (show Int32.ofInt _ = (2 : Int32) by decide)
      replace h := h.2.2.1 hx9
      refine v_aload_n (pc' := 87) 19 0 rfl rfl rfl rfl ?_
      refine v_getR (t := b) (pc' := 90) 20 rfl rfl pf_X8_40 ly_0 (lay_lt ly_0 (by decide)) rt_0_5 ?_
      refine v_getR (t := (b + 1)) (pc' := 93) 21 rfl rfl pf_X8_95 (bn0l hb) (lay_lt (bn0l hb) (by decide)) (rt_bn_0 hb) ?_
      refine v_getR (t := (b + 4)) (pc' := 96) 22 rfl rfl pf_X8_150 (bn1l hb) (lay_lt (bn1l hb) (by decide)) (rt_ck_2 (bn_ck hb)) ?_
      refine v_iload_n (pc' := 97) 23 1 rfl rfl rfl rfl ?_
      obtain ⟨hi1084, h⟩ := h
      refine v_iald (i := p1) (j := p1.toNatClampNeg) (pc' := 98) 24 rfl rfl (bn4l hb) (bn4n hb) (lay_lt (bn4l hb) (by decide)) hi1084 rfl ?_
      exact v_iret 25 rfl rfl (by decide) (by decide) ⟨_, rfl, rfl, h⟩
    | 3, ht9, hj9, hx9 =>
      cases ht9
      replace hx9 := hx9.trans (show Int32.ofInt _ = (3 : Int32) by decide)
      replace h := h.2.2.2.1 hx9
      refine v_aload_n (pc' := 100) 26 0 rfl rfl rfl rfl ?_
      refine v_getR (t := b) (pc' := 103) 27 rfl rfl pf_X8_40 ly_0 (lay_lt ly_0 (by decide)) rt_0_5 ?_
      refine v_getR (t := (b + 6)) (pc' := 106) 28 rfl rfl pf_X8_114 (bn0l hb) (lay_lt (bn0l hb) (by decide)) (rt_bn_1 hb) ?_
      refine v_getR (t := (b + 7)) (pc' := 109) 29 rfl rfl pf_X8_153 (bn6l hb) (lay_lt (bn6l hb) (by decide)) (rt_st_0 (bn_st hb)) ?_
      refine v_iconst (v := 0) (pc' := 110) 30 rfl rfl (by decide) ?_
      refine v_aald6 (i := 0) (r := (b + 8)) (j := 0) (pc' := 111) 31 rfl rfl (bn7l hb) (bn7n hb) (lay_lt (bn7l hb) (by decide)) (vp_lit (by decide)) (by decide) (rt_row (bn_st hb) (i := 0) (by decide)) ?_
      refine v_iload_n (pc' := 112) 32 1 rfl rfl rfl rfl ?_
      obtain ⟨hi1085, h⟩ := h
      refine v_iald (i := p1) (j := p1.toNatClampNeg) (pc' := 113) 33 rfl rfl (st_rowl (bn_st hb) (i := 0) (by decide)) (st_rown (bn_st hb) (i := 0) (by decide)) (lay_lt (st_rowl (bn_st hb) (i := 0) (by decide)) (by decide)) hi1085 rfl ?_
      exact v_iret 34 rfl rfl (by decide) (by decide) ⟨_, rfl, rfl, h⟩
    | 4, ht9, hj9, hx9 =>
      cases ht9
      replace hx9 := hx9.trans (show Int32.ofInt _ = (4 : Int32) by decide)
      replace h := h.2.2.2.2.1 hx9
      refine v_aload_n (pc' := 115) 35 0 rfl rfl rfl rfl ?_
      refine v_getR (t := b) (pc' := 118) 36 rfl rfl pf_X8_40 ly_0 (lay_lt ly_0 (by decide)) rt_0_5 ?_
      refine v_getR (t := (b + 6)) (pc' := 121) 37 rfl rfl pf_X8_114 (bn0l hb) (lay_lt (bn0l hb) (by decide)) (rt_bn_1 hb) ?_
      refine v_getR (t := (b + 7)) (pc' := 124) 38 rfl rfl pf_X8_153 (bn6l hb) (lay_lt (bn6l hb) (by decide)) (rt_st_0 (bn_st hb)) ?_
      refine v_iconst (v := 1) (pc' := 125) 39 rfl rfl (by decide) ?_
      refine v_aald6 (i := 1) (r := (b + 9)) (j := 1) (pc' := 126) 40 rfl rfl (bn7l hb) (bn7n hb) (lay_lt (bn7l hb) (by decide)) (vp_lit (by decide)) (by decide) (rt_row (bn_st hb) (i := 1) (by decide)) ?_
      refine v_iload_n (pc' := 127) 41 1 rfl rfl rfl rfl ?_
      obtain ⟨hi1086, h⟩ := h
      refine v_iald (i := p1) (j := p1.toNatClampNeg) (pc' := 128) 42 rfl rfl (st_rowl (bn_st hb) (i := 1) (by decide)) (st_rown (bn_st hb) (i := 1) (by decide)) (lay_lt (st_rowl (bn_st hb) (i := 1) (by decide)) (by decide)) hi1086 rfl ?_
      exact v_iret 43 rfl rfl (by decide) (by decide) ⟨_, rfl, rfl, h⟩
    | 5, ht9, hj9, hx9 =>
      cases ht9
      replace hx9 := hx9.trans (show Int32.ofInt _ = (5 : Int32) by decide)
      replace h := h.2.2.2.2.2.1 hx9
      refine v_aload_n (pc' := 130) 44 0 rfl rfl rfl rfl ?_
      refine v_getR (t := b) (pc' := 133) 45 rfl rfl pf_X8_40 ly_0 (lay_lt ly_0 (by decide)) rt_0_5 ?_
      refine v_getR (t := (b + 6)) (pc' := 136) 46 rfl rfl pf_X8_114 (bn0l hb) (lay_lt (bn0l hb) (by decide)) (rt_bn_1 hb) ?_
      refine v_getR (t := (b + 7)) (pc' := 139) 47 rfl rfl pf_X8_153 (bn6l hb) (lay_lt (bn6l hb) (by decide)) (rt_st_0 (bn_st hb)) ?_
      refine v_iconst (v := 2) (pc' := 140) 48 rfl rfl (by decide) ?_
      refine v_aald6 (i := 2) (r := (b + 10)) (j := 2) (pc' := 141) 49 rfl rfl (bn7l hb) (bn7n hb) (lay_lt (bn7l hb) (by decide)) (vp_lit (by decide)) (by decide) (rt_row (bn_st hb) (i := 2) (by decide)) ?_
      refine v_iload_n (pc' := 142) 50 1 rfl rfl rfl rfl ?_
      obtain ⟨hi1087, h⟩ := h
      refine v_iald (i := p1) (j := p1.toNatClampNeg) (pc' := 143) 51 rfl rfl (st_rowl (bn_st hb) (i := 2) (by decide)) (st_rown (bn_st hb) (i := 2) (by decide)) (lay_lt (st_rowl (bn_st hb) (i := 2) (by decide)) (by decide)) hi1087 rfl ?_
      exact v_iret 52 rfl rfl (by decide) (by decide) ⟨_, rfl, rfl, h⟩
    | 6, ht9, hj9, hx9 =>
      cases ht9
      replace hx9 := hx9.trans (show Int32.ofInt _ = (6 : Int32) by decide)
      replace h := h.2.2.2.2.2.2.1 hx9
      refine v_aload_n (pc' := 145) 53 0 rfl rfl rfl rfl ?_
      refine v_getR (t := b) (pc' := 148) 54 rfl rfl pf_X8_40 ly_0 (lay_lt ly_0 (by decide)) rt_0_5 ?_
      refine v_getR (t := (b + 1)) (pc' := 151) 55 rfl rfl pf_X8_95 (bn0l hb) (lay_lt (bn0l hb) (by decide)) (rt_bn_0 hb) ?_
      refine v_iload_n (pc' := 152) 56 1 rfl rfl rfl rfl ?_
      refine v_cV (Y2 := Y_X2_cone) (As := [.int p1]) (b := (b + 1)) (pc' := 155) (c1 := 1) (s1 := 6) 57 rfl rfl mf_X2_cone rfl rfl ml_X8_157 mi_X2_cone se_X2_cone (ci := 1) rfl (bn1l hb) (lay_lt (bn1l hb) (by decide)) rfl (Nat.le_of_ble_eq_true rfl) ⟨Nat.le_of_ble_eq_true rfl, Nat.le_of_ble_eq_true rfl⟩ rfl rfl (ok_X2_cone (b + 1) p1 I L (bn_ck hb) h) ?_ ?_
      · intro e9 u9 hx9
        exact hx9.elim
      intro v9 u9 hv9
      obtain ⟨r1088, rfl, rfl, h⟩ := hv9
      refine ⟨fun q => absurd q (Nat.lt_irrefl _), ?_⟩
      show V G Y_X8_gate 155 _ (.int r1088 :: _) _ _ _ _ _
      exact v_iret 58 rfl rfl (by decide) (by decide) ⟨_, rfl, rfl, h⟩
    | 7, ht9, hj9, hx9 =>
      cases ht9
      replace hx9 := hx9.trans (show Int32.ofInt _ = (7 : Int32) by decide)
      replace h := h.2.2.2.2.2.2.2.1 hx9
      refine v_aload_n (pc' := 157) 59 0 rfl rfl rfl rfl ?_
      refine v_getR (t := b) (pc' := 160) 60 rfl rfl pf_X8_40 ly_0 (lay_lt ly_0 (by decide)) rt_0_5 ?_
      refine v_getR (t := (b + 6)) (pc' := 163) 61 rfl rfl pf_X8_114 (bn0l hb) (lay_lt (bn0l hb) (by decide)) (rt_bn_1 hb) ?_
      refine v_iload_n (pc' := 164) 62 1 rfl rfl rfl rfl ?_
      refine v_cV (Y2 := Y_X6_settledTimes) (As := [.int p1]) (b := (b + 6)) (pc' := 167) (c1 := 1) (s1 := 6) 63 rfl rfl mf_X6_settledTimes rfl rfl ml_X8_161 mi_X6_settledTimes se_X6_settledTimes (ci := 5) rfl (bn6l hb) (lay_lt (bn6l hb) (by decide)) rfl (Nat.le_of_ble_eq_true rfl) ⟨Nat.le_of_ble_eq_true rfl, Nat.le_of_ble_eq_true rfl⟩ rfl rfl (ok_X6_settledTimes (b + 6) p1 I L (bn_st hb) h) ?_ ?_
      · intro e9 u9 hx9
        exact hx9.elim
      intro v9 u9 hv9
      obtain ⟨r1089, rfl, rfl, h⟩ := hv9
      refine ⟨fun q => absurd q (Nat.lt_irrefl _), ?_⟩
      show V G Y_X8_gate 167 _ (.int r1089 :: _) _ _ _ _ _
      exact v_iret 64 rfl rfl (by decide) (by decide) ⟨_, rfl, rfl, h⟩
    | 8, ht9, hj9, hx9 =>
      cases ht9
      replace hx9 := hx9.trans (show Int32.ofInt _ = (8 : Int32) by decide)
      replace h := h.2.2.2.2.2.2.2.2.1 hx9
      refine v_aload_n (pc' := 169) 65 0 rfl rfl rfl rfl ?_
      refine v_getR (t := b) (pc' := 172) 66 rfl rfl pf_X8_40 ly_0 (lay_lt ly_0 (by decide)) rt_0_5 ?_
      refine v_getR (t := (b + 6)) (pc' := 175) 67 rfl rfl pf_X8_114 (bn0l hb) (lay_lt (bn0l hb) (by decide)) (rt_bn_1 hb) ?_
      refine v_iload_n (pc' := 176) 68 1 rfl rfl rfl rfl ?_
      refine v_cV (Y2 := Y_X6_ruledTimes) (As := [.int p1]) (b := (b + 6)) (pc' := 179) (c1 := 1) (s1 := 6) 69 rfl rfl mf_X6_ruledTimes rfl rfl ml_X8_164 mi_X6_ruledTimes se_X6_ruledTimes (ci := 5) rfl (bn6l hb) (lay_lt (bn6l hb) (by decide)) rfl (Nat.le_of_ble_eq_true rfl) ⟨Nat.le_of_ble_eq_true rfl, Nat.le_of_ble_eq_true rfl⟩ rfl rfl (ok_X6_ruledTimes (b + 6) p1 I L (bn_st hb) h) ?_ ?_
      · intro e9 u9 hx9
        exact hx9.elim
      intro v9 u9 hv9
      obtain ⟨r1090, rfl, rfl, h⟩ := hv9
      refine ⟨fun q => absurd q (Nat.lt_irrefl _), ?_⟩
      show V G Y_X8_gate 179 _ (.int r1090 :: _) _ _ _ _ _
      exact v_iret 70 rfl rfl (by decide) (by decide) ⟨_, rfl, rfl, h⟩
    | 9, ht9, hj9, hx9 =>
      cases ht9
      replace hx9 := hx9.trans (show Int32.ofInt _ = (9 : Int32) by decide)
      replace h := h.2.2.2.2.2.2.2.2.2.1 hx9
      refine v_aload_n (pc' := 181) 71 0 rfl rfl rfl rfl ?_
      refine v_getR (t := b) (pc' := 184) 72 rfl rfl pf_X8_40 ly_0 (lay_lt ly_0 (by decide)) rt_0_5 ?_
      refine v_iload_n (pc' := 185) 73 1 rfl rfl rfl rfl ?_
      refine v_cV (Y2 := Y_X0_pulses) (As := [.int p1]) (b := b) (pc' := 188) (c1 := 1) (s1 := 6) 74 rfl rfl mf_X0_pulses rfl rfl ml_X8_167 mi_X0_pulses se_X0_pulses (ci := 0) rfl (bn0l hb) (lay_lt (bn0l hb) (by decide)) rfl (Nat.le_of_ble_eq_true rfl) ⟨Nat.le_of_ble_eq_true rfl, Nat.le_of_ble_eq_true rfl⟩ rfl rfl (ok_X0_pulses b p1 I L hb h) ?_ ?_
      · intro e9 u9 hx9
        exact hx9.elim
      intro v9 u9 hv9
      obtain ⟨r1091, rfl, rfl, h⟩ := hv9
      refine ⟨fun q => absurd q (Nat.lt_irrefl _), ?_⟩
      show V G Y_X8_gate 188 _ (.int r1091 :: _) _ _ _ _ _
      exact v_iret 75 rfl rfl (by decide) (by decide) ⟨_, rfl, rfl, h⟩
    | q9 + 10, ht9, hj9, hx9 => exact absurd hj9 (by omega)
  replace h := h.2.2.2.2.2.2.2.2.2.2 hc
  exact v_throwX 76 77 78 79 80 rfl rfl (Or.inl ⟨rfl, rfl⟩) rfl rfl tf_X8_136_140 sr_X8_138 rfl (by decide) (Nat.le_of_ble_eq_true rfl) (by decide) (by decide) ⟨rfl, h⟩
set_option maxHeartbeats 4000000 in
set_option maxRecDepth 100000 in
theorem ok_X8_requireNet {G : GT} {t : Nat} (p1 : Int32) (I : TI) (L : TL) (b : Nat) (d : Nat) (hb : bnOK b) (hd : bnOK d) {Q : Prop} {QX : String → Prop} (h : W_X8_requireNet p1 I L b d Q QX) : MW G Y_X8_requireNet [.ref 0, .int p1] (I, L, RT b d t, 457) (fun v9 u9 => v9 = none ∧ u9 = (I, L, RT b d t, 457) ∧ Q) (fun e9 u9 => u9 = (I, L, RT b d t, 457) ∧ QX e9) := by
  unfold W_X8_requireNet at h
  refine MW.intro rfl (by decide) is_X8_requireNet (Nat.le_of_ble_eq_true rfl) ?_
  show V G Y_X8_requireNet 0 [(0, .ref 0), (1, .int p1)] [] (I, L, RT b d t, 457) 0 0 _ _
  refine v_aload_n (pc' := 1) 0 0 rfl rfl rfl rfl ?_
  refine v_getR (t := b) (pc' := 4) 1 rfl rfl pf_X8_40 ly_0 (lay_lt ly_0 (by decide)) rt_0_5 ?_
  refine v_getR (t := (b + 1)) (pc' := 7) 2 rfl rfl pf_X8_95 (bn0l hb) (lay_lt (bn0l hb) (by decide)) (rt_bn_0 hb) ?_
  refine v_iload_n (pc' := 8) 3 1 rfl rfl rfl rfl ?_
  refine v_cV (Y2 := Y_X2_hasNet) (As := [.int p1]) (b := (b + 1)) (pc' := 11) (c1 := 0) (s1 := 0) 4 rfl rfl mf_X2_hasNet rfl rfl ml_X8_176 mi_X2_hasNet se_X2_hasNet (ci := 1) rfl (bn1l hb) (lay_lt (bn1l hb) (by decide)) rfl (Nat.le_of_ble_eq_true rfl) ⟨Nat.le_of_ble_eq_true rfl, Nat.le_of_ble_eq_true rfl⟩ rfl rfl (ok_X2_hasNet (b + 1) p1 I L (bn_ck hb) h) ?_ ?_
  · intro e9 u9 hx9
    exact hx9.elim
  intro v9 u9 hv9
  obtain ⟨r1093, rfl, rfl, h⟩ := hv9
  refine ⟨fun q => absurd q (Nat.lt_irrefl _), ?_⟩
  show V G Y_X8_requireNet 11 _ (.int r1093 :: _) _ _ _ _ _
  refine v_if_ne (tgt := 24) (pc' := 14) 5 rfl rfl (by decide) (fun hc => ?_) (fun hc => ?_)
  · replace h := h.1 hc
    exact v_vret 11 rfl rfl (by decide) (by decide) ⟨rfl, rfl, h⟩
  replace h := h.2 hc
  exact v_throwX 6 7 8 9 10 rfl rfl (Or.inl ⟨rfl, rfl⟩) rfl rfl tf_X8_136_140 sr_X8_179 rfl (by decide) (Nat.le_of_ble_eq_true rfl) (by decide) (by decide) ⟨rfl, h⟩
set_option maxHeartbeats 4000000 in
set_option maxRecDepth 100000 in
theorem ok_X8_requireTimes {G : GT} {t : Nat} (p1 : Int32) (p2 : Int32) (I : TI) (L : TL) (b : Nat) (d : Nat) (hb : bnOK b) (hd : bnOK d) {Q : Prop} {QX : String → Prop} (h : W_X8_requireTimes p1 p2 I L b d Q QX) : MW G Y_X8_requireTimes [.ref 0, .int p1, .int p2] (I, L, RT b d t, 457) (fun v9 u9 => v9 = none ∧ u9 = (I, L, RT b d t, 457) ∧ Q) (fun e9 u9 => u9 = (I, L, RT b d t, 457) ∧ QX e9) := by
  unfold W_X8_requireTimes at h
  refine MW.intro rfl (by decide) is_X8_requireTimes (Nat.le_of_ble_eq_true rfl) ?_
  show V G Y_X8_requireTimes 0 [(0, .ref 0), (1, .int p1), (2, .int p2)] [] (I, L, RT b d t, 457) 0 0 _ _
  refine v_aload_n (pc' := 1) 0 0 rfl rfl rfl rfl ?_
  refine v_getR (t := b) (pc' := 4) 1 rfl rfl pf_X8_40 ly_0 (lay_lt ly_0 (by decide)) rt_0_5 ?_
  refine v_getR (t := (b + 1)) (pc' := 7) 2 rfl rfl pf_X8_95 (bn0l hb) (lay_lt (bn0l hb) (by decide)) (rt_bn_0 hb) ?_
  refine v_iload_n (pc' := 8) 3 1 rfl rfl rfl rfl ?_
  refine v_cV (Y2 := Y_X2_hasTime) (As := [.int p1]) (b := (b + 1)) (pc' := 11) (c1 := 0) (s1 := 0) 4 rfl rfl mf_X2_hasTime rfl rfl ml_X8_181 mi_X2_hasTime se_X2_hasTime (ci := 1) rfl (bn1l hb) (lay_lt (bn1l hb) (by decide)) rfl (Nat.le_of_ble_eq_true rfl) ⟨Nat.le_of_ble_eq_true rfl, Nat.le_of_ble_eq_true rfl⟩ rfl rfl (ok_X2_hasTime (b + 1) p1 I L (bn_ck hb) h) ?_ ?_
  · intro e9 u9 hx9
    exact hx9.elim
  intro v9 u9 hv9
  obtain ⟨r1096, rfl, rfl, h⟩ := hv9
  refine ⟨fun q => absurd q (Nat.lt_irrefl _), ?_⟩
  show V G Y_X8_requireTimes 11 _ (.int r1096 :: _) _ _ _ _ _
  refine v_if_eq (tgt := 33) (pc' := 14) 5 rfl rfl (by decide) (fun hc => ?_) (fun hc => ?_)
  · replace h := h.1 hc
    exact v_throw 15 16 17 18 19 rfl rfl rfl rfl rfl tf_X8_61_65 sr_X8_184 rfl (by decide) (Nat.le_of_ble_eq_true rfl) (by decide) (by decide) ⟨rfl, h⟩
  replace h := h.2 hc
  refine v_aload_n (pc' := 15) 6 0 rfl rfl rfl rfl ?_
  refine v_getR (t := b) (pc' := 18) 7 rfl rfl pf_X8_40 ly_0 (lay_lt ly_0 (by decide)) rt_0_5 ?_
  refine v_getR (t := (b + 1)) (pc' := 21) 8 rfl rfl pf_X8_95 (bn0l hb) (lay_lt (bn0l hb) (by decide)) (rt_bn_0 hb) ?_
  refine v_iload_n (pc' := 22) 9 2 rfl rfl rfl rfl ?_
  refine v_cV (Y2 := Y_X2_hasTime) (As := [.int p2]) (b := (b + 1)) (pc' := 25) (c1 := 0) (s1 := 0) 10 rfl rfl mf_X2_hasTime rfl rfl ml_X8_181 mi_X2_hasTime se_X2_hasTime (ci := 1) rfl (bn1l hb) (lay_lt (bn1l hb) (by decide)) rfl (Nat.le_of_ble_eq_true rfl) ⟨Nat.le_of_ble_eq_true rfl, Nat.le_of_ble_eq_true rfl⟩ rfl rfl (ok_X2_hasTime (b + 1) p2 I L (bn_ck hb) h) ?_ ?_
  · intro e9 u9 hx9
    exact hx9.elim
  intro v9 u9 hv9
  obtain ⟨r1097, rfl, rfl, h⟩ := hv9
  refine ⟨fun q => absurd q (Nat.lt_irrefl _), ?_⟩
  show V G Y_X8_requireTimes 25 _ (.int r1097 :: _) _ _ _ _ _
  refine v_if_eq (tgt := 33) (pc' := 28) 11 rfl rfl (by decide) (fun hc => ?_) (fun hc => ?_)
  · replace h := h.1 hc
    exact v_throw 15 16 17 18 19 rfl rfl rfl rfl rfl tf_X8_61_65 sr_X8_184 rfl (by decide) (Nat.le_of_ble_eq_true rfl) (by decide) (by decide) ⟨rfl, h⟩
  replace h := h.2 hc
  refine v_iload_n (pc' := 29) 12 2 rfl rfl rfl rfl ?_
  refine v_iload_n (pc' := 30) 13 1 rfl rfl rfl rfl ?_
  refine v_icmp_ge (tgt := 43) (pc' := 33) 14 rfl rfl (by decide) (fun hc => ?_) (fun hc => ?_)
  · replace h := h.1 hc
    exact v_vret 20 rfl rfl (by decide) (by decide) ⟨rfl, rfl, h⟩
  replace h := h.2 hc
  exact v_throw 15 16 17 18 19 rfl rfl rfl rfl rfl tf_X8_61_65 sr_X8_184 rfl (by decide) (Nat.le_of_ble_eq_true rfl) (by decide) (by decide) ⟨rfl, h⟩
set_option maxHeartbeats 4000000 in
set_option maxRecDepth 100000 in
theorem ok_X8_requireWave {G : GT} {t : Nat} (p1 : Int32) (p2 : Int32) (I : TI) (L : TL) (b : Nat) (d : Nat) (hb : bnOK b) (hd : bnOK d) {Q : Int64 → Prop} {QX : String → Prop} (h : W_X8_requireWave p1 p2 I L b d Q QX) : MW G Y_X8_requireWave [.ref 0, .int p1, .int p2] (I, L, RT b d t, 457) (fun v9 u9 => ∃ (r9 : Int64), v9 = some (.long r9) ∧ u9 = (I, L, RT b d t, 457) ∧ Q r9) (fun e9 u9 => u9 = (I, L, RT b d t, 457) ∧ QX e9) := by
  unfold W_X8_requireWave at h
  refine MW.intro rfl (by decide) is_X8_requireWave (Nat.le_of_ble_eq_true rfl) ?_
  show V G Y_X8_requireWave 0 [(0, .ref 0), (1, .int p1), (2, .int p2)] [] (I, L, RT b d t, 457) 0 0 _ _
  refine v_aload_n (pc' := 1) 0 0 rfl rfl rfl rfl ?_
  refine v_iload_n (pc' := 2) 1 1 rfl rfl rfl rfl ?_
  refine v_cV (Y2 := Y_X8_requireNet) (As := [.int p1]) (b := 0) (pc' := 5) (c1 := 1) (s1 := 6) 2 rfl rfl mf_X8_requireNet rfl rfl ml_X8_186 mi_X8_requireNet se_X8_requireNet (ci := 7) rfl ly_0 (lay_lt ly_0 (by decide)) rfl (Nat.le_of_ble_eq_true rfl) ⟨Nat.le_of_ble_eq_true rfl, Nat.le_of_ble_eq_true rfl⟩ rfl rfl (ok_X8_requireNet p1 I L b d hb hd h) ?_ ?_
  · intro e9 u9 hx9
    obtain ⟨rfl, hx9⟩ := hx9
    exact vx_leave rfl (by decide) (by decide) ⟨rfl, hx9⟩
  intro v9 u9 hv9
  obtain ⟨rfl, rfl, h⟩ := hv9
  refine ⟨fun q => absurd q (Nat.lt_irrefl _), ?_⟩
  show V G Y_X8_requireWave 5 _ _ _ _ _ _ _
  refine v_iload_n (pc' := 6) 3 2 rfl rfl rfl rfl ?_
  refine v_ts (clo := 0) (chi := 2) (dt := 62) 4 3 [32, 42, 52] rfl (by decide) (by decide) (by decide) (by decide) (by decide) ?_ (fun hc => ?_)
  · intro j9 t9 ht9 hj9 hx9
    match j9, ht9, hj9, hx9 with
    | 0, ht9, hj9, hx9 =>
      cases ht9
      replace hx9 := hx9.trans (show Int32.ofInt _ = (0 : Int32) by decide)
      replace h := h.1 hx9
      refine v_aload_n (pc' := 33) 5 0 rfl rfl rfl rfl ?_
      refine v_getR (t := b) (pc' := 36) 6 rfl rfl pf_X8_40 ly_0 (lay_lt ly_0 (by decide)) rt_0_5 ?_
      refine v_getR (t := (b + 37)) (pc' := 39) 7 rfl rfl pf_X8_189 (bn0l hb) (lay_lt (bn0l hb) (by decide)) (rt_bn_2 hb) ?_
      refine v_iload_n (pc' := 40) 8 1 rfl rfl rfl rfl ?_
      obtain ⟨hi1101, h⟩ := h
      refine v_lald (i := p1) (j := p1.toNatClampNeg) (pc' := 41) 9 rfl rfl (bn37l hb) (bn37n hb) (lay_lt (bn37l hb) (by decide)) hi1101 rfl ?_
      exact v_lret 10 rfl rfl (by decide) (by decide) ⟨_, rfl, rfl, h⟩
    | 1, ht9, hj9, hx9 =>
      cases ht9
      replace hx9 := hx9.trans (show Int32.ofInt _ = (1 : Int32) by decide)
      replace h := h.2.1 hx9
      refine v_aload_n (pc' := 43) 11 0 rfl rfl rfl rfl ?_
      refine v_getR (t := b) (pc' := 46) 12 rfl rfl pf_X8_40 ly_0 (lay_lt ly_0 (by decide)) rt_0_5 ?_
      refine v_getR (t := (b + 38)) (pc' := 49) 13 rfl rfl pf_X8_193 (bn0l hb) (lay_lt (bn0l hb) (by decide)) (rt_bn_3 hb) ?_
      refine v_iload_n (pc' := 50) 14 1 rfl rfl rfl rfl ?_
      obtain ⟨hi1102, h⟩ := h
      refine v_lald (i := p1) (j := p1.toNatClampNeg) (pc' := 51) 15 rfl rfl (bn38l hb) (bn38n hb) (lay_lt (bn38l hb) (by decide)) hi1102 rfl ?_
      exact v_lret 16 rfl rfl (by decide) (by decide) ⟨_, rfl, rfl, h⟩
    | 2, ht9, hj9, hx9 =>
      cases ht9
      replace hx9 := hx9.trans (show Int32.ofInt _ = (2 : Int32) by decide)
      replace h := h.2.2.1 hx9
      refine v_aload_n (pc' := 53) 17 0 rfl rfl rfl rfl ?_
      refine v_getR (t := b) (pc' := 56) 18 rfl rfl pf_X8_40 ly_0 (lay_lt ly_0 (by decide)) rt_0_5 ?_
      refine v_getR (t := (b + 39)) (pc' := 59) 19 rfl rfl pf_X8_196 (bn0l hb) (lay_lt (bn0l hb) (by decide)) (rt_bn_4 hb) ?_
      refine v_iload_n (pc' := 60) 20 1 rfl rfl rfl rfl ?_
      obtain ⟨hi1103, h⟩ := h
      refine v_lald (i := p1) (j := p1.toNatClampNeg) (pc' := 61) 21 rfl rfl (bn39l hb) (bn39n hb) (lay_lt (bn39l hb) (by decide)) hi1103 rfl ?_
      exact v_lret 22 rfl rfl (by decide) (by decide) ⟨_, rfl, rfl, h⟩
    | q9 + 3, ht9, hj9, hx9 => exact absurd hj9 (by omega)
  replace h := h.2.2.2 hc
  exact v_throwX 23 24 25 26 27 rfl rfl (Or.inl ⟨rfl, rfl⟩) rfl rfl tf_X8_136_140 sr_X8_199 rfl (by decide) (Nat.le_of_ble_eq_true rfl) (by decide) (by decide) ⟨rfl, h⟩
set_option maxHeartbeats 4000000 in
set_option maxRecDepth 100000 in
theorem ok_X8_value {G : GT} {t : Nat} (p1 : Int32) (p2 : Int32) (p3 : Int32) (I : TI) (L : TL) (b : Nat) (d : Nat) (hb : bnOK b) (hd : bnOK d) {Q : Int32 → Prop} {QX : String → Prop} (h : W_X8_value p1 p2 p3 I L b d Q QX) : MW G Y_X8_value [.ref 0, .int p1, .int p2, .int p3] (I, L, RT b d t, 457) (fun v9 u9 => ∃ (r9 : Int32), v9 = some (.int r9) ∧ u9 = (I, L, RT b d t, 457) ∧ Q r9) (fun e9 u9 => u9 = (I, L, RT b d t, 457) ∧ QX e9) := by
  unfold W_X8_value at h
  refine MW.intro rfl (by decide) is_X8_value (Nat.le_of_ble_eq_true rfl) ?_
  show V G Y_X8_value 0 [(0, .ref 0), (1, .int p1), (2, .int p2), (3, .int p3)] [] (I, L, RT b d t, 457) 0 0 _ _
  refine v_aload_n (pc' := 1) 0 0 rfl rfl rfl rfl ?_
  refine v_iload_n (pc' := 2) 1 1 rfl rfl rfl rfl ?_
  refine v_iload_n (pc' := 3) 2 3 rfl rfl rfl rfl ?_
  refine v_cV (Y2 := Y_X8_requireWave) (As := [.int p1, .int p3]) (b := 0) (pc' := 6) (c1 := 2) (s1 := 12) 3 rfl rfl mf_X8_requireWave rfl rfl ml_X8_201 mi_X8_requireWave se_X8_requireWave (ci := 7) rfl ly_0 (lay_lt ly_0 (by decide)) rfl (Nat.le_of_ble_eq_true rfl) ⟨Nat.le_of_ble_eq_true rfl, Nat.le_of_ble_eq_true rfl⟩ rfl rfl (ok_X8_requireWave p1 p3 I L b d hb hd h) ?_ ?_
  · intro e9 u9 hx9
    obtain ⟨rfl, hx9⟩ := hx9
    exact vx_leave rfl (by decide) (by decide) ⟨rfl, hx9⟩
  intro v9 u9 hv9
  obtain ⟨r1107, rfl, rfl, h⟩ := hv9
  refine ⟨fun q => absurd q (Nat.lt_irrefl _), ?_⟩
  show V G Y_X8_value 6 _ (.long r1107 :: _) _ _ _ _ _
  refine v_lstore (ls' := [(4, .long r1107), (0, .ref 0), (1, .int p1), (2, .int p2), (3, .int p3)]) (pc' := 8) 4 rfl rfl (by decide) rfl ?_
  refine v_aload_n (pc' := 9) 5 1 rfl rfl rfl rfl ?_
  refine v_getR (t := b) (pc' := 12) 6 rfl rfl pf_X8_40 ly_0 (lay_lt ly_0 (by decide)) rt_0_5 ?_
  refine v_getR (t := (b + 1)) (pc' := 15) 7 rfl rfl pf_X8_95 (bn0l hb) (lay_lt (bn0l hb) (by decide)) (rt_bn_0 hb) ?_
  refine v_iload_n (pc' := 16) 8 3 rfl rfl rfl rfl ?_
  refine v_cV (Y2 := Y_X2_hasTime) (As := [.int p2]) (b := (b + 1)) (pc' := 19) (c1 := 2) (s1 := 12) 9 rfl rfl mf_X2_hasTime rfl rfl ml_X8_181 mi_X2_hasTime se_X2_hasTime (ci := 1) rfl (bn1l hb) (lay_lt (bn1l hb) (by decide)) rfl (Nat.le_of_ble_eq_true rfl) ⟨Nat.le_of_ble_eq_true rfl, Nat.le_of_ble_eq_true rfl⟩ rfl rfl (ok_X2_hasTime (b + 1) p2 I L (bn_ck hb) h) ?_ ?_
  · intro e9 u9 hx9
    exact hx9.elim
  intro v9 u9 hv9
  obtain ⟨r1108, rfl, rfl, h⟩ := hv9
  refine ⟨fun q => absurd q (Nat.lt_irrefl _), ?_⟩
  show V G Y_X8_value 19 _ (.int r1108 :: _) _ _ _ _ _
  refine v_if_ne (tgt := 32) (pc' := 22) 10 rfl rfl (by decide) (fun hc => ?_) (fun hc => ?_)
  · replace h := h.1 hc
    refine v_lload (pc' := 34) 16 0 rfl rfl rfl ?_
    refine v_iload_n (pc' := 35) 17 3 rfl rfl rfl rfl ?_
    refine v_cS (Y2 := Y_X8_bitOf) (As := [.long r1107, .int p2]) (pc' := 38) (c1 := 2) (s1 := 12) 18 rfl rfl mf_X8_bitOf rfl rfl ml_X8_207 ms_X8_bitOf rfl (Nat.le_of_ble_eq_true rfl) ⟨Nat.le_of_ble_eq_true rfl, Nat.le_of_ble_eq_true rfl⟩ rfl rfl (ok_X8_bitOf r1107 p2 I L h) ?_ ?_
    · intro e9 u9 hx9
      exact hx9.elim
    intro v9 u9 hv9
    obtain ⟨r1109, rfl, rfl, h⟩ := hv9
    refine ⟨fun q => absurd q (Nat.lt_irrefl _), ?_⟩
    show V G Y_X8_value 38 _ (.int r1109 :: _) _ _ _ _ _
    exact v_iret 19 rfl rfl (by decide) (by decide) ⟨_, rfl, rfl, h⟩
  replace h := h.2 hc
  exact v_throwX 11 12 13 14 15 rfl rfl (Or.inl ⟨rfl, rfl⟩) rfl rfl tf_X8_136_140 sr_X8_205 rfl (by decide) (Nat.le_of_ble_eq_true rfl) (by decide) (by decide) ⟨rfl, h⟩
set_option maxHeartbeats 4000000 in
set_option maxRecDepth 100000 in
theorem ok_X8_stateAt {G : GT} {t : Nat} (p1 : Int32) (p2 : Int32) (I : TI) (L : TL) (b : Nat) (d : Nat) (hb : bnOK b) (hd : bnOK d) {Q : Int32 → Prop} {QX : String → Prop} (h : W_X8_stateAt p1 p2 I L b d Q QX) : MW G Y_X8_stateAt [.ref 0, .int p1, .int p2] (I, L, RT b d t, 457) (fun v9 u9 => ∃ (r9 : Int32), v9 = some (.int r9) ∧ u9 = (I, L, RT b d t, 457) ∧ Q r9) (fun e9 u9 => u9 = (I, L, RT b d t, 457) ∧ QX e9) := by
  unfold W_X8_stateAt at h
  refine MW.intro rfl (by decide) is_X8_stateAt (Nat.le_of_ble_eq_true rfl) ?_
  show V G Y_X8_stateAt 0 [(0, .ref 0), (1, .int p1), (2, .int p2)] [] (I, L, RT b d t, 457) 0 0 _ _
  refine v_aload_n (pc' := 1) 0 0 rfl rfl rfl rfl ?_
  refine v_iload_n (pc' := 2) 1 1 rfl rfl rfl rfl ?_
  refine v_cV (Y2 := Y_X8_requireNet) (As := [.int p1]) (b := 0) (pc' := 5) (c1 := 1) (s1 := 6) 2 rfl rfl mf_X8_requireNet rfl rfl ml_X8_186 mi_X8_requireNet se_X8_requireNet (ci := 7) rfl ly_0 (lay_lt ly_0 (by decide)) rfl (Nat.le_of_ble_eq_true rfl) ⟨Nat.le_of_ble_eq_true rfl, Nat.le_of_ble_eq_true rfl⟩ rfl rfl (ok_X8_requireNet p1 I L b d hb hd h) ?_ ?_
  · intro e9 u9 hx9
    obtain ⟨rfl, hx9⟩ := hx9
    exact vx_leave rfl (by decide) (by decide) ⟨rfl, hx9⟩
  intro v9 u9 hv9
  obtain ⟨rfl, rfl, h⟩ := hv9
  refine ⟨fun q => absurd q (Nat.lt_irrefl _), ?_⟩
  show V G Y_X8_stateAt 5 _ _ _ _ _ _ _
  refine v_aload_n (pc' := 6) 3 0 rfl rfl rfl rfl ?_
  refine v_getR (t := b) (pc' := 9) 4 rfl rfl pf_X8_40 ly_0 (lay_lt ly_0 (by decide)) rt_0_5 ?_
  refine v_getR (t := (b + 1)) (pc' := 12) 5 rfl rfl pf_X8_95 (bn0l hb) (lay_lt (bn0l hb) (by decide)) (rt_bn_0 hb) ?_
  refine v_iload_n (pc' := 13) 6 2 rfl rfl rfl rfl ?_
  refine v_cV (Y2 := Y_X2_hasTime) (As := [.int p2]) (b := (b + 1)) (pc' := 16) (c1 := 1) (s1 := 6) 7 rfl rfl mf_X2_hasTime rfl rfl ml_X8_181 mi_X2_hasTime se_X2_hasTime (ci := 1) rfl (bn1l hb) (lay_lt (bn1l hb) (by decide)) rfl (Nat.le_of_ble_eq_true rfl) ⟨Nat.le_of_ble_eq_true rfl, Nat.le_of_ble_eq_true rfl⟩ rfl rfl (ok_X2_hasTime (b + 1) p2 I L (bn_ck hb) h) ?_ ?_
  · intro e9 u9 hx9
    exact hx9.elim
  intro v9 u9 hv9
  obtain ⟨r1112, rfl, rfl, h⟩ := hv9
  refine ⟨fun q => absurd q (Nat.lt_irrefl _), ?_⟩
  show V G Y_X8_stateAt 16 _ (.int r1112 :: _) _ _ _ _ _
  refine v_if_ne (tgt := 29) (pc' := 19) 8 rfl rfl (by decide) (fun hc => ?_) (fun hc => ?_)
  · replace h := h.1 hc
    refine v_aload_n (pc' := 30) 14 0 rfl rfl rfl rfl ?_
    refine v_getR (t := b) (pc' := 33) 15 rfl rfl pf_X8_40 ly_0 (lay_lt ly_0 (by decide)) rt_0_5 ?_
    refine v_getR (t := (b + 6)) (pc' := 36) 16 rfl rfl pf_X8_114 (bn0l hb) (lay_lt (bn0l hb) (by decide)) (rt_bn_1 hb) ?_
    refine v_iload_n (pc' := 37) 17 1 rfl rfl rfl rfl ?_
    refine v_iload_n (pc' := 38) 18 2 rfl rfl rfl rfl ?_
    refine v_cV (Y2 := Y_X6_timeState) (As := [.int p1, .int p2]) (b := (b + 6)) (pc' := 41) (c1 := 1) (s1 := 6) 19 rfl rfl mf_X6_timeState rfl rfl ml_X8_211 mi_X6_timeState se_X6_timeState (ci := 5) rfl (bn6l hb) (lay_lt (bn6l hb) (by decide)) rfl (Nat.le_of_ble_eq_true rfl) ⟨Nat.le_of_ble_eq_true rfl, Nat.le_of_ble_eq_true rfl⟩ rfl rfl (ok_X6_timeState (b + 6) p1 p2 I L (bn_st hb) h) ?_ ?_
    · intro e9 u9 hx9
      exact hx9.elim
    intro v9 u9 hv9
    obtain ⟨r1113, rfl, rfl, h⟩ := hv9
    refine ⟨fun q => absurd q (Nat.lt_irrefl _), ?_⟩
    show V G Y_X8_stateAt 41 _ (.int r1113 :: _) _ _ _ _ _
    exact v_iret 20 rfl rfl (by decide) (by decide) ⟨_, rfl, rfl, h⟩
  replace h := h.2 hc
  exact v_throwX 9 10 11 12 13 rfl rfl (Or.inl ⟨rfl, rfl⟩) rfl rfl tf_X8_136_140 sr_X8_205 rfl (by decide) (Nat.le_of_ble_eq_true rfl) (by decide) (by decide) ⟨rfl, h⟩
set_option maxHeartbeats 4000000 in
set_option maxRecDepth 100000 in
theorem ok_X8_wave {G : GT} {t : Nat} (p1 : Int32) (p2 : Int32) (I : TI) (L : TL) (b : Nat) (d : Nat) (hb : bnOK b) (hd : bnOK d) {Q : Int64 → Prop} {QX : String → Prop} (h : W_X8_wave p1 p2 I L b d Q QX) : MW G Y_X8_wave [.ref 0, .int p1, .int p2] (I, L, RT b d t, 457) (fun v9 u9 => ∃ (r9 : Int64), v9 = some (.long r9) ∧ u9 = (I, L, RT b d t, 457) ∧ Q r9) (fun e9 u9 => u9 = (I, L, RT b d t, 457) ∧ QX e9) := by
  unfold W_X8_wave at h
  refine MW.intro rfl (by decide) is_X8_wave (Nat.le_of_ble_eq_true rfl) ?_
  show V G Y_X8_wave 0 [(0, .ref 0), (1, .int p1), (2, .int p2)] [] (I, L, RT b d t, 457) 0 0 _ _
  refine v_aload_n (pc' := 1) 0 0 rfl rfl rfl rfl ?_
  refine v_iload_n (pc' := 2) 1 1 rfl rfl rfl rfl ?_
  refine v_iload_n (pc' := 3) 2 2 rfl rfl rfl rfl ?_
  refine v_cV (Y2 := Y_X8_requireWave) (As := [.int p1, .int p2]) (b := 0) (pc' := 6) (c1 := 2) (s1 := 12) 3 rfl rfl mf_X8_requireWave rfl rfl ml_X8_201 mi_X8_requireWave se_X8_requireWave (ci := 7) rfl ly_0 (lay_lt ly_0 (by decide)) rfl (Nat.le_of_ble_eq_true rfl) ⟨Nat.le_of_ble_eq_true rfl, Nat.le_of_ble_eq_true rfl⟩ rfl rfl (ok_X8_requireWave p1 p2 I L b d hb hd h) ?_ ?_
  · intro e9 u9 hx9
    obtain ⟨rfl, hx9⟩ := hx9
    exact vx_leave rfl (by decide) (by decide) ⟨rfl, hx9⟩
  intro v9 u9 hv9
  obtain ⟨r1115, rfl, rfl, h⟩ := hv9
  refine ⟨fun q => absurd q (Nat.lt_irrefl _), ?_⟩
  show V G Y_X8_wave 6 _ (.long r1115 :: _) _ _ _ _ _
  exact v_lret 4 rfl rfl (by decide) (by decide) ⟨_, rfl, rfl, h⟩
set_option maxHeartbeats 4000000 in
set_option maxRecDepth 100000 in
theorem ok_X8_changes {G : GT} {t : Nat} (p1 : Int32) (p2 : Int32) (I : TI) (L : TL) (b : Nat) (d : Nat) (hb : bnOK b) (hd : bnOK d) {Q : Int32 → Prop} {QX : String → Prop} (h : W_X8_changes p1 p2 I L b d Q QX) : MW G Y_X8_changes [.ref 0, .int p1, .int p2] (I, L, RT b d t, 457) (fun v9 u9 => ∃ (r9 : Int32), v9 = some (.int r9) ∧ u9 = (I, L, RT b d t, 457) ∧ Q r9) (fun e9 u9 => u9 = (I, L, RT b d t, 457) ∧ QX e9) := by
  unfold W_X8_changes at h
  refine MW.intro rfl (by decide) is_X8_changes (Nat.le_of_ble_eq_true rfl) ?_
  show V G Y_X8_changes 0 [(0, .ref 0), (1, .int p1), (2, .int p2)] [] (I, L, RT b d t, 457) 0 0 _ _
  refine v_aload_n (pc' := 1) 0 0 rfl rfl rfl rfl ?_
  refine v_iload_n (pc' := 2) 1 1 rfl rfl rfl rfl ?_
  refine v_iload_n (pc' := 3) 2 2 rfl rfl rfl rfl ?_
  refine v_cV (Y2 := Y_X8_requireWave) (As := [.int p1, .int p2]) (b := 0) (pc' := 6) (c1 := 2) (s1 := 12) 3 rfl rfl mf_X8_requireWave rfl rfl ml_X8_201 mi_X8_requireWave se_X8_requireWave (ci := 7) rfl ly_0 (lay_lt ly_0 (by decide)) rfl (Nat.le_of_ble_eq_true rfl) ⟨Nat.le_of_ble_eq_true rfl, Nat.le_of_ble_eq_true rfl⟩ rfl rfl (ok_X8_requireWave p1 p2 I L b d hb hd h) ?_ ?_
  · intro e9 u9 hx9
    obtain ⟨rfl, hx9⟩ := hx9
    exact vx_leave rfl (by decide) (by decide) ⟨rfl, hx9⟩
  intro v9 u9 hv9
  obtain ⟨r1118, rfl, rfl, h⟩ := hv9
  refine ⟨fun q => absurd q (Nat.lt_irrefl _), ?_⟩
  show V G Y_X8_changes 6 _ (.long r1118 :: _) _ _ _ _ _
  refine v_aload_n (pc' := 7) 4 0 rfl rfl rfl rfl ?_
  refine v_getR (t := b) (pc' := 10) 5 rfl rfl pf_X8_40 ly_0 (lay_lt ly_0 (by decide)) rt_0_5 ?_
  refine v_getR (t := (b + 1)) (pc' := 13) 6 rfl rfl pf_X8_95 (bn0l hb) (lay_lt (bn0l hb) (by decide)) (rt_bn_0 hb) ?_
  refine v_getI (pc' := 16) 7 rfl rfl pf_X8_111 (bn1l hb) (lay_lt (bn1l hb) (by decide)) ?_
  refine v_cS (Y2 := Y_X8_changesOf) (As := [.long r1118, .int (I (b + 1) 6)]) (pc' := 19) (c1 := 2) (s1 := 12) 8 rfl rfl mf_X8_changesOf rfl rfl ml_X8_215 ms_X8_changesOf rfl (Nat.le_of_ble_eq_true rfl) ⟨Nat.le_of_ble_eq_true rfl, Nat.le_of_ble_eq_true rfl⟩ rfl rfl (ok_X8_changesOf r1118 (I (b + 1) 6) I L h) ?_ ?_
  · intro e9 u9 hx9
    exact hx9.elim
  intro v9 u9 hv9
  obtain ⟨r1119, rfl, rfl, h⟩ := hv9
  refine ⟨fun q => absurd q (Nat.lt_irrefl _), ?_⟩
  show V G Y_X8_changes 19 _ (.int r1119 :: _) _ _ _ _ _
  exact v_iret 9 rfl rfl (by decide) (by decide) ⟨_, rfl, rfl, h⟩
set_option maxHeartbeats 4000000 in
set_option maxRecDepth 100000 in
theorem d_X8_quietFrom_19 {G : GT} {t : Nat} (v3 : Int64) (I : TI) (L : TL) (b : Nat) (d : Nat) (hb : bnOK b) (hd : bnOK d) (Q : Int32 → Prop) (QX : String → Prop) (R19 : Int32 → Prop)  (hR19 : ∀ (v5 : Int32), R19 v5 → V G Y_X8_quietFrom 19 [(3, .long v3), (5, .int v5)] [] (I, L, RT b d t, 457) 2 12 (fun v9 u9 => ∃ (r9 : Int32), v9 = some (.int r9) ∧ u9 = (I, L, RT b d t, 457) ∧ Q r9) (fun e9 u9 => u9 = (I, L, RT b d t, 457) ∧ QX e9)) (v5 : Int32)  (h : D_X8_quietFrom_19 v3 I L b d Q QX R19 v5) : V G Y_X8_quietFrom 19 [(3, .long v3), (5, .int v5)] [] (I, L, RT b d t, 457) 2 12 (fun v9 u9 => ∃ (r9 : Int32), v9 = some (.int r9) ∧ u9 = (I, L, RT b d t, 457) ∧ Q r9) (fun e9 u9 => u9 = (I, L, RT b d t, 457) ∧ QX e9) := by
  unfold D_X8_quietFrom_19 at h
  refine v_iload (pc' := 21) 10 1 rfl rfl rfl ?_
  refine v_if_le (tgt := 47) (pc' := 24) 11 rfl rfl (by decide) (fun hc => ?_) (fun hc => ?_)
  · replace h := h.1 hc
    refine v_iload (pc' := 49) 23 1 rfl rfl rfl ?_
    exact v_iret 24 rfl rfl (by decide) (by decide) ⟨_, rfl, rfl, h⟩
  replace h := h.2 hc
  refine v_lload_n (pc' := 25) 12 0 rfl rfl rfl rfl ?_
  refine v_iload (pc' := 27) 13 1 rfl rfl rfl ?_
  refine v_iconst (v := 1) (pc' := 28) 14 rfl rfl (by decide) ?_
  refine v_isub (pc' := 29) 15 rfl rfl ?_
  refine v_cS (Y2 := Y_X8_bitOf) (As := [.long v3, .int (v5 - 1)]) (pc' := 32) (c1 := 2) (s1 := 12) 16 rfl rfl mf_X8_bitOf rfl rfl ml_X8_207 ms_X8_bitOf rfl (Nat.le_of_ble_eq_true rfl) ⟨Nat.le_of_ble_eq_true rfl, Nat.le_of_ble_eq_true rfl⟩ rfl rfl (ok_X8_bitOf v3 (v5 - 1) I L h) ?_ ?_
  · intro e9 u9 hx9
    exact hx9.elim
  intro v9 u9 hv9
  obtain ⟨r1126, rfl, rfl, h⟩ := hv9
  refine ⟨fun q => absurd q (Nat.lt_irrefl _), ?_⟩
  show V G Y_X8_quietFrom 32 _ (.int r1126 :: _) _ _ _ _ _
  refine v_lload_n (pc' := 33) 17 0 rfl rfl rfl rfl ?_
  refine v_iload (pc' := 35) 18 1 rfl rfl rfl ?_
  refine v_cS (Y2 := Y_X8_bitOf) (As := [.long v3, .int v5]) (pc' := 38) (c1 := 2) (s1 := 12) 19 rfl rfl mf_X8_bitOf rfl rfl ml_X8_207 ms_X8_bitOf rfl (Nat.le_of_ble_eq_true rfl) ⟨Nat.le_of_ble_eq_true rfl, Nat.le_of_ble_eq_true rfl⟩ rfl rfl (ok_X8_bitOf v3 v5 I L h) ?_ ?_
  · intro e9 u9 hx9
    exact hx9.elim
  intro v9 u9 hv9
  obtain ⟨r1127, rfl, rfl, h⟩ := hv9
  refine ⟨fun q => absurd q (Nat.lt_irrefl _), ?_⟩
  show V G Y_X8_quietFrom 38 _ (.int r1127 :: _) _ _ _ _ _
  refine v_icmp_ne (tgt := 47) (pc' := 41) 20 rfl rfl (by decide) (fun hc => ?_) (fun hc => ?_)
  · replace h := h.1 hc
    refine v_iload (pc' := 49) 23 1 rfl rfl rfl ?_
    exact v_iret 24 rfl rfl (by decide) (by decide) ⟨_, rfl, rfl, h⟩
  replace h := h.2 hc
  refine v_iinc (v := (v5 + (-1))) (ls' := [(5, .int (v5 + (-1))), (3, .long v3)]) (pc' := 44) 21 1 rfl rfl rfl rfl (by decide) rfl ?_
  refine v_goto (tgt := 19) 22 rfl (by decide) ?_
  refine V.sub [1, 0] rfl ?_
  exact hR19 (v5 + (-1)) h
theorem l_X8_quietFrom_19 {G : GT} {t : Nat} (v3 : Int64) (I : TI) (L : TL) (b : Nat) (d : Nat) (hb : bnOK b) (hd : bnOK d) (Q : Int32 → Prop) (QX : String → Prop)  : ∀ (n9 : Nat) (v5 : Int32), L_X8_quietFrom_19 v3 I L b d Q QX n9 v5 → V G Y_X8_quietFrom 19 [(3, .long v3), (5, .int v5)] [] (I, L, RT b d t, 457) 2 12 (fun v9 u9 => ∃ (r9 : Int32), v9 = some (.int r9) ∧ u9 = (I, L, RT b d t, 457) ∧ Q r9) (fun e9 u9 => u9 = (I, L, RT b d t, 457) ∧ QX e9)
  | 0, _, h => h.elim
  | n9 + 1, v5, h => d_X8_quietFrom_19 v3 I L b d hb hd Q QX _ (l_X8_quietFrom_19 v3 I L b d hb hd Q QX n9) v5 h
set_option maxHeartbeats 4000000 in
set_option maxRecDepth 100000 in
theorem ok_X8_quietFrom {G : GT} {t : Nat} (p1 : Int32) (p2 : Int32) (I : TI) (L : TL) (b : Nat) (d : Nat) (hb : bnOK b) (hd : bnOK d) {Q : Int32 → Prop} {QX : String → Prop} (h : W_X8_quietFrom p1 p2 I L b d Q QX) : MW G Y_X8_quietFrom [.ref 0, .int p1, .int p2] (I, L, RT b d t, 457) (fun v9 u9 => ∃ (r9 : Int32), v9 = some (.int r9) ∧ u9 = (I, L, RT b d t, 457) ∧ Q r9) (fun e9 u9 => u9 = (I, L, RT b d t, 457) ∧ QX e9) := by
  unfold W_X8_quietFrom at h
  refine MW.intro rfl (by decide) is_X8_quietFrom (Nat.le_of_ble_eq_true rfl) ?_
  show V G Y_X8_quietFrom 0 [(0, .ref 0), (1, .int p1), (2, .int p2)] [] (I, L, RT b d t, 457) 0 0 _ _
  refine v_aload_n (pc' := 1) 0 0 rfl rfl rfl rfl ?_
  refine v_iload_n (pc' := 2) 1 1 rfl rfl rfl rfl ?_
  refine v_iload_n (pc' := 3) 2 2 rfl rfl rfl rfl ?_
  refine v_cV (Y2 := Y_X8_requireWave) (As := [.int p1, .int p2]) (b := 0) (pc' := 6) (c1 := 2) (s1 := 12) 3 rfl rfl mf_X8_requireWave rfl rfl ml_X8_201 mi_X8_requireWave se_X8_requireWave (ci := 7) rfl ly_0 (lay_lt ly_0 (by decide)) rfl (Nat.le_of_ble_eq_true rfl) ⟨Nat.le_of_ble_eq_true rfl, Nat.le_of_ble_eq_true rfl⟩ rfl rfl (ok_X8_requireWave p1 p2 I L b d hb hd h) ?_ ?_
  · intro e9 u9 hx9
    obtain ⟨rfl, hx9⟩ := hx9
    exact vx_leave rfl (by decide) (by decide) ⟨rfl, hx9⟩
  intro v9 u9 hv9
  obtain ⟨r1128, rfl, rfl, h⟩ := hv9
  refine ⟨fun q => absurd q (Nat.lt_irrefl _), ?_⟩
  show V G Y_X8_quietFrom 6 _ (.long r1128 :: _) _ _ _ _ _
  refine v_lstore_n (ls' := [(3, .long r1128), (0, .ref 0), (1, .int p1), (2, .int p2)]) (pc' := 7) 4 rfl rfl rfl (by decide) rfl ?_
  refine v_aload_n (pc' := 8) 5 1 rfl rfl rfl rfl ?_
  refine v_getR (t := b) (pc' := 11) 6 rfl rfl pf_X8_40 ly_0 (lay_lt ly_0 (by decide)) rt_0_5 ?_
  refine v_getR (t := (b + 1)) (pc' := 14) 7 rfl rfl pf_X8_95 (bn0l hb) (lay_lt (bn0l hb) (by decide)) (rt_bn_0 hb) ?_
  refine v_getI (pc' := 17) 8 rfl rfl pf_X8_111 (bn1l hb) (lay_lt (bn1l hb) (by decide)) ?_
  refine v_istore (ls' := [(5, .int (I (b + 1) 6)), (3, .long r1128), (0, .ref 0), (1, .int p1), (2, .int p2)]) (pc' := 19) 9 rfl rfl (by decide) rfl ?_
  refine V.sub [1, 0] rfl ?_
  obtain ⟨n1129, h⟩ := h
  exact l_X8_quietFrom_19 r1128 I L b d hb hd Q QX n1129 (I (b + 1) 6) h
set_option maxHeartbeats 4000000 in
set_option maxRecDepth 100000 in
theorem b_X8_shortest_80 {G : GT} {t : Nat} (v3 : Int64) (v5 : Int32) (v6 : Int32) (v7 : Int32) (I : TI) (L : TL) (b : Nat) (d : Nat) (hb : bnOK b) (hd : bnOK d) (Q : Int32 → Prop) (QX : String → Prop) (R16 : Int32 → Int32 → Int32 → Prop) (hR16 : ∀ (v5 : Int32) (v6 : Int32) (v7 : Int32), R16 v5 v6 v7 → V G Y_X8_shortest 16 [(0, .ref 0), (3, .long v3), (5, .int v5), (6, .int v6), (7, .int v7)] [] (I, L, RT b d t, 457) 2 12 (fun v9 u9 => ∃ (r9 : Int32), v9 = some (.int r9) ∧ u9 = (I, L, RT b d t, 457) ∧ Q r9) (fun e9 u9 => u9 = (I, L, RT b d t, 457) ∧ QX e9)) (h : B_X8_shortest_80 v3 v5 v6 v7 I L b d Q QX R16) : V G Y_X8_shortest 80 [(0, .ref 0), (3, .long v3), (5, .int v5), (6, .int v6), (7, .int v7)] [] (I, L, RT b d t, 457) 2 12 (fun v9 u9 => ∃ (r9 : Int32), v9 = some (.int r9) ∧ u9 = (I, L, RT b d t, 457) ∧ Q r9) (fun e9 u9 => u9 = (I, L, RT b d t, 457) ∧ QX e9) := by
  unfold B_X8_shortest_80 at h
  refine v_iinc (v := (v7 + 1)) (ls' := [(7, .int (v7 + 1)), (0, .ref 0), (3, .long v3), (5, .int v5), (6, .int v6)]) (pc' := 83) 42 4 rfl rfl rfl rfl (by decide) rfl ?_
  refine v_goto (tgt := 16) 43 rfl (by decide) ?_
  refine V.sub [1, 2, 3, 4, 0] rfl ?_
  exact hR16 v5 v6 (v7 + 1) h
set_option maxHeartbeats 4000000 in
set_option maxRecDepth 100000 in
theorem b_X8_shortest_76 {G : GT} {t : Nat} (v3 : Int64) (v5 : Int32) (v7 : Int32) (I : TI) (L : TL) (b : Nat) (d : Nat) (hb : bnOK b) (hd : bnOK d) (Q : Int32 → Prop) (QX : String → Prop) (R16 : Int32 → Int32 → Int32 → Prop) (hR16 : ∀ (v5 : Int32) (v6 : Int32) (v7 : Int32), R16 v5 v6 v7 → V G Y_X8_shortest 16 [(0, .ref 0), (3, .long v3), (5, .int v5), (6, .int v6), (7, .int v7)] [] (I, L, RT b d t, 457) 2 12 (fun v9 u9 => ∃ (r9 : Int32), v9 = some (.int r9) ∧ u9 = (I, L, RT b d t, 457) ∧ Q r9) (fun e9 u9 => u9 = (I, L, RT b d t, 457) ∧ QX e9)) (h : B_X8_shortest_76 v3 v5 v7 I L b d Q QX R16) : V G Y_X8_shortest 76 [(0, .ref 0), (3, .long v3), (5, .int v5), (7, .int v7)] [] (I, L, RT b d t, 457) 2 12 (fun v9 u9 => ∃ (r9 : Int32), v9 = some (.int r9) ∧ u9 = (I, L, RT b d t, 457) ∧ Q r9) (fun e9 u9 => u9 = (I, L, RT b d t, 457) ∧ QX e9) := by
  unfold B_X8_shortest_76 at h
  refine v_iload (pc' := 78) 40 3 rfl rfl rfl ?_
  refine v_istore (ls' := [(6, .int v7), (0, .ref 0), (3, .long v3), (5, .int v5), (7, .int v7)]) (pc' := 80) 41 rfl rfl (by decide) rfl ?_
  refine V.sub [1, 2, 3, 0, 4] rfl ?_
  exact b_X8_shortest_80 v3 v5 v7 v7 I L b d hb hd Q QX R16 hR16 h
set_option maxHeartbeats 4000000 in
set_option maxRecDepth 100000 in
theorem b_X8_shortest_69 {G : GT} {t : Nat} (v3 : Int64) (v6 : Int32) (v7 : Int32) (I : TI) (L : TL) (b : Nat) (d : Nat) (hb : bnOK b) (hd : bnOK d) (Q : Int32 → Prop) (QX : String → Prop) (R16 : Int32 → Int32 → Int32 → Prop) (hR16 : ∀ (v5 : Int32) (v6 : Int32) (v7 : Int32), R16 v5 v6 v7 → V G Y_X8_shortest 16 [(0, .ref 0), (3, .long v3), (5, .int v5), (6, .int v6), (7, .int v7)] [] (I, L, RT b d t, 457) 2 12 (fun v9 u9 => ∃ (r9 : Int32), v9 = some (.int r9) ∧ u9 = (I, L, RT b d t, 457) ∧ Q r9) (fun e9 u9 => u9 = (I, L, RT b d t, 457) ∧ QX e9)) (h : B_X8_shortest_69 v3 v6 v7 I L b d Q QX R16) : V G Y_X8_shortest 69 [(0, .ref 0), (3, .long v3), (6, .int v6), (7, .int v7)] [] (I, L, RT b d t, 457) 2 12 (fun v9 u9 => ∃ (r9 : Int32), v9 = some (.int r9) ∧ u9 = (I, L, RT b d t, 457) ∧ Q r9) (fun e9 u9 => u9 = (I, L, RT b d t, 457) ∧ QX e9) := by
  unfold B_X8_shortest_69 at h
  refine v_iload (pc' := 71) 36 3 rfl rfl rfl ?_
  refine v_iload (pc' := 73) 37 2 rfl rfl rfl ?_
  refine v_isub (pc' := 74) 38 rfl rfl ?_
  refine v_istore (ls' := [(5, .int (v7 - v6)), (0, .ref 0), (3, .long v3), (6, .int v6), (7, .int v7)]) (pc' := 76) 39 rfl rfl (by decide) rfl ?_
  refine V.sub [1, 2, 0, 4] rfl ?_
  exact b_X8_shortest_76 v3 (v7 - v6) v7 I L b d hb hd Q QX R16 hR16 h
set_option maxHeartbeats 4000000 in
set_option maxRecDepth 100000 in
theorem d_X8_shortest_16 {G : GT} {t : Nat} (v3 : Int64) (I : TI) (L : TL) (b : Nat) (d : Nat) (hb : bnOK b) (hd : bnOK d) (Q : Int32 → Prop) (QX : String → Prop) (R16 : Int32 → Int32 → Int32 → Prop)  (hR16 : ∀ (v5 : Int32) (v6 : Int32) (v7 : Int32), R16 v5 v6 v7 → V G Y_X8_shortest 16 [(0, .ref 0), (3, .long v3), (5, .int v5), (6, .int v6), (7, .int v7)] [] (I, L, RT b d t, 457) 2 12 (fun v9 u9 => ∃ (r9 : Int32), v9 = some (.int r9) ∧ u9 = (I, L, RT b d t, 457) ∧ Q r9) (fun e9 u9 => u9 = (I, L, RT b d t, 457) ∧ QX e9)) (v5 : Int32) (v6 : Int32) (v7 : Int32)  (h : D_X8_shortest_16 v3 I L b d Q QX R16 v5 v6 v7) : V G Y_X8_shortest 16 [(0, .ref 0), (3, .long v3), (5, .int v5), (6, .int v6), (7, .int v7)] [] (I, L, RT b d t, 457) 2 12 (fun v9 u9 => ∃ (r9 : Int32), v9 = some (.int r9) ∧ u9 = (I, L, RT b d t, 457) ∧ Q r9) (fun e9 u9 => u9 = (I, L, RT b d t, 457) ∧ QX e9) := by
  unfold D_X8_shortest_16 at h
  refine v_iload (pc' := 18) 11 4 rfl rfl rfl ?_
  refine v_aload_n (pc' := 19) 12 0 rfl rfl rfl rfl ?_
  refine v_getR (t := b) (pc' := 22) 13 rfl rfl pf_X8_40 ly_0 (lay_lt ly_0 (by decide)) rt_0_5 ?_
  refine v_getR (t := (b + 1)) (pc' := 25) 14 rfl rfl pf_X8_95 (bn0l hb) (lay_lt (bn0l hb) (by decide)) (rt_bn_0 hb) ?_
  refine v_getI (pc' := 28) 15 rfl rfl pf_X8_111 (bn1l hb) (lay_lt (bn1l hb) (by decide)) ?_
  refine v_icmp_gt (tgt := 86) (pc' := 31) 16 rfl rfl (by decide) (fun hc => ?_) (fun hc => ?_)
  · replace h := h.1 hc
    refine v_iload (pc' := 88) 44 2 rfl rfl rfl ?_
    exact v_iret 45 rfl rfl (by decide) (by decide) ⟨_, rfl, rfl, h⟩
  replace h := h.2 hc
  refine v_lload_n (pc' := 32) 17 1 rfl rfl rfl rfl ?_
  refine v_iload (pc' := 34) 18 4 rfl rfl rfl ?_
  refine v_cS (Y2 := Y_X8_bitOf) (As := [.long v3, .int v7]) (pc' := 37) (c1 := 2) (s1 := 12) 19 rfl rfl mf_X8_bitOf rfl rfl ml_X8_207 ms_X8_bitOf rfl (Nat.le_of_ble_eq_true rfl) ⟨Nat.le_of_ble_eq_true rfl, Nat.le_of_ble_eq_true rfl⟩ rfl rfl (ok_X8_bitOf v3 v7 I L h) ?_ ?_
  · intro e9 u9 hx9
    exact hx9.elim
  intro v9 u9 hv9
  obtain ⟨r1136, rfl, rfl, h⟩ := hv9
  refine ⟨fun q => absurd q (Nat.lt_irrefl _), ?_⟩
  show V G Y_X8_shortest 37 _ (.int r1136 :: _) _ _ _ _ _
  refine v_lload_n (pc' := 38) 20 1 rfl rfl rfl rfl ?_
  refine v_iload (pc' := 40) 21 4 rfl rfl rfl ?_
  refine v_iconst (v := 1) (pc' := 41) 22 rfl rfl (by decide) ?_
  refine v_isub (pc' := 42) 23 rfl rfl ?_
  refine v_cS (Y2 := Y_X8_bitOf) (As := [.long v3, .int (v7 - 1)]) (pc' := 45) (c1 := 2) (s1 := 12) 24 rfl rfl mf_X8_bitOf rfl rfl ml_X8_207 ms_X8_bitOf rfl (Nat.le_of_ble_eq_true rfl) ⟨Nat.le_of_ble_eq_true rfl, Nat.le_of_ble_eq_true rfl⟩ rfl rfl (ok_X8_bitOf v3 (v7 - 1) I L h) ?_ ?_
  · intro e9 u9 hx9
    exact hx9.elim
  intro v9 u9 hv9
  obtain ⟨r1137, rfl, rfl, h⟩ := hv9
  refine ⟨fun q => absurd q (Nat.lt_irrefl _), ?_⟩
  show V G Y_X8_shortest 45 _ (.int r1137 :: _) _ _ _ _ _
  refine v_icmp_eq (tgt := 80) (pc' := 48) 25 rfl rfl (by decide) (fun hc => ?_) (fun hc => ?_)
  · replace h := h.1 hc
    exact b_X8_shortest_80 v3 v5 v6 v7 I L b d hb hd Q QX R16 hR16 h
  replace h := h.2 hc
  refine v_iload (pc' := 50) 26 3 rfl rfl rfl ?_
  refine v_if_le (tgt := 76) (pc' := 53) 27 rfl rfl (by decide) (fun hc => ?_) (fun hc => ?_)
  · replace h := h.1 hc
    refine V.sub [0, 1, 2, 4] rfl ?_
    exact b_X8_shortest_76 v3 v5 v7 I L b d hb hd Q QX R16 hR16 h
  replace h := h.2 hc
  refine v_iload (pc' := 55) 28 2 rfl rfl rfl ?_
  refine v_iconst (v := -1) (pc' := 56) 29 rfl rfl (by decide) ?_
  refine v_icmp_eq (tgt := 69) (pc' := 59) 30 rfl rfl (by decide) (fun hc => ?_) (fun hc => ?_)
  · replace h := h.1 hc
    refine V.sub [0, 1, 3, 4] rfl ?_
    exact b_X8_shortest_69 v3 v6 v7 I L b d hb hd Q QX R16 hR16 h
  replace h := h.2 hc
  refine v_iload (pc' := 61) 31 4 rfl rfl rfl ?_
  refine v_iload (pc' := 63) 32 3 rfl rfl rfl ?_
  refine v_isub (pc' := 64) 33 rfl rfl ?_
  refine v_iload (pc' := 66) 34 2 rfl rfl rfl ?_
  refine v_icmp_ge (tgt := 76) (pc' := 69) 35 rfl rfl (by decide) (fun hc => ?_) (fun hc => ?_)
  · replace h := h.1 hc
    refine V.sub [0, 1, 2, 4] rfl ?_
    exact b_X8_shortest_76 v3 v5 v7 I L b d hb hd Q QX R16 hR16 h
  replace h := h.2 hc
  refine V.sub [0, 1, 3, 4] rfl ?_
  exact b_X8_shortest_69 v3 v6 v7 I L b d hb hd Q QX R16 hR16 h
theorem l_X8_shortest_16 {G : GT} {t : Nat} (v3 : Int64) (I : TI) (L : TL) (b : Nat) (d : Nat) (hb : bnOK b) (hd : bnOK d) (Q : Int32 → Prop) (QX : String → Prop)  : ∀ (n9 : Nat) (v5 : Int32) (v6 : Int32) (v7 : Int32), L_X8_shortest_16 v3 I L b d Q QX n9 v5 v6 v7 → V G Y_X8_shortest 16 [(0, .ref 0), (3, .long v3), (5, .int v5), (6, .int v6), (7, .int v7)] [] (I, L, RT b d t, 457) 2 12 (fun v9 u9 => ∃ (r9 : Int32), v9 = some (.int r9) ∧ u9 = (I, L, RT b d t, 457) ∧ Q r9) (fun e9 u9 => u9 = (I, L, RT b d t, 457) ∧ QX e9)
  | 0, _, _, _, h => h.elim
  | n9 + 1, v5, v6, v7, h => d_X8_shortest_16 v3 I L b d hb hd Q QX _ (l_X8_shortest_16 v3 I L b d hb hd Q QX n9) v5 v6 v7 h
set_option maxHeartbeats 4000000 in
set_option maxRecDepth 100000 in
theorem ok_X8_shortest {G : GT} {t : Nat} (p1 : Int32) (p2 : Int32) (I : TI) (L : TL) (b : Nat) (d : Nat) (hb : bnOK b) (hd : bnOK d) {Q : Int32 → Prop} {QX : String → Prop} (h : W_X8_shortest p1 p2 I L b d Q QX) : MW G Y_X8_shortest [.ref 0, .int p1, .int p2] (I, L, RT b d t, 457) (fun v9 u9 => ∃ (r9 : Int32), v9 = some (.int r9) ∧ u9 = (I, L, RT b d t, 457) ∧ Q r9) (fun e9 u9 => u9 = (I, L, RT b d t, 457) ∧ QX e9) := by
  unfold W_X8_shortest at h
  refine MW.intro rfl (by decide) is_X8_shortest (Nat.le_of_ble_eq_true rfl) ?_
  show V G Y_X8_shortest 0 [(0, .ref 0), (1, .int p1), (2, .int p2)] [] (I, L, RT b d t, 457) 0 0 _ _
  refine v_aload_n (pc' := 1) 0 0 rfl rfl rfl rfl ?_
  refine v_iload_n (pc' := 2) 1 1 rfl rfl rfl rfl ?_
  refine v_iload_n (pc' := 3) 2 2 rfl rfl rfl rfl ?_
  refine v_cV (Y2 := Y_X8_requireWave) (As := [.int p1, .int p2]) (b := 0) (pc' := 6) (c1 := 2) (s1 := 12) 3 rfl rfl mf_X8_requireWave rfl rfl ml_X8_201 mi_X8_requireWave se_X8_requireWave (ci := 7) rfl ly_0 (lay_lt ly_0 (by decide)) rfl (Nat.le_of_ble_eq_true rfl) ⟨Nat.le_of_ble_eq_true rfl, Nat.le_of_ble_eq_true rfl⟩ rfl rfl (ok_X8_requireWave p1 p2 I L b d hb hd h) ?_ ?_
  · intro e9 u9 hx9
    obtain ⟨rfl, hx9⟩ := hx9
    exact vx_leave rfl (by decide) (by decide) ⟨rfl, hx9⟩
  intro v9 u9 hv9
  obtain ⟨r1138, rfl, rfl, h⟩ := hv9
  refine ⟨fun q => absurd q (Nat.lt_irrefl _), ?_⟩
  show V G Y_X8_shortest 6 _ (.long r1138 :: _) _ _ _ _ _
  refine v_lstore_n (ls' := [(3, .long r1138), (0, .ref 0), (1, .int p1), (2, .int p2)]) (pc' := 7) 4 rfl rfl rfl (by decide) rfl ?_
  refine v_iconst (v := -1) (pc' := 8) 5 rfl rfl (by decide) ?_
  refine v_istore (ls' := [(5, .int (-1)), (3, .long r1138), (0, .ref 0), (1, .int p1), (2, .int p2)]) (pc' := 10) 6 rfl rfl (by decide) rfl ?_
  refine v_iconst (v := 0) (pc' := 11) 7 rfl rfl (by decide) ?_
  refine v_istore (ls' := [(6, .int 0), (5, .int (-1)), (3, .long r1138), (0, .ref 0), (1, .int p1), (2, .int p2)]) (pc' := 13) 8 rfl rfl (by decide) rfl ?_
  refine v_iconst (v := 1) (pc' := 14) 9 rfl rfl (by decide) ?_
  refine v_istore (ls' := [(7, .int 1), (6, .int 0), (5, .int (-1)), (3, .long r1138), (0, .ref 0), (1, .int p1), (2, .int p2)]) (pc' := 16) 10 rfl rfl (by decide) rfl ?_
  refine V.sub [4, 3, 2, 1, 0] rfl ?_
  obtain ⟨n1139, h⟩ := h
  exact l_X8_shortest_16 r1138 I L b d hb hd Q QX n1139 ((-1) : Int32) (0 : Int32) (1 : Int32) h
set_option maxHeartbeats 4000000 in
set_option maxRecDepth 100000 in
theorem ok_X8_wrong {G : GT} {t : Nat} (p1 : Int32) (I : TI) (L : TL) (b : Nat) (d : Nat) (hb : bnOK b) (hd : bnOK d) {Q : Int32 → Prop} {QX : String → Prop} (h : W_X8_wrong p1 I L b d Q QX) : MW G Y_X8_wrong [.ref 0, .int p1] (I, L, RT b d t, 457) (fun v9 u9 => ∃ (r9 : Int32), v9 = some (.int r9) ∧ u9 = (I, L, RT b d t, 457) ∧ Q r9) (fun e9 u9 => u9 = (I, L, RT b d t, 457) ∧ QX e9) := by
  unfold W_X8_wrong at h
  refine MW.intro rfl (by decide) is_X8_wrong (Nat.le_of_ble_eq_true rfl) ?_
  show V G Y_X8_wrong 0 [(0, .ref 0), (1, .int p1)] [] (I, L, RT b d t, 457) 0 0 _ _
  refine v_aload_n (pc' := 1) 0 0 rfl rfl rfl rfl ?_
  refine v_iload_n (pc' := 2) 1 1 rfl rfl rfl rfl ?_
  refine v_cV (Y2 := Y_X8_requireNet) (As := [.int p1]) (b := 0) (pc' := 5) (c1 := 1) (s1 := 6) 2 rfl rfl mf_X8_requireNet rfl rfl ml_X8_186 mi_X8_requireNet se_X8_requireNet (ci := 7) rfl ly_0 (lay_lt ly_0 (by decide)) rfl (Nat.le_of_ble_eq_true rfl) ⟨Nat.le_of_ble_eq_true rfl, Nat.le_of_ble_eq_true rfl⟩ rfl rfl (ok_X8_requireNet p1 I L b d hb hd h) ?_ ?_
  · intro e9 u9 hx9
    obtain ⟨rfl, hx9⟩ := hx9
    exact vx_leave rfl (by decide) (by decide) ⟨rfl, hx9⟩
  intro v9 u9 hv9
  obtain ⟨rfl, rfl, h⟩ := hv9
  refine ⟨fun q => absurd q (Nat.lt_irrefl _), ?_⟩
  show V G Y_X8_wrong 5 _ _ _ _ _ _ _
  refine v_aload_n (pc' := 6) 3 0 rfl rfl rfl rfl ?_
  refine v_getR (t := b) (pc' := 9) 4 rfl rfl pf_X8_40 ly_0 (lay_lt ly_0 (by decide)) rt_0_5 ?_
  refine v_iload_n (pc' := 10) 5 1 rfl rfl rfl rfl ?_
  refine v_cV (Y2 := Y_X0_wrongTimes) (As := [.int p1]) (b := b) (pc' := 13) (c1 := 1) (s1 := 6) 6 rfl rfl mf_X0_wrongTimes rfl rfl ml_X8_218 mi_X0_wrongTimes se_X0_wrongTimes (ci := 0) rfl (bn0l hb) (lay_lt (bn0l hb) (by decide)) rfl (Nat.le_of_ble_eq_true rfl) ⟨Nat.le_of_ble_eq_true rfl, Nat.le_of_ble_eq_true rfl⟩ rfl rfl (ok_X0_wrongTimes b p1 I L hb h) ?_ ?_
  · intro e9 u9 hx9
    exact hx9.elim
  intro v9 u9 hv9
  obtain ⟨r1142, rfl, rfl, h⟩ := hv9
  refine ⟨fun q => absurd q (Nat.lt_irrefl _), ?_⟩
  show V G Y_X8_wrong 13 _ (.long r1142 :: _) _ _ _ _ _
  refine v_cS (Y2 := Y_J13_bitCount_95d88) (As := [.long r1142]) (pc' := 16) (c1 := 1) (s1 := 6) 7 rfl rfl mf_J13_bitCount_95d88 rfl rfl ml_X8_222 ms_J13_bitCount_95d88 rfl (Nat.le_of_ble_eq_true rfl) ⟨Nat.le_of_ble_eq_true rfl, Nat.le_of_ble_eq_true rfl⟩ rfl rfl (ok_J13_bitCount_95d88 r1142 I L h) ?_ ?_
  · intro e9 u9 hx9
    exact hx9.elim
  intro v9 u9 hv9
  obtain ⟨r1143, rfl, rfl, h⟩ := hv9
  refine ⟨fun q => absurd q (Nat.lt_irrefl _), ?_⟩
  show V G Y_X8_wrong 16 _ (.int r1143 :: _) _ _ _ _ _
  exact v_iret 8 rfl rfl (by decide) (by decide) ⟨_, rfl, rfl, h⟩
set_option maxHeartbeats 4000000 in
set_option maxRecDepth 100000 in
theorem b_J6_numberOfTrailingZeros_0f7a4_74 {G : GT} {b d t : Nat} (v0 : Int32) (v1 : Int32) (I : TI) (L : TL)  (Q : Int32 → Prop)  (h : B_J6_numberOfTrailingZeros_0f7a4_74 v0 v1 I L Q) : V G Y_J6_numberOfTrailingZeros_0f7a4 74 [(0, .int v0), (1, .int v1)] [] (I, L, RT b d t, 457) 0 0 (fun v9 u9 => ∃ (r9 : Int32), v9 = some (.int r9) ∧ u9 = (I, L, RT b d t, 457) ∧ Q r9) (fun _ _ => False) := by
  unfold B_J6_numberOfTrailingZeros_0f7a4_74 at h
  refine v_iload_n (pc' := 75) 48 1 rfl rfl rfl rfl ?_
  refine v_iload_n (pc' := 76) 49 0 rfl rfl rfl rfl ?_
  refine v_iconst (v := 1) (pc' := 77) 50 rfl rfl (by decide) ?_
  refine v_iushr (pc' := 78) 51 rfl rfl ?_
  refine v_iadd (pc' := 79) 52 rfl rfl ?_
  exact v_iret 53 rfl rfl (by decide) (by decide) ⟨_, rfl, rfl, h⟩
set_option maxHeartbeats 4000000 in
set_option maxRecDepth 100000 in
theorem b_J6_numberOfTrailingZeros_0f7a4_62 {G : GT} {b d t : Nat} (v0 : Int32) (v1 : Int32) (I : TI) (L : TL)  (Q : Int32 → Prop)  (h : B_J6_numberOfTrailingZeros_0f7a4_62 v0 v1 I L Q) : V G Y_J6_numberOfTrailingZeros_0f7a4 62 [(0, .int v0), (1, .int v1)] [] (I, L, RT b d t, 457) 0 0 (fun v9 u9 => ∃ (r9 : Int32), v9 = some (.int r9) ∧ u9 = (I, L, RT b d t, 457) ∧ Q r9) (fun _ _ => False) := by
  unfold B_J6_numberOfTrailingZeros_0f7a4_62 at h
  refine v_iload_n (pc' := 63) 40 0 rfl rfl rfl rfl ?_
  refine v_iconst (v := 4) (pc' := 64) 41 rfl rfl (by decide) ?_
  refine v_icmp_le (tgt := 74) (pc' := 67) 42 rfl rfl (by decide) (fun hc => ?_) (fun hc => ?_)
  · replace h := h.1 hc
    exact b_J6_numberOfTrailingZeros_0f7a4_74 v0 v1 I L Q h
  replace h := h.2 hc
  refine v_iinc (v := (v1 + 2)) (ls' := [(1, .int (v1 + 2)), (0, .int v0)]) (pc' := 70) 43 1 rfl rfl rfl rfl (by decide) rfl ?_
  refine v_iload_n (pc' := 71) 44 1 rfl rfl rfl rfl ?_
  refine v_iconst (v := 2) (pc' := 72) 45 rfl rfl (by decide) ?_
  refine v_iushr (pc' := 73) 46 rfl rfl ?_
  refine v_istore_n (ls' := [(0, .int (ushI v0 (2 : Int32))), (1, .int (v1 + 2))]) (pc' := 74) 47 rfl rfl rfl (by decide) rfl ?_
  exact b_J6_numberOfTrailingZeros_0f7a4_74 (ushI v0 (2 : Int32)) (v1 + 2) I L Q h
set_option maxHeartbeats 4000000 in
set_option maxRecDepth 100000 in
theorem b_J6_numberOfTrailingZeros_0f7a4_49 {G : GT} {b d t : Nat} (v0 : Int32) (v1 : Int32) (I : TI) (L : TL)  (Q : Int32 → Prop)  (h : B_J6_numberOfTrailingZeros_0f7a4_49 v0 v1 I L Q) : V G Y_J6_numberOfTrailingZeros_0f7a4 49 [(0, .int v0), (1, .int v1)] [] (I, L, RT b d t, 457) 0 0 (fun v9 u9 => ∃ (r9 : Int32), v9 = some (.int r9) ∧ u9 = (I, L, RT b d t, 457) ∧ Q r9) (fun _ _ => False) := by
  unfold B_J6_numberOfTrailingZeros_0f7a4_49 at h
  refine v_iload_n (pc' := 50) 32 0 rfl rfl rfl rfl ?_
  refine v_bipush (v := 16) (pc' := 52) 33 rfl rfl (by decide) ?_
  refine v_icmp_le (tgt := 62) (pc' := 55) 34 rfl rfl (by decide) (fun hc => ?_) (fun hc => ?_)
  · replace h := h.1 hc
    exact b_J6_numberOfTrailingZeros_0f7a4_62 v0 v1 I L Q h
  replace h := h.2 hc
  refine v_iinc (v := (v1 + 4)) (ls' := [(1, .int (v1 + 4)), (0, .int v0)]) (pc' := 58) 35 1 rfl rfl rfl rfl (by decide) rfl ?_
  refine v_iload_n (pc' := 59) 36 1 rfl rfl rfl rfl ?_
  refine v_iconst (v := 4) (pc' := 60) 37 rfl rfl (by decide) ?_
  refine v_iushr (pc' := 61) 38 rfl rfl ?_
  refine v_istore_n (ls' := [(0, .int (ushI v0 (4 : Int32))), (1, .int (v1 + 4))]) (pc' := 62) 39 rfl rfl rfl (by decide) rfl ?_
  exact b_J6_numberOfTrailingZeros_0f7a4_62 (ushI v0 (4 : Int32)) (v1 + 4) I L Q h
set_option maxHeartbeats 4000000 in
set_option maxRecDepth 100000 in
theorem b_J6_numberOfTrailingZeros_0f7a4_34 {G : GT} {b d t : Nat} (v0 : Int32) (v1 : Int32) (I : TI) (L : TL)  (Q : Int32 → Prop)  (h : B_J6_numberOfTrailingZeros_0f7a4_34 v0 v1 I L Q) : V G Y_J6_numberOfTrailingZeros_0f7a4 34 [(0, .int v0), (1, .int v1)] [] (I, L, RT b d t, 457) 0 0 (fun v9 u9 => ∃ (r9 : Int32), v9 = some (.int r9) ∧ u9 = (I, L, RT b d t, 457) ∧ Q r9) (fun _ _ => False) := by
  unfold B_J6_numberOfTrailingZeros_0f7a4_34 at h
  refine v_iload_n (pc' := 35) 24 0 rfl rfl rfl rfl ?_
  refine v_sipush (v := 256) (pc' := 38) 25 rfl rfl (by decide) ?_
  refine v_icmp_le (tgt := 49) (pc' := 41) 26 rfl rfl (by decide) (fun hc => ?_) (fun hc => ?_)
  · replace h := h.1 hc
    exact b_J6_numberOfTrailingZeros_0f7a4_49 v0 v1 I L Q h
  replace h := h.2 hc
  refine v_iinc (v := (v1 + 8)) (ls' := [(1, .int (v1 + 8)), (0, .int v0)]) (pc' := 44) 27 1 rfl rfl rfl rfl (by decide) rfl ?_
  refine v_iload_n (pc' := 45) 28 1 rfl rfl rfl rfl ?_
  refine v_bipush (v := 8) (pc' := 47) 29 rfl rfl (by decide) ?_
  refine v_iushr (pc' := 48) 30 rfl rfl ?_
  refine v_istore_n (ls' := [(0, .int (ushI v0 (8 : Int32))), (1, .int (v1 + 8))]) (pc' := 49) 31 rfl rfl rfl (by decide) rfl ?_
  exact b_J6_numberOfTrailingZeros_0f7a4_49 (ushI v0 (8 : Int32)) (v1 + 8) I L Q h
set_option maxHeartbeats 4000000 in
set_option maxRecDepth 100000 in
theorem ok_J6_numberOfTrailingZeros_0f7a4 {G : GT} {b d t : Nat} (p0 : Int32) (I : TI) (L : TL)  {Q : Int32 → Prop} (h : W_J6_numberOfTrailingZeros_0f7a4 p0 I L Q) : MW G Y_J6_numberOfTrailingZeros_0f7a4 [.int p0] (I, L, RT b d t, 457) (fun v9 u9 => ∃ (r9 : Int32), v9 = some (.int r9) ∧ u9 = (I, L, RT b d t, 457) ∧ Q r9) (fun _ _ => False) := by
  unfold W_J6_numberOfTrailingZeros_0f7a4 at h
  refine MW.intro rfl (by decide) is_J6_numberOfTrailingZeros_0f7a4 (Nat.le_of_ble_eq_true rfl) ?_
  show V G Y_J6_numberOfTrailingZeros_0f7a4 0 [(0, .int p0)] [] (I, L, RT b d t, 457) 0 0 _ _
  refine v_iload_n (pc' := 1) 0 0 rfl rfl rfl rfl ?_
  refine v_iconst (v := -1) (pc' := 2) 1 rfl rfl (by decide) ?_
  refine v_ixor (pc' := 3) 2 rfl rfl ?_
  refine v_iload_n (pc' := 4) 3 0 rfl rfl rfl rfl ?_
  refine v_iconst (v := 1) (pc' := 5) 4 rfl rfl (by decide) ?_
  refine v_isub (pc' := 6) 5 rfl rfl ?_
  refine v_iand (pc' := 7) 6 rfl rfl ?_
  refine v_istore_n (ls' := [(0, .int ((p0 ^^^ (-1)) &&& (p0 - 1)))]) (pc' := 8) 7 rfl rfl rfl (by decide) rfl ?_
  refine v_iload_n (pc' := 9) 8 0 rfl rfl rfl rfl ?_
  refine v_if_gt (tgt := 17) (pc' := 12) 9 rfl rfl (by decide) (fun hc => ?_) (fun hc => ?_)
  · replace h := h.1 hc
    refine v_iconst (v := 1) (pc' := 18) 14 rfl rfl (by decide) ?_
    refine v_istore_n (ls' := [(1, .int 1), (0, .int ((p0 ^^^ (-1)) &&& (p0 - 1)))]) (pc' := 19) 15 rfl rfl rfl (by decide) rfl ?_
    refine v_iload_n (pc' := 20) 16 1 rfl rfl rfl rfl ?_
    refine v_ldc_w (v := 65536) (pc' := 23) 17 rfl rfl ki_J6_264 ?_
    refine v_icmp_le (tgt := 34) (pc' := 26) 18 rfl rfl (by decide) (fun hc => ?_) (fun hc => ?_)
    · replace h := h.1 hc
      refine V.sub [1, 0] rfl ?_
      exact b_J6_numberOfTrailingZeros_0f7a4_34 ((p0 ^^^ (-1)) &&& (p0 - 1)) (1 : Int32) I L Q h
    replace h := h.2 hc
    refine v_iinc (v := ((1 : Int32) + 16)) (ls' := [(1, .int ((1 : Int32) + 16)), (0, .int ((p0 ^^^ (-1)) &&& (p0 - 1)))]) (pc' := 29) 19 0 rfl rfl rfl rfl (by decide) rfl ?_
    refine v_iload_n (pc' := 30) 20 1 rfl rfl rfl rfl ?_
    refine v_bipush (v := 16) (pc' := 32) 21 rfl rfl (by decide) ?_
    refine v_iushr (pc' := 33) 22 rfl rfl ?_
    refine nm_I (e := (ushI ((p0 ^^^ (-1)) &&& (p0 - 1)) (16 : Int32))) (fun x1144 hx1144 => ?_)
    replace h := h x1144 hx1144
    refine v_istore_n (ls' := [(0, .int x1144), (1, .int ((1 : Int32) + 16))]) (pc' := 34) 23 rfl rfl rfl (by decide) rfl ?_
    exact b_J6_numberOfTrailingZeros_0f7a4_34 x1144 ((1 : Int32) + 16) I L Q h
  replace h := h.2 hc
  refine v_iload_n (pc' := 13) 10 0 rfl rfl rfl rfl ?_
  refine v_bipush (v := 32) (pc' := 15) 11 rfl rfl (by decide) ?_
  refine v_iand (pc' := 16) 12 rfl rfl ?_
  exact v_iret 13 rfl rfl (by decide) (by decide) ⟨_, rfl, rfl, h⟩
set_option maxHeartbeats 4000000 in
set_option maxRecDepth 100000 in
theorem ok_J13_numberOfTrailingZeros_95d88 {G : GT} {b d t : Nat} (p0 : Int64) (I : TI) (L : TL)  {Q : Int32 → Prop} (h : W_J13_numberOfTrailingZeros_95d88 p0 I L Q) : MW G Y_J13_numberOfTrailingZeros_95d88 [.long p0] (I, L, RT b d t, 457) (fun v9 u9 => ∃ (r9 : Int32), v9 = some (.int r9) ∧ u9 = (I, L, RT b d t, 457) ∧ Q r9) (fun _ _ => False) := by
  unfold W_J13_numberOfTrailingZeros_95d88 at h
  refine MW.intro rfl (by decide) is_J13_numberOfTrailingZeros_95d88 (Nat.le_of_ble_eq_true rfl) ?_
  show V G Y_J13_numberOfTrailingZeros_95d88 0 [(0, .long p0)] [] (I, L, RT b d t, 457) 0 0 _ _
  refine v_lload_n (pc' := 1) 0 0 rfl rfl rfl rfl ?_
  refine v_l2i (pc' := 2) 1 rfl rfl ?_
  refine v_istore_n (ls' := [(2, .int (p0.toInt32)), (0, .long p0)]) (pc' := 3) 2 rfl rfl rfl (by decide) rfl ?_
  refine v_iload_n (pc' := 4) 3 0 rfl rfl rfl rfl ?_
  refine v_if_ne (tgt := 21) (pc' := 7) 4 rfl rfl (by decide) (fun hc => ?_) (fun hc => ?_)
  · replace h := h.1 hc
    refine v_iload_n (pc' := 22) 13 0 rfl rfl rfl rfl ?_
    refine v_cS (Y2 := Y_J6_numberOfTrailingZeros_0f7a4) (As := [.int (p0.toInt32)]) (pc' := 25) (c1 := 0) (s1 := 0) 14 rfl rfl mf_J6_numberOfTrailingZeros_0f7a4 rfl rfl ml_J13_311 ms_J6_numberOfTrailingZeros_0f7a4 rfl (Nat.le_of_ble_eq_true rfl) ⟨Nat.le_of_ble_eq_true rfl, Nat.le_of_ble_eq_true rfl⟩ rfl rfl (ok_J6_numberOfTrailingZeros_0f7a4 (p0.toInt32) I L h) ?_ ?_
    · intro e9 u9 hx9
      exact hx9.elim
    intro v9 u9 hv9
    obtain ⟨r1147, rfl, rfl, h⟩ := hv9
    refine ⟨fun q => absurd q (Nat.lt_irrefl _), ?_⟩
    show V G Y_J13_numberOfTrailingZeros_95d88 25 _ (.int r1147 :: _) _ _ _ _ _
    exact v_iret 15 rfl rfl (by decide) (by decide) ⟨_, rfl, rfl, h⟩
  replace h := h.2 hc
  refine v_bipush (v := 32) (pc' := 9) 5 rfl rfl (by decide) ?_
  refine v_lload_n (pc' := 10) 6 1 rfl rfl rfl rfl ?_
  refine v_bipush (v := 32) (pc' := 12) 7 rfl rfl (by decide) ?_
  refine v_lushr (pc' := 13) 8 rfl rfl ?_
  refine v_l2i (pc' := 14) 9 rfl rfl ?_
  refine v_cS (Y2 := Y_J6_numberOfTrailingZeros_0f7a4) (As := [.int ((ushL p0 (32 : Int32)).toInt32)]) (pc' := 17) (c1 := 0) (s1 := 0) 10 rfl rfl mf_J6_numberOfTrailingZeros_0f7a4 rfl rfl ml_J13_311 ms_J6_numberOfTrailingZeros_0f7a4 rfl (Nat.le_of_ble_eq_true rfl) ⟨Nat.le_of_ble_eq_true rfl, Nat.le_of_ble_eq_true rfl⟩ rfl rfl (ok_J6_numberOfTrailingZeros_0f7a4 ((ushL p0 (32 : Int32)).toInt32) I L h) ?_ ?_
  · intro e9 u9 hx9
    exact hx9.elim
  intro v9 u9 hv9
  obtain ⟨r1148, rfl, rfl, h⟩ := hv9
  refine ⟨fun q => absurd q (Nat.lt_irrefl _), ?_⟩
  show V G Y_J13_numberOfTrailingZeros_95d88 17 _ (.int r1148 :: _) _ _ _ _ _
  refine v_iadd (pc' := 18) 11 rfl rfl ?_
  refine v_goto (tgt := 25) 12 rfl (by decide) ?_
  exact v_iret 15 rfl rfl (by decide) (by decide) ⟨_, rfl, rfl, h⟩
set_option maxHeartbeats 4000000 in
set_option maxRecDepth 100000 in
theorem ok_X8_firstWrong {G : GT} {t : Nat} (p1 : Int32) (I : TI) (L : TL) (b : Nat) (d : Nat) (hb : bnOK b) (hd : bnOK d) {Q : Int32 → Prop} {QX : String → Prop} (h : W_X8_firstWrong p1 I L b d Q QX) : MW G Y_X8_firstWrong [.ref 0, .int p1] (I, L, RT b d t, 457) (fun v9 u9 => ∃ (r9 : Int32), v9 = some (.int r9) ∧ u9 = (I, L, RT b d t, 457) ∧ Q r9) (fun e9 u9 => u9 = (I, L, RT b d t, 457) ∧ QX e9) := by
  unfold W_X8_firstWrong at h
  refine MW.intro rfl (by decide) is_X8_firstWrong (Nat.le_of_ble_eq_true rfl) ?_
  show V G Y_X8_firstWrong 0 [(0, .ref 0), (1, .int p1)] [] (I, L, RT b d t, 457) 0 0 _ _
  refine v_aload_n (pc' := 1) 0 0 rfl rfl rfl rfl ?_
  refine v_iload_n (pc' := 2) 1 1 rfl rfl rfl rfl ?_
  refine v_cV (Y2 := Y_X8_requireNet) (As := [.int p1]) (b := 0) (pc' := 5) (c1 := 1) (s1 := 6) 2 rfl rfl mf_X8_requireNet rfl rfl ml_X8_186 mi_X8_requireNet se_X8_requireNet (ci := 7) rfl ly_0 (lay_lt ly_0 (by decide)) rfl (Nat.le_of_ble_eq_true rfl) ⟨Nat.le_of_ble_eq_true rfl, Nat.le_of_ble_eq_true rfl⟩ rfl rfl (ok_X8_requireNet p1 I L b d hb hd h) ?_ ?_
  · intro e9 u9 hx9
    obtain ⟨rfl, hx9⟩ := hx9
    exact vx_leave rfl (by decide) (by decide) ⟨rfl, hx9⟩
  intro v9 u9 hv9
  obtain ⟨rfl, rfl, h⟩ := hv9
  refine ⟨fun q => absurd q (Nat.lt_irrefl _), ?_⟩
  show V G Y_X8_firstWrong 5 _ _ _ _ _ _ _
  refine v_aload_n (pc' := 6) 3 0 rfl rfl rfl rfl ?_
  refine v_getR (t := b) (pc' := 9) 4 rfl rfl pf_X8_40 ly_0 (lay_lt ly_0 (by decide)) rt_0_5 ?_
  refine v_iload_n (pc' := 10) 5 1 rfl rfl rfl rfl ?_
  refine v_cV (Y2 := Y_X0_wrongTimes) (As := [.int p1]) (b := b) (pc' := 13) (c1 := 1) (s1 := 6) 6 rfl rfl mf_X0_wrongTimes rfl rfl ml_X8_218 mi_X0_wrongTimes se_X0_wrongTimes (ci := 0) rfl (bn0l hb) (lay_lt (bn0l hb) (by decide)) rfl (Nat.le_of_ble_eq_true rfl) ⟨Nat.le_of_ble_eq_true rfl, Nat.le_of_ble_eq_true rfl⟩ rfl rfl (ok_X0_wrongTimes b p1 I L hb h) ?_ ?_
  · intro e9 u9 hx9
    exact hx9.elim
  intro v9 u9 hv9
  obtain ⟨r1151, rfl, rfl, h⟩ := hv9
  refine ⟨fun q => absurd q (Nat.lt_irrefl _), ?_⟩
  show V G Y_X8_firstWrong 13 _ (.long r1151 :: _) _ _ _ _ _
  refine v_lstore_n (ls' := [(2, .long r1151), (0, .ref 0), (1, .int p1)]) (pc' := 14) 7 rfl rfl rfl (by decide) rfl ?_
  refine v_lload_n (pc' := 15) 8 0 rfl rfl rfl rfl ?_
  refine v_lconst (v := 0) (pc' := 16) 9 rfl rfl (by decide) ?_
  refine v_lc_ne (tgt := 24) (pc' := 20) 10 11 rfl rfl rfl (by decide) (fun hc => ?_) (fun hc => ?_)
  · replace h := h.1 hc
    refine v_lload_n (pc' := 25) 14 0 rfl rfl rfl rfl ?_
    refine v_cS (Y2 := Y_J13_numberOfTrailingZeros_95d88) (As := [.long r1151]) (pc' := 28) (c1 := 1) (s1 := 6) 15 rfl rfl mf_J13_numberOfTrailingZeros_95d88 rfl rfl ml_X8_228 ms_J13_numberOfTrailingZeros_95d88 rfl (Nat.le_of_ble_eq_true rfl) ⟨Nat.le_of_ble_eq_true rfl, Nat.le_of_ble_eq_true rfl⟩ rfl rfl (ok_J13_numberOfTrailingZeros_95d88 r1151 I L h) ?_ ?_
    · intro e9 u9 hx9
      exact hx9.elim
    intro v9 u9 hv9
    obtain ⟨r1152, rfl, rfl, h⟩ := hv9
    refine ⟨fun q => absurd q (Nat.lt_irrefl _), ?_⟩
    show V G Y_X8_firstWrong 28 _ (.int r1152 :: _) _ _ _ _ _
    exact v_iret 16 rfl rfl (by decide) (by decide) ⟨_, rfl, rfl, h⟩
  replace h := h.2 hc
  refine v_iconst (v := -1) (pc' := 21) 12 rfl rfl (by decide) ?_
  refine v_goto (tgt := 28) 13 rfl (by decide) ?_
  exact v_iret 16 rfl rfl (by decide) (by decide) ⟨_, rfl, rfl, h⟩
set_option maxHeartbeats 4000000 in
set_option maxRecDepth 100000 in
theorem ok_X8_allWrong {G : GT} {t : Nat} (I : TI) (L : TL) (b : Nat) (d : Nat) (hb : bnOK b) (hd : bnOK d) {Q : Int32 → Prop} (h : W_X8_allWrong I L b d Q) : MW G Y_X8_allWrong [.ref 0] (I, L, RT b d t, 457) (fun v9 u9 => ∃ (r9 : Int32), v9 = some (.int r9) ∧ u9 = (I, L, RT b d t, 457) ∧ Q r9) (fun _ _ => False) := by
  unfold W_X8_allWrong at h
  refine MW.intro rfl (by decide) is_X8_allWrong (Nat.le_of_ble_eq_true rfl) ?_
  show V G Y_X8_allWrong 0 [(0, .ref 0)] [] (I, L, RT b d t, 457) 0 0 _ _
  refine v_aload_n (pc' := 1) 0 0 rfl rfl rfl rfl ?_
  refine v_getR (t := b) (pc' := 4) 1 rfl rfl pf_X8_40 ly_0 (lay_lt ly_0 (by decide)) rt_0_5 ?_
  refine v_aload_n (pc' := 5) 2 0 rfl rfl rfl rfl ?_
  refine v_getR (t := b) (pc' := 8) 3 rfl rfl pf_X8_40 ly_0 (lay_lt ly_0 (by decide)) rt_0_5 ?_
  refine v_getR (t := (b + 37)) (pc' := 11) 4 rfl rfl pf_X8_189 (bn0l hb) (lay_lt (bn0l hb) (by decide)) (rt_bn_2 hb) ?_
  refine v_cV (Y2 := Y_X0_wrongSum) (As := [.ref (b + 37)]) (b := b) (pc' := 14) (c1 := 0) (s1 := 0) 5 rfl rfl mf_X0_wrongSum rfl rfl ml_X8_231 mi_X0_wrongSum se_X0_wrongSum (ci := 0) rfl (bn0l hb) (lay_lt (bn0l hb) (by decide)) rfl (Nat.le_of_ble_eq_true rfl) ⟨Nat.le_of_ble_eq_true rfl, Nat.le_of_ble_eq_true rfl⟩ rfl rfl (ok_X0_wrongSum b (b + 37) I L hb (bn37l hb) (bn37n hb) h) ?_ ?_
  · intro e9 u9 hx9
    exact hx9.elim
  intro v9 u9 hv9
  obtain ⟨r1154, rfl, rfl, h⟩ := hv9
  refine ⟨fun q => absurd q (Nat.lt_irrefl _), ?_⟩
  show V G Y_X8_allWrong 14 _ (.int r1154 :: _) _ _ _ _ _
  exact v_iret 6 rfl rfl (by decide) (by decide) ⟨_, rfl, rfl, h⟩
set_option maxHeartbeats 4000000 in
set_option maxRecDepth 100000 in
theorem b_X8_worst_45 {G : GT} {t : Nat} (v1 : Int32) (v2 : Int32) (I : TI) (L : TL) (b : Nat) (d : Nat) (hb : bnOK b) (hd : bnOK d) (Q : Int32 → Prop) (R4 : Int32 → Int32 → Prop) (hR4 : ∀ (v1 : Int32) (v2 : Int32), R4 v1 v2 → V G Y_X8_worst 4 [(0, .ref 0), (1, .int v1), (2, .int v2)] [] (I, L, RT b d t, 457) 0 0 (fun v9 u9 => ∃ (r9 : Int32), v9 = some (.int r9) ∧ u9 = (I, L, RT b d t, 457) ∧ Q r9) (fun _ _ => False)) (h : B_X8_worst_45 v1 v2 I L b d Q R4) : V G Y_X8_worst 45 [(0, .ref 0), (1, .int v1), (2, .int v2)] [] (I, L, RT b d t, 457) 0 0 (fun v9 u9 => ∃ (r9 : Int32), v9 = some (.int r9) ∧ u9 = (I, L, RT b d t, 457) ∧ Q r9) (fun _ _ => False) := by
  unfold B_X8_worst_45 at h
  refine v_iinc (v := (v2 + 1)) (ls' := [(2, .int (v2 + 1)), (0, .ref 0), (1, .int v1)]) (pc' := 48) 23 2 rfl rfl rfl rfl (by decide) rfl ?_
  refine v_goto (tgt := 4) 24 rfl (by decide) ?_
  refine V.sub [1, 2, 0] rfl ?_
  exact hR4 v1 (v2 + 1) h
set_option maxHeartbeats 4000000 in
set_option maxRecDepth 100000 in
theorem d_X8_worst_4 {G : GT} {t : Nat} (I : TI) (L : TL) (b : Nat) (d : Nat) (hb : bnOK b) (hd : bnOK d) (Q : Int32 → Prop) (R4 : Int32 → Int32 → Prop)  (hR4 : ∀ (v1 : Int32) (v2 : Int32), R4 v1 v2 → V G Y_X8_worst 4 [(0, .ref 0), (1, .int v1), (2, .int v2)] [] (I, L, RT b d t, 457) 0 0 (fun v9 u9 => ∃ (r9 : Int32), v9 = some (.int r9) ∧ u9 = (I, L, RT b d t, 457) ∧ Q r9) (fun _ _ => False)) (v1 : Int32) (v2 : Int32)  (h : D_X8_worst_4 I L b d Q R4 v1 v2) : V G Y_X8_worst 4 [(0, .ref 0), (1, .int v1), (2, .int v2)] [] (I, L, RT b d t, 457) 0 0 (fun v9 u9 => ∃ (r9 : Int32), v9 = some (.int r9) ∧ u9 = (I, L, RT b d t, 457) ∧ Q r9) (fun _ _ => False) := by
  unfold D_X8_worst_4 at h
  refine v_iload_n (pc' := 5) 4 2 rfl rfl rfl rfl ?_
  refine v_aload_n (pc' := 6) 5 0 rfl rfl rfl rfl ?_
  refine v_getR (t := b) (pc' := 9) 6 rfl rfl pf_X8_40 ly_0 (lay_lt ly_0 (by decide)) rt_0_5 ?_
  refine v_getR (t := (b + 1)) (pc' := 12) 7 rfl rfl pf_X8_95 (bn0l hb) (lay_lt (bn0l hb) (by decide)) (rt_bn_0 hb) ?_
  refine v_cV (Y2 := Y_X2_nets) (As := []) (b := (b + 1)) (pc' := 15) (c1 := 0) (s1 := 0) 8 rfl rfl mf_X2_nets rfl rfl ml_X8_99 mi_X2_nets se_X2_nets (ci := 1) rfl (bn1l hb) (lay_lt (bn1l hb) (by decide)) rfl (Nat.le_of_ble_eq_true rfl) ⟨Nat.le_of_ble_eq_true rfl, Nat.le_of_ble_eq_true rfl⟩ rfl rfl (ok_X2_nets (b + 1) I L (bn_ck hb) h) ?_ ?_
  · intro e9 u9 hx9
    exact hx9.elim
  intro v9 u9 hv9
  obtain ⟨r1165, rfl, rfl, h⟩ := hv9
  refine ⟨fun q => absurd q (Nat.lt_irrefl _), ?_⟩
  show V G Y_X8_worst 15 _ (.int r1165 :: _) _ _ _ _ _
  refine v_icmp_ge (tgt := 51) (pc' := 18) 9 rfl rfl (by decide) (fun hc => ?_) (fun hc => ?_)
  · replace h := h.1 hc
    refine v_iload_n (pc' := 52) 25 1 rfl rfl rfl rfl ?_
    exact v_iret 26 rfl rfl (by decide) (by decide) ⟨_, rfl, rfl, h⟩
  replace h := h.2 hc
  refine v_aload_n (pc' := 19) 10 0 rfl rfl rfl rfl ?_
  refine v_getR (t := b) (pc' := 22) 11 rfl rfl pf_X8_40 ly_0 (lay_lt ly_0 (by decide)) rt_0_5 ?_
  refine v_iload_n (pc' := 23) 12 2 rfl rfl rfl rfl ?_
  refine v_cV (Y2 := Y_X0_wrongTimes) (As := [.int v2]) (b := b) (pc' := 26) (c1 := 0) (s1 := 0) 13 rfl rfl mf_X0_wrongTimes rfl rfl ml_X8_218 mi_X0_wrongTimes se_X0_wrongTimes (ci := 0) rfl (bn0l hb) (lay_lt (bn0l hb) (by decide)) rfl (Nat.le_of_ble_eq_true rfl) ⟨Nat.le_of_ble_eq_true rfl, Nat.le_of_ble_eq_true rfl⟩ rfl rfl (ok_X0_wrongTimes b v2 I L hb h) ?_ ?_
  · intro e9 u9 hx9
    exact hx9.elim
  intro v9 u9 hv9
  obtain ⟨r1166, rfl, rfl, h⟩ := hv9
  refine ⟨fun q => absurd q (Nat.lt_irrefl _), ?_⟩
  show V G Y_X8_worst 26 _ (.long r1166 :: _) _ _ _ _ _
  refine v_cS (Y2 := Y_J13_bitCount_95d88) (As := [.long r1166]) (pc' := 29) (c1 := 0) (s1 := 0) 14 rfl rfl mf_J13_bitCount_95d88 rfl rfl ml_X8_222 ms_J13_bitCount_95d88 rfl (Nat.le_of_ble_eq_true rfl) ⟨Nat.le_of_ble_eq_true rfl, Nat.le_of_ble_eq_true rfl⟩ rfl rfl (ok_J13_bitCount_95d88 r1166 I L h) ?_ ?_
  · intro e9 u9 hx9
    exact hx9.elim
  intro v9 u9 hv9
  obtain ⟨r1167, rfl, rfl, h⟩ := hv9
  refine ⟨fun q => absurd q (Nat.lt_irrefl _), ?_⟩
  show V G Y_X8_worst 29 _ (.int r1167 :: _) _ _ _ _ _
  refine v_aload_n (pc' := 30) 15 0 rfl rfl rfl rfl ?_
  refine v_getR (t := b) (pc' := 33) 16 rfl rfl pf_X8_40 ly_0 (lay_lt ly_0 (by decide)) rt_0_5 ?_
  refine v_iload_n (pc' := 34) 17 1 rfl rfl rfl rfl ?_
  refine v_cV (Y2 := Y_X0_wrongTimes) (As := [.int v1]) (b := b) (pc' := 37) (c1 := 0) (s1 := 0) 18 rfl rfl mf_X0_wrongTimes rfl rfl ml_X8_218 mi_X0_wrongTimes se_X0_wrongTimes (ci := 0) rfl (bn0l hb) (lay_lt (bn0l hb) (by decide)) rfl (Nat.le_of_ble_eq_true rfl) ⟨Nat.le_of_ble_eq_true rfl, Nat.le_of_ble_eq_true rfl⟩ rfl rfl (ok_X0_wrongTimes b v1 I L hb h) ?_ ?_
  · intro e9 u9 hx9
    exact hx9.elim
  intro v9 u9 hv9
  obtain ⟨r1168, rfl, rfl, h⟩ := hv9
  refine ⟨fun q => absurd q (Nat.lt_irrefl _), ?_⟩
  show V G Y_X8_worst 37 _ (.long r1168 :: _) _ _ _ _ _
  refine v_cS (Y2 := Y_J13_bitCount_95d88) (As := [.long r1168]) (pc' := 40) (c1 := 0) (s1 := 0) 19 rfl rfl mf_J13_bitCount_95d88 rfl rfl ml_X8_222 ms_J13_bitCount_95d88 rfl (Nat.le_of_ble_eq_true rfl) ⟨Nat.le_of_ble_eq_true rfl, Nat.le_of_ble_eq_true rfl⟩ rfl rfl (ok_J13_bitCount_95d88 r1168 I L h) ?_ ?_
  · intro e9 u9 hx9
    exact hx9.elim
  intro v9 u9 hv9
  obtain ⟨r1169, rfl, rfl, h⟩ := hv9
  refine ⟨fun q => absurd q (Nat.lt_irrefl _), ?_⟩
  show V G Y_X8_worst 40 _ (.int r1169 :: _) _ _ _ _ _
  refine v_icmp_le (tgt := 45) (pc' := 43) 20 rfl rfl (by decide) (fun hc => ?_) (fun hc => ?_)
  · replace h := h.1 hc
    exact b_X8_worst_45 v1 v2 I L b d hb hd Q R4 hR4 h
  replace h := h.2 hc
  refine v_iload_n (pc' := 44) 21 2 rfl rfl rfl rfl ?_
  refine v_istore_n (ls' := [(1, .int v2), (0, .ref 0), (2, .int v2)]) (pc' := 45) 22 rfl rfl rfl (by decide) rfl ?_
  refine V.sub [1, 0, 2] rfl ?_
  exact b_X8_worst_45 v2 v2 I L b d hb hd Q R4 hR4 h
theorem l_X8_worst_4 {G : GT} {t : Nat} (I : TI) (L : TL) (b : Nat) (d : Nat) (hb : bnOK b) (hd : bnOK d) (Q : Int32 → Prop)  : ∀ (n9 : Nat) (v1 : Int32) (v2 : Int32), L_X8_worst_4 I L b d Q n9 v1 v2 → V G Y_X8_worst 4 [(0, .ref 0), (1, .int v1), (2, .int v2)] [] (I, L, RT b d t, 457) 0 0 (fun v9 u9 => ∃ (r9 : Int32), v9 = some (.int r9) ∧ u9 = (I, L, RT b d t, 457) ∧ Q r9) (fun _ _ => False)
  | 0, _, _, h => h.elim
  | n9 + 1, v1, v2, h => d_X8_worst_4 I L b d hb hd Q _ (l_X8_worst_4 I L b d hb hd Q n9) v1 v2 h
set_option maxHeartbeats 4000000 in
set_option maxRecDepth 100000 in
theorem ok_X8_worst {G : GT} {t : Nat} (I : TI) (L : TL) (b : Nat) (d : Nat) (hb : bnOK b) (hd : bnOK d) {Q : Int32 → Prop} (h : W_X8_worst I L b d Q) : MW G Y_X8_worst [.ref 0] (I, L, RT b d t, 457) (fun v9 u9 => ∃ (r9 : Int32), v9 = some (.int r9) ∧ u9 = (I, L, RT b d t, 457) ∧ Q r9) (fun _ _ => False) := by
  unfold W_X8_worst at h
  refine MW.intro rfl (by decide) is_X8_worst (Nat.le_of_ble_eq_true rfl) ?_
  show V G Y_X8_worst 0 [(0, .ref 0)] [] (I, L, RT b d t, 457) 0 0 _ _
  refine v_iconst (v := 0) (pc' := 1) 0 rfl rfl (by decide) ?_
  refine v_istore_n (ls' := [(1, .int 0), (0, .ref 0)]) (pc' := 2) 1 rfl rfl rfl (by decide) rfl ?_
  refine v_iconst (v := 1) (pc' := 3) 2 rfl rfl (by decide) ?_
  refine v_istore_n (ls' := [(2, .int 1), (1, .int 0), (0, .ref 0)]) (pc' := 4) 3 rfl rfl rfl (by decide) rfl ?_
  refine V.sub [2, 1, 0] rfl ?_
  obtain ⟨n1170, h⟩ := h
  exact l_X8_worst_4 I L b d hb hd Q n1170 (0 : Int32) (1 : Int32) h
set_option maxHeartbeats 4000000 in
set_option maxRecDepth 100000 in
theorem ok_X8_dependsOn {G : GT} {t : Nat} (p1 : Int32) (I : TI) (L : TL) (b : Nat) (d : Nat) (hb : bnOK b) (hd : bnOK d) {Q : Int32 → Prop} {QX : String → Prop} (h : W_X8_dependsOn p1 I L b d Q QX) : MW G Y_X8_dependsOn [.ref 0, .int p1] (I, L, RT b d t, 457) (fun v9 u9 => ∃ (r9 : Int32), v9 = some (.int r9) ∧ u9 = (I, L, RT b d t, 457) ∧ Q r9) (fun e9 u9 => u9 = (I, L, RT b d t, 457) ∧ QX e9) := by
  unfold W_X8_dependsOn at h
  refine MW.intro rfl (by decide) is_X8_dependsOn (Nat.le_of_ble_eq_true rfl) ?_
  show V G Y_X8_dependsOn 0 [(0, .ref 0), (1, .int p1)] [] (I, L, RT b d t, 457) 0 0 _ _
  refine v_aload_n (pc' := 1) 0 0 rfl rfl rfl rfl ?_
  refine v_iload_n (pc' := 2) 1 1 rfl rfl rfl rfl ?_
  refine v_cV (Y2 := Y_X8_requireGate) (As := [.int p1]) (b := 0) (pc' := 5) (c1 := 1) (s1 := 6) 2 rfl rfl mf_X8_requireGate rfl rfl ml_X8_141 mi_X8_requireGate se_X8_requireGate (ci := 7) rfl ly_0 (lay_lt ly_0 (by decide)) rfl (Nat.le_of_ble_eq_true rfl) ⟨Nat.le_of_ble_eq_true rfl, Nat.le_of_ble_eq_true rfl⟩ rfl rfl (ok_X8_requireGate p1 I L b d hb hd h) ?_ ?_
  · intro e9 u9 hx9
    obtain ⟨rfl, hx9⟩ := hx9
    exact vx_leave rfl (by decide) (by decide) ⟨rfl, hx9⟩
  intro v9 u9 hv9
  obtain ⟨rfl, rfl, h⟩ := hv9
  refine ⟨fun q => absurd q (Nat.lt_irrefl _), ?_⟩
  show V G Y_X8_dependsOn 5 _ _ _ _ _ _ _
  refine v_aload_n (pc' := 6) 3 0 rfl rfl rfl rfl ?_
  refine v_getR (t := b) (pc' := 9) 4 rfl rfl pf_X8_40 ly_0 (lay_lt ly_0 (by decide)) rt_0_5 ?_
  refine v_getR (t := (b + 1)) (pc' := 12) 5 rfl rfl pf_X8_95 (bn0l hb) (lay_lt (bn0l hb) (by decide)) (rt_bn_0 hb) ?_
  refine v_getR (t := (b + 5)) (pc' := 15) 6 rfl rfl pf_X8_235 (bn1l hb) (lay_lt (bn1l hb) (by decide)) (rt_ck_3 (bn_ck hb)) ?_
  refine v_iload_n (pc' := 16) 7 1 rfl rfl rfl rfl ?_
  obtain ⟨hi1172, h⟩ := h
  refine v_iald (i := p1) (j := p1.toNatClampNeg) (pc' := 17) 8 rfl rfl (bn5l hb) (bn5n hb) (lay_lt (bn5l hb) (by decide)) hi1172 rfl ?_
  exact v_iret 9 rfl rfl (by decide) (by decide) ⟨_, rfl, rfl, h⟩
set_option maxHeartbeats 4000000 in
set_option maxRecDepth 100000 in
theorem ok_X8_touches {G : GT} {t : Nat} (p1 : Int32) (I : TI) (L : TL) (b : Nat) (d : Nat) (hb : bnOK b) (hd : bnOK d) {Q : Int32 → Prop} {QX : String → Prop} (h : W_X8_touches p1 I L b d Q QX) : MW G Y_X8_touches [.ref 0, .int p1] (I, L, RT b d t, 457) (fun v9 u9 => ∃ (r9 : Int32), v9 = some (.int r9) ∧ u9 = (I, L, RT b d t, 457) ∧ Q r9) (fun e9 u9 => u9 = (I, L, RT b d t, 457) ∧ QX e9) := by
  unfold W_X8_touches at h
  refine MW.intro rfl (by decide) is_X8_touches (Nat.le_of_ble_eq_true rfl) ?_
  show V G Y_X8_touches 0 [(0, .ref 0), (1, .int p1)] [] (I, L, RT b d t, 457) 0 0 _ _
  refine v_aload_n (pc' := 1) 0 0 rfl rfl rfl rfl ?_
  refine v_iload_n (pc' := 2) 1 1 rfl rfl rfl rfl ?_
  refine v_cV (Y2 := Y_X8_requireNet) (As := [.int p1]) (b := 0) (pc' := 5) (c1 := 1) (s1 := 6) 2 rfl rfl mf_X8_requireNet rfl rfl ml_X8_186 mi_X8_requireNet se_X8_requireNet (ci := 7) rfl ly_0 (lay_lt ly_0 (by decide)) rfl (Nat.le_of_ble_eq_true rfl) ⟨Nat.le_of_ble_eq_true rfl, Nat.le_of_ble_eq_true rfl⟩ rfl rfl (ok_X8_requireNet p1 I L b d hb hd h) ?_ ?_
  · intro e9 u9 hx9
    obtain ⟨rfl, hx9⟩ := hx9
    exact vx_leave rfl (by decide) (by decide) ⟨rfl, hx9⟩
  intro v9 u9 hv9
  obtain ⟨rfl, rfl, h⟩ := hv9
  refine ⟨fun q => absurd q (Nat.lt_irrefl _), ?_⟩
  show V G Y_X8_touches 5 _ _ _ _ _ _ _
  refine v_aload_n (pc' := 6) 3 0 rfl rfl rfl rfl ?_
  refine v_getR (t := b) (pc' := 9) 4 rfl rfl pf_X8_40 ly_0 (lay_lt ly_0 (by decide)) rt_0_5 ?_
  refine v_getR (t := (b + 1)) (pc' := 12) 5 rfl rfl pf_X8_95 (bn0l hb) (lay_lt (bn0l hb) (by decide)) (rt_bn_0 hb) ?_
  refine v_iload_n (pc' := 13) 6 1 rfl rfl rfl rfl ?_
  refine v_cV (Y2 := Y_X2_touchedBy) (As := [.int p1]) (b := (b + 1)) (pc' := 16) (c1 := 1) (s1 := 6) 7 rfl rfl mf_X2_touchedBy rfl rfl ml_X8_238 mi_X2_touchedBy se_X2_touchedBy (ci := 1) rfl (bn1l hb) (lay_lt (bn1l hb) (by decide)) rfl (Nat.le_of_ble_eq_true rfl) ⟨Nat.le_of_ble_eq_true rfl, Nat.le_of_ble_eq_true rfl⟩ rfl rfl (ok_X2_touchedBy (b + 1) p1 I L (bn_ck hb) h) ?_ ?_
  · intro e9 u9 hx9
    exact hx9.elim
  intro v9 u9 hv9
  obtain ⟨r1174, rfl, rfl, h⟩ := hv9
  refine ⟨fun q => absurd q (Nat.lt_irrefl _), ?_⟩
  show V G Y_X8_touches 16 _ (.int r1174 :: _) _ _ _ _ _
  exact v_iret 8 rfl rfl (by decide) (by decide) ⟨_, rfl, rfl, h⟩
set_option maxHeartbeats 4000000 in
set_option maxRecDepth 100000 in
theorem ok_X8_longest {G : GT} {t : Nat} (p1 : Int32) (I : TI) (L : TL) (b : Nat) (d : Nat) (hb : bnOK b) (hd : bnOK d) {Q : Int32 → Prop} {QX : String → Prop} (h : W_X8_longest p1 I L b d Q QX) : MW G Y_X8_longest [.ref 0, .int p1] (I, L, RT b d t, 457) (fun v9 u9 => ∃ (r9 : Int32), v9 = some (.int r9) ∧ u9 = (I, L, RT b d t, 457) ∧ Q r9) (fun e9 u9 => u9 = (I, L, RT b d t, 457) ∧ QX e9) := by
  unfold W_X8_longest at h
  refine MW.intro rfl (by decide) is_X8_longest (Nat.le_of_ble_eq_true rfl) ?_
  show V G Y_X8_longest 0 [(0, .ref 0), (1, .int p1)] [] (I, L, RT b d t, 457) 0 0 _ _
  refine v_aload_n (pc' := 1) 0 0 rfl rfl rfl rfl ?_
  refine v_iload_n (pc' := 2) 1 1 rfl rfl rfl rfl ?_
  refine v_cV (Y2 := Y_X8_requireNet) (As := [.int p1]) (b := 0) (pc' := 5) (c1 := 1) (s1 := 6) 2 rfl rfl mf_X8_requireNet rfl rfl ml_X8_186 mi_X8_requireNet se_X8_requireNet (ci := 7) rfl ly_0 (lay_lt ly_0 (by decide)) rfl (Nat.le_of_ble_eq_true rfl) ⟨Nat.le_of_ble_eq_true rfl, Nat.le_of_ble_eq_true rfl⟩ rfl rfl (ok_X8_requireNet p1 I L b d hb hd h) ?_ ?_
  · intro e9 u9 hx9
    obtain ⟨rfl, hx9⟩ := hx9
    exact vx_leave rfl (by decide) (by decide) ⟨rfl, hx9⟩
  intro v9 u9 hv9
  obtain ⟨rfl, rfl, h⟩ := hv9
  refine ⟨fun q => absurd q (Nat.lt_irrefl _), ?_⟩
  show V G Y_X8_longest 5 _ _ _ _ _ _ _
  refine v_aload_n (pc' := 6) 3 0 rfl rfl rfl rfl ?_
  refine v_getR (t := b) (pc' := 9) 4 rfl rfl pf_X8_40 ly_0 (lay_lt ly_0 (by decide)) rt_0_5 ?_
  refine v_getR (t := (b + 41)) (pc' := 12) 5 rfl rfl pf_X8_241 (bn0l hb) (lay_lt (bn0l hb) (by decide)) (rt_bn_6 hb) ?_
  refine v_iload_n (pc' := 13) 6 1 rfl rfl rfl rfl ?_
  obtain ⟨hi1176, h⟩ := h
  refine v_iald (i := p1) (j := p1.toNatClampNeg) (pc' := 14) 7 rfl rfl (bn41l hb) (bn41n hb) (lay_lt (bn41l hb) (by decide)) hi1176 rfl ?_
  exact v_iret 8 rfl rfl (by decide) (by decide) ⟨_, rfl, rfl, h⟩
set_option maxHeartbeats 4000000 in
set_option maxRecDepth 100000 in
theorem ok_X8_requirePulse {G : GT} {t : Nat} (p1 : Int32) (p2 : Int32) (I : TI) (L : TL) (b : Nat) (d : Nat) (hb : bnOK b) (hd : bnOK d) {Q : Int32 → Prop} {QX : String → Prop} (h : W_X8_requirePulse p1 p2 I L b d Q QX) : MW G Y_X8_requirePulse [.ref 0, .int p1, .int p2] (I, L, RT b d t, 457) (fun v9 u9 => ∃ (r9 : Int32), v9 = some (.int r9) ∧ u9 = (I, L, RT b d t, 457) ∧ Q r9) (fun e9 u9 => u9 = (I, L, RT b d t, 457) ∧ QX e9) := by
  unfold W_X8_requirePulse at h
  refine MW.intro rfl (by decide) is_X8_requirePulse (Nat.le_of_ble_eq_true rfl) ?_
  show V G Y_X8_requirePulse 0 [(0, .ref 0), (1, .int p1), (2, .int p2)] [] (I, L, RT b d t, 457) 0 0 _ _
  refine v_aload_n (pc' := 1) 0 0 rfl rfl rfl rfl ?_
  refine v_iload_n (pc' := 2) 1 1 rfl rfl rfl rfl ?_
  refine v_cV (Y2 := Y_X8_requireGate) (As := [.int p1]) (b := 0) (pc' := 5) (c1 := 1) (s1 := 6) 2 rfl rfl mf_X8_requireGate rfl rfl ml_X8_141 mi_X8_requireGate se_X8_requireGate (ci := 7) rfl ly_0 (lay_lt ly_0 (by decide)) rfl (Nat.le_of_ble_eq_true rfl) ⟨Nat.le_of_ble_eq_true rfl, Nat.le_of_ble_eq_true rfl⟩ rfl rfl (ok_X8_requireGate p1 I L b d hb hd h) ?_ ?_
  · intro e9 u9 hx9
    obtain ⟨rfl, hx9⟩ := hx9
    exact vx_leave rfl (by decide) (by decide) ⟨rfl, hx9⟩
  intro v9 u9 hv9
  obtain ⟨rfl, rfl, h⟩ := hv9
  refine ⟨fun q => absurd q (Nat.lt_irrefl _), ?_⟩
  show V G Y_X8_requirePulse 5 _ _ _ _ _ _ _
  refine v_aload_n (pc' := 6) 3 0 rfl rfl rfl rfl ?_
  refine v_getR (t := b) (pc' := 9) 4 rfl rfl pf_X8_40 ly_0 (lay_lt ly_0 (by decide)) rt_0_5 ?_
  refine v_iload_n (pc' := 10) 5 1 rfl rfl rfl rfl ?_
  refine v_iload_n (pc' := 11) 6 2 rfl rfl rfl rfl ?_
  refine v_cV (Y2 := Y_X0_pulseStart) (As := [.int p1, .int p2]) (b := b) (pc' := 14) (c1 := 1) (s1 := 6) 7 rfl rfl mf_X0_pulseStart rfl rfl ml_X8_244 mi_X0_pulseStart se_X0_pulseStart (ci := 0) rfl (bn0l hb) (lay_lt (bn0l hb) (by decide)) rfl (Nat.le_of_ble_eq_true rfl) ⟨Nat.le_of_ble_eq_true rfl, Nat.le_of_ble_eq_true rfl⟩ rfl rfl (ok_X0_pulseStart b p1 p2 I L hb h) ?_ ?_
  · intro e9 u9 hx9
    exact hx9.elim
  intro v9 u9 hv9
  obtain ⟨r1178, rfl, rfl, h⟩ := hv9
  refine ⟨fun q => absurd q (Nat.lt_irrefl _), ?_⟩
  show V G Y_X8_requirePulse 14 _ (.int r1178 :: _) _ _ _ _ _
  refine v_istore_n (ls' := [(3, .int r1178), (0, .ref 0), (1, .int p1), (2, .int p2)]) (pc' := 15) 8 rfl rfl rfl (by decide) rfl ?_
  refine v_iload_n (pc' := 16) 9 0 rfl rfl rfl rfl ?_
  refine v_iconst (v := -1) (pc' := 17) 10 rfl rfl (by decide) ?_
  refine v_icmp_ne (tgt := 30) (pc' := 20) 11 rfl rfl (by decide) (fun hc => ?_) (fun hc => ?_)
  · replace h := h.1 hc
    refine v_iload_n (pc' := 31) 17 0 rfl rfl rfl rfl ?_
    exact v_iret 18 rfl rfl (by decide) (by decide) ⟨_, rfl, rfl, h⟩
  replace h := h.2 hc
  exact v_throwX 12 13 14 15 16 rfl rfl (Or.inl ⟨rfl, rfl⟩) rfl rfl tf_X8_136_140 sr_X8_247 rfl (by decide) (Nat.le_of_ble_eq_true rfl) (by decide) (by decide) ⟨rfl, h⟩
set_option maxHeartbeats 4000000 in
set_option maxRecDepth 100000 in
theorem ok_X8_requireDispute {G : GT} {t : Nat} (p1 : Int32) (I : TI) (L : TL) (b : Nat) (d : Nat) (hb : bnOK b) (hd : bnOK d) {Q : Nat → Prop} {QX : String → Prop} (h : W_X8_requireDispute p1 I L b d Q QX) : MW G Y_X8_requireDispute [.ref 0, .int p1] (I, L, RT b d t, 457) (fun v9 u9 => ∃ (r9 : Nat), v9 = some (.ref r9) ∧ u9 = (I, L, RT b d t, 457) ∧ Q r9) (fun e9 u9 => u9 = (I, L, RT b d t, 457) ∧ QX e9) := by
  unfold W_X8_requireDispute at h
  refine MW.intro rfl (by decide) is_X8_requireDispute (Nat.le_of_ble_eq_true rfl) ?_
  show V G Y_X8_requireDispute 0 [(0, .ref 0), (1, .int p1)] [] (I, L, RT b d t, 457) 0 0 _ _
  refine v_iload_n (pc' := 1) 0 1 rfl rfl rfl rfl ?_
  refine v_if_lt (tgt := 18) (pc' := 4) 1 rfl rfl (by decide) (fun hc => ?_) (fun hc => ?_)
  · replace h := h.1 hc
    exact v_throwX 8 9 10 11 12 rfl rfl (Or.inl ⟨rfl, rfl⟩) rfl rfl tf_X8_136_140 sr_X8_249 rfl (by decide) (Nat.le_of_ble_eq_true rfl) (by decide) (by decide) ⟨rfl, h⟩
  replace h := h.2 hc
  refine v_iload_n (pc' := 5) 2 1 rfl rfl rfl rfl ?_
  refine v_aload_n (pc' := 6) 3 0 rfl rfl rfl rfl ?_
  refine v_getR (t := b) (pc' := 9) 4 rfl rfl pf_X8_40 ly_0 (lay_lt ly_0 (by decide)) rt_0_5 ?_
  refine v_getR (t := (b + 6)) (pc' := 12) 5 rfl rfl pf_X8_114 (bn0l hb) (lay_lt (bn0l hb) (by decide)) (rt_bn_1 hb) ?_
  refine v_getI (pc' := 15) 6 rfl rfl pf_X8_129 (bn6l hb) (lay_lt (bn6l hb) (by decide)) ?_
  refine v_icmp_lt (tgt := 28) (pc' := 18) 7 rfl rfl (by decide) (fun hc => ?_) (fun hc => ?_)
  · replace h := h.1 hc
    refine v_aload_n (pc' := 29) 13 0 rfl rfl rfl rfl ?_
    refine v_getR (t := b) (pc' := 32) 14 rfl rfl pf_X8_40 ly_0 (lay_lt ly_0 (by decide)) rt_0_5 ?_
    refine v_getR (t := (b + 6)) (pc' := 35) 15 rfl rfl pf_X8_114 (bn0l hb) (lay_lt (bn0l hb) (by decide)) (rt_bn_1 hb) ?_
    refine v_getR (t := (b + 16)) (pc' := 38) 16 rfl rfl pf_X8_251 (bn6l hb) (lay_lt (bn6l hb) (by decide)) (rt_st_6 (bn_st hb)) ?_
    refine v_iload_n (pc' := 39) 17 1 rfl rfl rfl rfl ?_
    obtain ⟨hi1180, h⟩ := h
    refine v_aald5 (i := p1) (r := ((b + 17) + p1.toNatClampNeg)) (j := p1.toNatClampNeg) (pc' := 40) 18 rfl rfl (bn16l hb) (bn16n hb) (lay_lt (bn16l hb) (by decide)) hi1180 rfl (rt_dis (bn_st hb) (vp_nat hi1180)) ?_
    exact v_aret 19 rfl rfl (by decide) (by decide) ⟨_, rfl, rfl, h⟩
  replace h := h.2 hc
  exact v_throwX 8 9 10 11 12 rfl rfl (Or.inl ⟨rfl, rfl⟩) rfl rfl tf_X8_136_140 sr_X8_249 rfl (by decide) (Nat.le_of_ble_eq_true rfl) (by decide) (by decide) ⟨rfl, h⟩
set_option maxHeartbeats 4000000 in
set_option maxRecDepth 100000 in
theorem ok_X8_pulse {G : GT} {t : Nat} (p1 : Int32) (p2 : Int32) (p3 : Int32) (I : TI) (L : TL) (b : Nat) (d : Nat) (hb : bnOK b) (hd : bnOK d) {Q : Int32 → Prop} {QX : String → Prop} (h : W_X8_pulse p1 p2 p3 I L b d Q QX) : MW G Y_X8_pulse [.ref 0, .int p1, .int p2, .int p3] (I, L, RT b d t, 457) (fun v9 u9 => ∃ (r9 : Int32), v9 = some (.int r9) ∧ u9 = (I, L, RT b d t, 457) ∧ Q r9) (fun e9 u9 => u9 = (I, L, RT b d t, 457) ∧ QX e9) := by
  unfold W_X8_pulse at h
  refine MW.intro rfl (by decide) is_X8_pulse (Nat.le_of_ble_eq_true rfl) ?_
  show V G Y_X8_pulse 0 [(0, .ref 0), (1, .int p1), (2, .int p2), (3, .int p3)] [] (I, L, RT b d t, 457) 0 0 _ _
  refine v_aload_n (pc' := 1) 0 0 rfl rfl rfl rfl ?_
  refine v_iload_n (pc' := 2) 1 1 rfl rfl rfl rfl ?_
  refine v_iload_n (pc' := 3) 2 2 rfl rfl rfl rfl ?_
  refine v_cV (Y2 := Y_X8_requirePulse) (As := [.int p1, .int p2]) (b := 0) (pc' := 6) (c1 := 2) (s1 := 12) 3 rfl rfl mf_X8_requirePulse rfl rfl ml_X8_255 mi_X8_requirePulse se_X8_requirePulse (ci := 7) rfl ly_0 (lay_lt ly_0 (by decide)) rfl (Nat.le_of_ble_eq_true rfl) ⟨Nat.le_of_ble_eq_true rfl, Nat.le_of_ble_eq_true rfl⟩ rfl rfl (ok_X8_requirePulse p1 p2 I L b d hb hd h) ?_ ?_
  · intro e9 u9 hx9
    obtain ⟨rfl, hx9⟩ := hx9
    exact vx_leave rfl (by decide) (by decide) ⟨rfl, hx9⟩
  intro v9 u9 hv9
  obtain ⟨r1187, rfl, rfl, h⟩ := hv9
  refine ⟨fun q => absurd q (Nat.lt_irrefl _), ?_⟩
  show V G Y_X8_pulse 6 _ (.int r1187 :: _) _ _ _ _ _
  refine v_istore (ls' := [(4, .int r1187), (0, .ref 0), (1, .int p1), (2, .int p2), (3, .int p3)]) (pc' := 8) 4 rfl rfl (by decide) rfl ?_
  refine v_aload_n (pc' := 9) 5 1 rfl rfl rfl rfl ?_
  refine v_getR (t := b) (pc' := 12) 6 rfl rfl pf_X8_40 ly_0 (lay_lt ly_0 (by decide)) rt_0_5 ?_
  refine v_iload_n (pc' := 13) 7 2 rfl rfl rfl rfl ?_
  refine v_iload (pc' := 15) 8 0 rfl rfl rfl ?_
  refine v_cV (Y2 := Y_X0_runEnd) (As := [.int p1, .int r1187]) (b := b) (pc' := 18) (c1 := 2) (s1 := 12) 9 rfl rfl mf_X0_runEnd rfl rfl ml_X8_258 mi_X0_runEnd se_X0_runEnd (ci := 0) rfl (bn0l hb) (lay_lt (bn0l hb) (by decide)) rfl (Nat.le_of_ble_eq_true rfl) ⟨Nat.le_of_ble_eq_true rfl, Nat.le_of_ble_eq_true rfl⟩ rfl rfl (ok_X0_runEnd b p1 r1187 I L hb h) ?_ ?_
  · intro e9 u9 hx9
    exact hx9.elim
  intro v9 u9 hv9
  obtain ⟨r1188, rfl, rfl, h⟩ := hv9
  refine ⟨fun q => absurd q (Nat.lt_irrefl _), ?_⟩
  show V G Y_X8_pulse 18 _ (.int r1188 :: _) _ _ _ _ _
  refine v_istore (ls' := [(5, .int r1188), (4, .int r1187), (0, .ref 0), (1, .int p1), (2, .int p2), (3, .int p3)]) (pc' := 20) 10 rfl rfl (by decide) rfl ?_
  refine v_aload_n (pc' := 21) 11 2 rfl rfl rfl rfl ?_
  refine v_getR (t := b) (pc' := 24) 12 rfl rfl pf_X8_40 ly_0 (lay_lt ly_0 (by decide)) rt_0_5 ?_
  refine v_getR (t := (b + 37)) (pc' := 27) 13 rfl rfl pf_X8_189 (bn0l hb) (lay_lt (bn0l hb) (by decide)) (rt_bn_2 hb) ?_
  refine v_iload_n (pc' := 28) 14 3 rfl rfl rfl rfl ?_
  obtain ⟨hi1189, h⟩ := h
  refine v_lald (i := p1) (j := p1.toNatClampNeg) (pc' := 29) 15 rfl rfl (bn37l hb) (bn37n hb) (lay_lt (bn37l hb) (by decide)) hi1189 rfl ?_
  refine v_iload (pc' := 31) 16 1 rfl rfl rfl ?_
  refine v_cS (Y2 := Y_X8_bitOf) (As := [.long (L (b + 37) (p1.toNatClampNeg)), .int r1187]) (pc' := 34) (c1 := 2) (s1 := 12) 17 rfl rfl mf_X8_bitOf rfl rfl ml_X8_207 ms_X8_bitOf rfl (Nat.le_of_ble_eq_true rfl) ⟨Nat.le_of_ble_eq_true rfl, Nat.le_of_ble_eq_true rfl⟩ rfl rfl (ok_X8_bitOf (L (b + 37) (p1.toNatClampNeg)) r1187 I L h) ?_ ?_
  · intro e9 u9 hx9
    exact hx9.elim
  intro v9 u9 hv9
  obtain ⟨r1190, rfl, rfl, h⟩ := hv9
  refine ⟨fun q => absurd q (Nat.lt_irrefl _), ?_⟩
  show V G Y_X8_pulse 34 _ (.int r1190 :: _) _ _ _ _ _
  refine v_istore (ls' := [(6, .int r1190), (5, .int r1188), (4, .int r1187), (0, .ref 0), (1, .int p1), (2, .int p2), (3, .int p3)]) (pc' := 36) 18 rfl rfl (by decide) rfl ?_
  refine v_iload_n (pc' := 37) 19 6 rfl rfl rfl rfl ?_
  refine v_ts (clo := 0) (chi := 4) (dt := 112) 20 5 [72, 75, 78, 81, 94] rfl (by decide) (by decide) (by decide) (by decide) (by decide) ?_ (fun hc => ?_)
  · intro j9 t9 ht9 hj9 hx9
    match j9, ht9, hj9, hx9 with
    | 0, ht9, hj9, hx9 =>
      cases ht9
      replace hx9 := hx9.trans (show Int32.ofInt _ = (0 : Int32) by decide)
      replace h := h.1 hx9
      refine v_iload (pc' := 74) 21 2 rfl rfl rfl ?_
      exact v_iret 22 rfl rfl (by decide) (by decide) ⟨_, rfl, rfl, h⟩
    | 1, ht9, hj9, hx9 =>
      cases ht9
      replace hx9 := hx9.trans (show Int32.ofInt _ = (1 : Int32) by decide)
      replace h := h.2.1 hx9
      refine v_iload (pc' := 77) 23 1 rfl rfl rfl ?_
      exact v_iret 24 rfl rfl (by decide) (by decide) ⟨_, rfl, rfl, h⟩
    | 2, ht9, hj9, hx9 =>
      cases ht9
      replace hx9 := hx9.trans (show Int32.ofInt _ = (2 : Int32) by decide)
      replace h := h.2.2.1 hx9
      refine v_iload (pc' := 80) 25 0 rfl rfl rfl ?_
      exact v_iret 26 rfl rfl (by decide) (by decide) ⟨_, rfl, rfl, h⟩
    | 3, ht9, hj9, hx9 =>
      cases ht9
      replace hx9 := hx9.trans (show Int32.ofInt _ = (3 : Int32) by decide)
      replace h := h.2.2.2.1 hx9
      refine v_aload_n (pc' := 82) 27 3 rfl rfl rfl rfl ?_
      refine v_getR (t := b) (pc' := 85) 28 rfl rfl pf_X8_40 ly_0 (lay_lt ly_0 (by decide)) rt_0_5 ?_
      refine v_iload_n (pc' := 86) 29 4 rfl rfl rfl rfl ?_
      refine v_iload (pc' := 88) 30 2 rfl rfl rfl ?_
      refine v_iload (pc' := 90) 31 1 rfl rfl rfl ?_
      refine v_cV (Y2 := Y_X0_price) (As := [.int p1, .int r1187, .int r1188]) (b := b) (pc' := 93) (c1 := 2) (s1 := 12) 32 rfl rfl mf_X0_price rfl rfl ml_X8_261 mi_X0_price se_X0_price (ci := 0) rfl (bn0l hb) (lay_lt (bn0l hb) (by decide)) rfl (Nat.le_of_ble_eq_true rfl) ⟨Nat.le_of_ble_eq_true rfl, Nat.le_of_ble_eq_true rfl⟩ rfl rfl (ok_X0_price b p1 r1187 r1188 I L hb h) ?_ ?_
      · intro e9 u9 hx9
        exact hx9.elim
      intro v9 u9 hv9
      obtain ⟨r1191, rfl, rfl, h⟩ := hv9
      refine ⟨fun q => absurd q (Nat.lt_irrefl _), ?_⟩
      show V G Y_X8_pulse 93 _ (.int r1191 :: _) _ _ _ _ _
      exact v_iret 33 rfl rfl (by decide) (by decide) ⟨_, rfl, rfl, h⟩
    | 4, ht9, hj9, hx9 =>
      cases ht9
      replace hx9 := hx9.trans (show Int32.ofInt _ = (4 : Int32) by decide)
      replace h := h.2.2.2.2.1 hx9
      refine v_aload_n (pc' := 95) 34 3 rfl rfl rfl rfl ?_
      refine v_getR (t := b) (pc' := 98) 35 rfl rfl pf_X8_40 ly_0 (lay_lt ly_0 (by decide)) rt_0_5 ?_
      refine v_iload_n (pc' := 99) 36 4 rfl rfl rfl rfl ?_
      refine v_iload (pc' := 101) 37 1 rfl rfl rfl ?_
      refine v_iload (pc' := 103) 38 2 rfl rfl rfl ?_
      refine v_isub (pc' := 104) 39 rfl rfl ?_
      refine v_iconst (v := 1) (pc' := 105) 40 rfl rfl (by decide) ?_
      refine v_iadd (pc' := 106) 41 rfl rfl ?_
      refine v_iload (pc' := 108) 42 0 rfl rfl rfl ?_
      refine v_cV (Y2 := Y_X0_cheapVerdict) (As := [.int p1, .int ((r1188 - r1187) + 1), .int r1190]) (b := b) (pc' := 111) (c1 := 2) (s1 := 12) 43 rfl rfl mf_X0_cheapVerdict rfl rfl ml_X8_265 mi_X0_cheapVerdict se_X0_cheapVerdict (ci := 0) rfl (bn0l hb) (lay_lt (bn0l hb) (by decide)) rfl (Nat.le_of_ble_eq_true rfl) ⟨Nat.le_of_ble_eq_true rfl, Nat.le_of_ble_eq_true rfl⟩ rfl rfl (ok_X0_cheapVerdict b p1 ((r1188 - r1187) + 1) r1190 I L hb h) ?_ ?_
      · intro e9 u9 hx9
        exact hx9.elim
      intro v9 u9 hv9
      obtain ⟨r1192, rfl, rfl, h⟩ := hv9
      refine ⟨fun q => absurd q (Nat.lt_irrefl _), ?_⟩
      show V G Y_X8_pulse 111 _ (.int r1192 :: _) _ _ _ _ _
      exact v_iret 44 rfl rfl (by decide) (by decide) ⟨_, rfl, rfl, h⟩
    | q9 + 5, ht9, hj9, hx9 => exact absurd hj9 (by omega)
  replace h := h.2.2.2.2.2 hc
  exact v_throwX 45 46 47 48 49 rfl rfl (Or.inl ⟨rfl, rfl⟩) rfl rfl tf_X8_136_140 sr_X8_138 rfl (by decide) (Nat.le_of_ble_eq_true rfl) (by decide) (by decide) ⟨rfl, h⟩
set_option maxHeartbeats 4000000 in
set_option maxRecDepth 100000 in
theorem ok_X8_dispute {G : GT} {t : Nat} (p1 : Int32) (p2 : Int32) (I : TI) (L : TL) (b : Nat) (d : Nat) (hb : bnOK b) (hd : bnOK d) {Q : Int32 → Prop} {QX : String → Prop} (h : W_X8_dispute p1 p2 I L b d Q QX) : MW G Y_X8_dispute [.ref 0, .int p1, .int p2] (I, L, RT b d t, 457) (fun v9 u9 => ∃ (r9 : Int32), v9 = some (.int r9) ∧ u9 = (I, L, RT b d t, 457) ∧ Q r9) (fun e9 u9 => u9 = (I, L, RT b d t, 457) ∧ QX e9) := by
  unfold W_X8_dispute at h
  refine MW.intro rfl (by decide) is_X8_dispute (Nat.le_of_ble_eq_true rfl) ?_
  show V G Y_X8_dispute 0 [(0, .ref 0), (1, .int p1), (2, .int p2)] [] (I, L, RT b d t, 457) 0 0 _ _
  refine v_aload_n (pc' := 1) 0 0 rfl rfl rfl rfl ?_
  refine v_iload_n (pc' := 2) 1 1 rfl rfl rfl rfl ?_
  refine v_cV (Y2 := Y_X8_requireDispute) (As := [.int p1]) (b := 0) (pc' := 5) (c1 := 1) (s1 := 6) 2 rfl rfl mf_X8_requireDispute rfl rfl ml_X8_268 mi_X8_requireDispute se_X8_requireDispute (ci := 7) rfl ly_0 (lay_lt ly_0 (by decide)) rfl (Nat.le_of_ble_eq_true rfl) ⟨Nat.le_of_ble_eq_true rfl, Nat.le_of_ble_eq_true rfl⟩ rfl rfl (ok_X8_requireDispute p1 I L b d hb hd h) ?_ ?_
  · intro e9 u9 hx9
    obtain ⟨rfl, hx9⟩ := hx9
    exact vx_leave rfl (by decide) (by decide) ⟨rfl, hx9⟩
  intro v9 u9 hv9
  obtain ⟨r1197, rfl, rfl, h⟩ := hv9
  refine ⟨fun q => absurd q (Nat.lt_irrefl _), ?_⟩
  obtain ⟨hr1198, h⟩ := h
  show V G Y_X8_dispute 5 _ (.ref r1197 :: _) _ _ _ _ _
  refine v_astore_n (ls' := [(3, .ref r1197), (0, .ref 0), (1, .int p1), (2, .int p2)]) (pc' := 6) 3 rfl rfl rfl (by decide) rfl ?_
  refine v_iload_n (pc' := 7) 4 3 rfl rfl rfl rfl ?_
  refine v_ts (clo := 0) (chi := 9) (dt := 137) 5 10 [60, 65, 70, 75, 80, 85, 98, 103, 108, 117] rfl (by decide) (by decide) (by decide) (by decide) (by decide) ?_ (fun hc => ?_)
  · intro j9 t9 ht9 hj9 hx9
    match j9, ht9, hj9, hx9 with
    | 0, ht9, hj9, hx9 =>
      cases ht9
      replace hx9 := hx9.trans (show Int32.ofInt _ = (0 : Int32) by decide)
      replace h := h.1 hx9
      refine v_aload_n (pc' := 61) 6 0 rfl rfl rfl rfl ?_
      refine v_getI (pc' := 64) 7 rfl rfl pf_X8_272 hr1198 (lay_lt hr1198 (by decide)) ?_
      exact v_iret 8 rfl rfl (by decide) (by decide) ⟨_, rfl, rfl, h⟩
    | 1, ht9, hj9, hx9 =>
      cases ht9
      replace hx9 := hx9.trans (show Int32.ofInt _ = (1 : Int32) by decide)
      replace h := h.2.1 hx9
      refine v_aload_n (pc' := 66) 9 0 rfl rfl rfl rfl ?_
      refine v_getI (pc' := 69) 10 rfl rfl pf_X8_276 hr1198 (lay_lt hr1198 (by decide)) ?_
      exact v_iret 11 rfl rfl (by decide) (by decide) ⟨_, rfl, rfl, h⟩
    | 2, ht9, hj9, hx9 =>
      cases ht9
      replace hx9 := hx9.trans (show Int32.ofInt _ = (2 : Int32) by decide)
      replace h := h.2.2.1 hx9
      refine v_aload_n (pc' := 71) 12 0 rfl rfl rfl rfl ?_
      refine v_getI (pc' := 74) 13 rfl rfl pf_X8_279 hr1198 (lay_lt hr1198 (by decide)) ?_
      exact v_iret 14 rfl rfl (by decide) (by decide) ⟨_, rfl, rfl, h⟩
    | 3, ht9, hj9, hx9 =>
      cases ht9
      replace hx9 := hx9.trans (show Int32.ofInt _ = (3 : Int32) by decide)
      replace h := h.2.2.2.1 hx9
      refine v_aload_n (pc' := 76) 15 0 rfl rfl rfl rfl ?_
      refine v_getI (pc' := 79) 16 rfl rfl pf_X8_282 hr1198 (lay_lt hr1198 (by decide)) ?_
      exact v_iret 17 rfl rfl (by decide) (by decide) ⟨_, rfl, rfl, h⟩
    | 4, ht9, hj9, hx9 =>
      cases ht9
      replace hx9 := hx9.trans (show Int32.ofInt _ = (4 : Int32) by decide)
      replace h := h.2.2.2.2.1 hx9
      refine v_aload_n (pc' := 81) 18 0 rfl rfl rfl rfl ?_
      refine v_getI (pc' := 84) 19 rfl rfl pf_X8_285 hr1198 (lay_lt hr1198 (by decide)) ?_
      exact v_iret 20 rfl rfl (by decide) (by decide) ⟨_, rfl, rfl, h⟩
    | 5, ht9, hj9, hx9 =>
      cases ht9
      replace hx9 := hx9.trans (show Int32.ofInt _ = (5 : Int32) by decide)
      replace h := h.2.2.2.2.2.1 hx9
      refine v_aload_n (pc' := 86) 21 0 rfl rfl rfl rfl ?_
      refine v_getZ (pc' := 89) 22 rfl rfl pf_X8_288 hr1198 (lay_lt hr1198 (by decide)) ?_
      refine v_if_eq (tgt := 96) (pc' := 92) 23 rfl rfl (by decide) (fun hc => ?_) (fun hc => ?_)
      · replace h := h.1 hc
        refine v_iconst (v := 0) (pc' := 97) 26 rfl rfl (by decide) ?_
        exact v_iret 27 rfl rfl (by decide) (by decide) ⟨_, rfl, rfl, h⟩
      replace h := h.2 hc
      refine v_iconst (v := 1) (pc' := 93) 24 rfl rfl (by decide) ?_
      refine v_goto (tgt := 97) 25 rfl (by decide) ?_
      exact v_iret 27 rfl rfl (by decide) (by decide) ⟨_, rfl, rfl, h⟩
    | 6, ht9, hj9, hx9 =>
      cases ht9
      replace hx9 := hx9.trans (show Int32.ofInt _ = (6 : Int32) by decide)
      replace h := h.2.2.2.2.2.2.1 hx9
      refine v_aload_n (pc' := 99) 28 0 rfl rfl rfl rfl ?_
      refine v_getI (pc' := 102) 29 rfl rfl pf_X8_292 hr1198 (lay_lt hr1198 (by decide)) ?_
      exact v_iret 30 rfl rfl (by decide) (by decide) ⟨_, rfl, rfl, h⟩
    | 7, ht9, hj9, hx9 =>
      cases ht9
      replace hx9 := hx9.trans (show Int32.ofInt _ = (7 : Int32) by decide)
      replace h := h.2.2.2.2.2.2.2.1 hx9
      refine v_aload_n (pc' := 104) 31 0 rfl rfl rfl rfl ?_
      refine v_getI (pc' := 107) 32 rfl rfl pf_X8_295 hr1198 (lay_lt hr1198 (by decide)) ?_
      exact v_iret 33 rfl rfl (by decide) (by decide) ⟨_, rfl, rfl, h⟩
    | 8, ht9, hj9, hx9 =>
      cases ht9
      replace hx9 := hx9.trans (show Int32.ofInt _ = (8 : Int32) by decide)
      replace h := h.2.2.2.2.2.2.2.2.1 hx9
      refine v_aload_n (pc' := 109) 34 0 rfl rfl rfl rfl ?_
      refine v_aload_n (pc' := 110) 35 0 rfl rfl rfl rfl ?_
      refine v_getI (pc' := 113) 36 rfl rfl pf_X8_295 hr1198 (lay_lt hr1198 (by decide)) ?_
      refine v_cV (Y2 := Y_X3_loserBy) (As := [.int (I r1197 7)]) (b := r1197) (pc' := 116) (c1 := 1) (s1 := 6) 37 rfl rfl mf_X3_loserBy rfl rfl ml_X8_298 mi_X3_loserBy se_X3_loserBy (ci := 2) rfl hr1198 (lay_lt hr1198 (by decide)) rfl (Nat.le_of_ble_eq_true rfl) ⟨Nat.le_of_ble_eq_true rfl, Nat.le_of_ble_eq_true rfl⟩ rfl rfl (ok_X3_loserBy r1197 (I r1197 7) I L hr1198 h) ?_ ?_
      · intro e9 u9 hx9
        exact hx9.elim
      intro v9 u9 hv9
      obtain ⟨r1199, rfl, rfl, h⟩ := hv9
      refine ⟨fun q => absurd q (Nat.lt_irrefl _), ?_⟩
      show V G Y_X8_dispute 116 _ (.int r1199 :: _) _ _ _ _ _
      exact v_iret 38 rfl rfl (by decide) (by decide) ⟨_, rfl, rfl, h⟩
    | 9, ht9, hj9, hx9 =>
      cases ht9
      replace hx9 := hx9.trans (show Int32.ofInt _ = (9 : Int32) by decide)
      replace h := h.2.2.2.2.2.2.2.2.2.1 hx9
      refine v_aload_n (pc' := 118) 39 1 rfl rfl rfl rfl ?_
      refine v_getR (t := b) (pc' := 121) 40 rfl rfl pf_X8_40 ly_0 (lay_lt ly_0 (by decide)) rt_0_5 ?_
      refine v_aload_n (pc' := 122) 41 0 rfl rfl rfl rfl ?_
      refine v_getI (pc' := 125) 42 rfl rfl pf_X8_272 hr1198 (lay_lt hr1198 (by decide)) ?_
      refine v_aload_n (pc' := 126) 43 0 rfl rfl rfl rfl ?_
      refine v_getI (pc' := 129) 44 rfl rfl pf_X8_276 hr1198 (lay_lt hr1198 (by decide)) ?_
      refine v_aload_n (pc' := 130) 45 0 rfl rfl rfl rfl ?_
      refine v_getI (pc' := 133) 46 rfl rfl pf_X8_279 hr1198 (lay_lt hr1198 (by decide)) ?_
      refine v_cV (Y2 := Y_X0_price) (As := [.int (I r1197 0), .int (I r1197 1), .int (I r1197 2)]) (b := b) (pc' := 136) (c1 := 1) (s1 := 6) 47 rfl rfl mf_X0_price rfl rfl ml_X8_261 mi_X0_price se_X0_price (ci := 0) rfl (bn0l hb) (lay_lt (bn0l hb) (by decide)) rfl (Nat.le_of_ble_eq_true rfl) ⟨Nat.le_of_ble_eq_true rfl, Nat.le_of_ble_eq_true rfl⟩ rfl rfl (ok_X0_price b (I r1197 0) (I r1197 1) (I r1197 2) I L hb h) ?_ ?_
      · intro e9 u9 hx9
        exact hx9.elim
      intro v9 u9 hv9
      obtain ⟨r1200, rfl, rfl, h⟩ := hv9
      refine ⟨fun q => absurd q (Nat.lt_irrefl _), ?_⟩
      show V G Y_X8_dispute 136 _ (.int r1200 :: _) _ _ _ _ _
      exact v_iret 48 rfl rfl (by decide) (by decide) ⟨_, rfl, rfl, h⟩
    | q9 + 10, ht9, hj9, hx9 => exact absurd hj9 (by omega)
  replace h := h.2.2.2.2.2.2.2.2.2.2 hc
  exact v_throwX 49 50 51 52 53 rfl rfl (Or.inl ⟨rfl, rfl⟩) rfl rfl tf_X8_136_140 sr_X8_138 rfl (by decide) (Nat.le_of_ble_eq_true rfl) (by decide) (by decide) ⟨rfl, h⟩
set_option maxHeartbeats 4000000 in
set_option maxRecDepth 100000 in
theorem b_X8_disputes_60 {G : GT} {t : Nat} (v1 : Int32) (v2 : Int32) (v3 : Int32) (I : TI) (L : TL) (b : Nat) (d : Nat) (hb : bnOK b) (hd : bnOK d) (Q : Int32 → Prop) (QX : String → Prop) (R24 : Int32 → Int32 → Prop) (hR24 : ∀ (v2 : Int32) (v3 : Int32), R24 v2 v3 → V G Y_X8_disputes 24 [(0, .ref 0), (1, .int v1), (2, .int v2), (3, .int v3)] [] (I, L, RT b d t, 457) 0 0 (fun v9 u9 => ∃ (r9 : Int32), v9 = some (.int r9) ∧ u9 = (I, L, RT b d t, 457) ∧ Q r9) (fun e9 u9 => u9 = (I, L, RT b d t, 457) ∧ QX e9)) (h : B_X8_disputes_60 v1 v2 v3 I L b d Q QX R24) : V G Y_X8_disputes 60 [(0, .ref 0), (1, .int v1), (2, .int v2), (3, .int v3)] [] (I, L, RT b d t, 457) 0 0 (fun v9 u9 => ∃ (r9 : Int32), v9 = some (.int r9) ∧ u9 = (I, L, RT b d t, 457) ∧ Q r9) (fun e9 u9 => u9 = (I, L, RT b d t, 457) ∧ QX e9) := by
  unfold B_X8_disputes_60 at h
  refine v_iinc (v := (v3 + 1)) (ls' := [(3, .int (v3 + 1)), (0, .ref 0), (1, .int v1), (2, .int v2)]) (pc' := 63) 30 3 rfl rfl rfl rfl (by decide) rfl ?_
  refine v_goto (tgt := 24) 31 rfl (by decide) ?_
  refine V.sub [1, 2, 3, 0] rfl ?_
  exact hR24 v2 (v3 + 1) h
set_option maxHeartbeats 4000000 in
set_option maxRecDepth 100000 in
theorem d_X8_disputes_24 {G : GT} {t : Nat} (v1 : Int32) (I : TI) (L : TL) (b : Nat) (d : Nat) (hb : bnOK b) (hd : bnOK d) (Q : Int32 → Prop) (QX : String → Prop) (R24 : Int32 → Int32 → Prop)  (hR24 : ∀ (v2 : Int32) (v3 : Int32), R24 v2 v3 → V G Y_X8_disputes 24 [(0, .ref 0), (1, .int v1), (2, .int v2), (3, .int v3)] [] (I, L, RT b d t, 457) 0 0 (fun v9 u9 => ∃ (r9 : Int32), v9 = some (.int r9) ∧ u9 = (I, L, RT b d t, 457) ∧ Q r9) (fun e9 u9 => u9 = (I, L, RT b d t, 457) ∧ QX e9)) (v2 : Int32) (v3 : Int32)  (h : D_X8_disputes_24 v1 I L b d Q QX R24 v2 v3) : V G Y_X8_disputes 24 [(0, .ref 0), (1, .int v1), (2, .int v2), (3, .int v3)] [] (I, L, RT b d t, 457) 0 0 (fun v9 u9 => ∃ (r9 : Int32), v9 = some (.int r9) ∧ u9 = (I, L, RT b d t, 457) ∧ Q r9) (fun e9 u9 => u9 = (I, L, RT b d t, 457) ∧ QX e9) := by
  unfold D_X8_disputes_24 at h
  refine v_iload_n (pc' := 25) 14 3 rfl rfl rfl rfl ?_
  refine v_aload_n (pc' := 26) 15 0 rfl rfl rfl rfl ?_
  refine v_getR (t := b) (pc' := 29) 16 rfl rfl pf_X8_40 ly_0 (lay_lt ly_0 (by decide)) rt_0_5 ?_
  refine v_getR (t := (b + 6)) (pc' := 32) 17 rfl rfl pf_X8_114 (bn0l hb) (lay_lt (bn0l hb) (by decide)) (rt_bn_1 hb) ?_
  refine v_getI (pc' := 35) 18 rfl rfl pf_X8_129 (bn6l hb) (lay_lt (bn6l hb) (by decide)) ?_
  refine v_icmp_ge (tgt := 66) (pc' := 38) 19 rfl rfl (by decide) (fun hc => ?_) (fun hc => ?_)
  · replace h := h.1 hc
    refine v_iload_n (pc' := 67) 32 2 rfl rfl rfl rfl ?_
    exact v_iret 33 rfl rfl (by decide) (by decide) ⟨_, rfl, rfl, h⟩
  replace h := h.2 hc
  refine v_aload_n (pc' := 39) 20 0 rfl rfl rfl rfl ?_
  refine v_getR (t := b) (pc' := 42) 21 rfl rfl pf_X8_40 ly_0 (lay_lt ly_0 (by decide)) rt_0_5 ?_
  refine v_getR (t := (b + 6)) (pc' := 45) 22 rfl rfl pf_X8_114 (bn0l hb) (lay_lt (bn0l hb) (by decide)) (rt_bn_1 hb) ?_
  refine v_getR (t := (b + 16)) (pc' := 48) 23 rfl rfl pf_X8_251 (bn6l hb) (lay_lt (bn6l hb) (by decide)) (rt_st_6 (bn_st hb)) ?_
  refine v_iload_n (pc' := 49) 24 3 rfl rfl rfl rfl ?_
  obtain ⟨hi1203, h⟩ := h
  refine v_aald5 (i := v3) (r := ((b + 17) + v3.toNatClampNeg)) (j := v3.toNatClampNeg) (pc' := 50) 25 rfl rfl (bn16l hb) (bn16n hb) (lay_lt (bn16l hb) (by decide)) hi1203 rfl (rt_dis (bn_st hb) (vp_nat hi1203)) ?_
  refine v_getI (pc' := 53) 26 rfl rfl pf_X8_292 (st_disl (bn_st hb) (vp_nat hi1203)) (lay_lt (st_disl (bn_st hb) (vp_nat hi1203)) (by decide)) ?_
  refine v_iload_n (pc' := 54) 27 1 rfl rfl rfl rfl ?_
  refine v_icmp_ne (tgt := 60) (pc' := 57) 28 rfl rfl (by decide) (fun hc => ?_) (fun hc => ?_)
  · replace h := h.1 hc
    exact b_X8_disputes_60 v1 v2 v3 I L b d hb hd Q QX R24 hR24 h
  replace h := h.2 hc
  refine v_iinc (v := (v2 + 1)) (ls' := [(2, .int (v2 + 1)), (0, .ref 0), (1, .int v1), (3, .int v3)]) (pc' := 60) 29 2 rfl rfl rfl rfl (by decide) rfl ?_
  refine V.sub [1, 2, 0, 3] rfl ?_
  exact b_X8_disputes_60 v1 (v2 + 1) v3 I L b d hb hd Q QX R24 hR24 h
theorem l_X8_disputes_24 {G : GT} {t : Nat} (v1 : Int32) (I : TI) (L : TL) (b : Nat) (d : Nat) (hb : bnOK b) (hd : bnOK d) (Q : Int32 → Prop) (QX : String → Prop)  : ∀ (n9 : Nat) (v2 : Int32) (v3 : Int32), L_X8_disputes_24 v1 I L b d Q QX n9 v2 v3 → V G Y_X8_disputes 24 [(0, .ref 0), (1, .int v1), (2, .int v2), (3, .int v3)] [] (I, L, RT b d t, 457) 0 0 (fun v9 u9 => ∃ (r9 : Int32), v9 = some (.int r9) ∧ u9 = (I, L, RT b d t, 457) ∧ Q r9) (fun e9 u9 => u9 = (I, L, RT b d t, 457) ∧ QX e9)
  | 0, _, _, h => h.elim
  | n9 + 1, v2, v3, h => d_X8_disputes_24 v1 I L b d hb hd Q QX _ (l_X8_disputes_24 v1 I L b d hb hd Q QX n9) v2 v3 h
set_option maxHeartbeats 4000000 in
set_option maxRecDepth 100000 in
theorem ok_X8_disputes {G : GT} {t : Nat} (p1 : Int32) (I : TI) (L : TL) (b : Nat) (d : Nat) (hb : bnOK b) (hd : bnOK d) {Q : Int32 → Prop} {QX : String → Prop} (h : W_X8_disputes p1 I L b d Q QX) : MW G Y_X8_disputes [.ref 0, .int p1] (I, L, RT b d t, 457) (fun v9 u9 => ∃ (r9 : Int32), v9 = some (.int r9) ∧ u9 = (I, L, RT b d t, 457) ∧ Q r9) (fun e9 u9 => u9 = (I, L, RT b d t, 457) ∧ QX e9) := by
  unfold W_X8_disputes at h
  refine MW.intro rfl (by decide) is_X8_disputes (Nat.le_of_ble_eq_true rfl) ?_
  show V G Y_X8_disputes 0 [(0, .ref 0), (1, .int p1)] [] (I, L, RT b d t, 457) 0 0 _ _
  refine v_iload_n (pc' := 1) 0 1 rfl rfl rfl rfl ?_
  refine v_if_lt (tgt := 9) (pc' := 4) 1 rfl rfl (by decide) (fun hc => ?_) (fun hc => ?_)
  · replace h := h.1 hc
    exact v_throwW 5 6 7 8 9 rfl rfl rfl rfl rfl tf_X8_61_65 sr_X8_301 rfl (by decide) (Nat.le_of_ble_eq_true rfl) (by decide) (by decide) ⟨rfl, h⟩
  replace h := h.2 hc
  refine v_iload_n (pc' := 5) 2 1 rfl rfl rfl rfl ?_
  refine v_iconst (v := 4) (pc' := 6) 3 rfl rfl (by decide) ?_
  refine v_icmp_le (tgt := 20) (pc' := 9) 4 rfl rfl (by decide) (fun hc => ?_) (fun hc => ?_)
  · replace h := h.1 hc
    refine v_iconst (v := 0) (pc' := 21) 10 rfl rfl (by decide) ?_
    refine v_istore_n (ls' := [(2, .int 0), (0, .ref 0), (1, .int p1)]) (pc' := 22) 11 rfl rfl rfl (by decide) rfl ?_
    refine v_iconst (v := 0) (pc' := 23) 12 rfl rfl (by decide) ?_
    refine v_istore_n (ls' := [(3, .int 0), (2, .int 0), (0, .ref 0), (1, .int p1)]) (pc' := 24) 13 rfl rfl rfl (by decide) rfl ?_
    refine V.sub [2, 3, 1, 0] rfl ?_
    obtain ⟨n1204, h⟩ := h
    exact l_X8_disputes_24 p1 I L b d hb hd Q QX n1204 (0 : Int32) (0 : Int32) h
  replace h := h.2 hc
  exact v_throwW 5 6 7 8 9 rfl rfl rfl rfl rfl tf_X8_61_65 sr_X8_301 rfl (by decide) (Nat.le_of_ble_eq_true rfl) (by decide) (by decide) ⟨rfl, h⟩
set_option maxHeartbeats 4000000 in
set_option maxRecDepth 100000 in
theorem ok_X8_cost {G : GT} {t : Nat} (p1 : Int32) (p2 : Int32) (p3 : Int32) (I : TI) (L : TL) (b : Nat) (d : Nat) (hb : bnOK b) (hd : bnOK d) {Q : Int32 → Prop} {QX : String → Prop} (h : W_X8_cost p1 p2 p3 I L b d Q QX) : MW G Y_X8_cost [.ref 0, .int p1, .int p2, .int p3] (I, L, RT b d t, 457) (fun v9 u9 => ∃ (r9 : Int32), v9 = some (.int r9) ∧ u9 = (I, L, RT b d t, 457) ∧ Q r9) (fun e9 u9 => u9 = (I, L, RT b d t, 457) ∧ QX e9) := by
  unfold W_X8_cost at h
  refine MW.intro rfl (by decide) is_X8_cost (Nat.le_of_ble_eq_true rfl) ?_
  show V G Y_X8_cost 0 [(0, .ref 0), (1, .int p1), (2, .int p2), (3, .int p3)] [] (I, L, RT b d t, 457) 0 0 _ _
  refine v_aload_n (pc' := 1) 0 0 rfl rfl rfl rfl ?_
  refine v_iload_n (pc' := 2) 1 1 rfl rfl rfl rfl ?_
  refine v_cV (Y2 := Y_X8_requireGate) (As := [.int p1]) (b := 0) (pc' := 5) (c1 := 1) (s1 := 6) 2 rfl rfl mf_X8_requireGate rfl rfl ml_X8_141 mi_X8_requireGate se_X8_requireGate (ci := 7) rfl ly_0 (lay_lt ly_0 (by decide)) rfl (Nat.le_of_ble_eq_true rfl) ⟨Nat.le_of_ble_eq_true rfl, Nat.le_of_ble_eq_true rfl⟩ rfl rfl (ok_X8_requireGate p1 I L b d hb hd h) ?_ ?_
  · intro e9 u9 hx9
    obtain ⟨rfl, hx9⟩ := hx9
    exact vx_leave rfl (by decide) (by decide) ⟨rfl, hx9⟩
  intro v9 u9 hv9
  obtain ⟨rfl, rfl, h⟩ := hv9
  refine ⟨fun q => absurd q (Nat.lt_irrefl _), ?_⟩
  show V G Y_X8_cost 5 _ _ _ _ _ _ _
  refine v_aload_n (pc' := 6) 3 0 rfl rfl rfl rfl ?_
  refine v_iload_n (pc' := 7) 4 2 rfl rfl rfl rfl ?_
  refine v_iload_n (pc' := 8) 5 3 rfl rfl rfl rfl ?_
  refine v_cV (Y2 := Y_X8_requireTimes) (As := [.int p2, .int p3]) (b := 0) (pc' := 11) (c1 := 2) (s1 := 12) 6 rfl rfl mf_X8_requireTimes rfl rfl ml_X8_302 mi_X8_requireTimes se_X8_requireTimes (ci := 7) rfl ly_0 (lay_lt ly_0 (by decide)) rfl (Nat.le_of_ble_eq_true rfl) ⟨Nat.le_of_ble_eq_true rfl, Nat.le_of_ble_eq_true rfl⟩ rfl rfl (ok_X8_requireTimes p2 p3 I L b d hb hd h) ?_ ?_
  · intro e9 u9 hx9
    obtain ⟨rfl, hx9⟩ := hx9
    exact vx_leave rfl (by decide) (by decide) ⟨rfl, hx9⟩
  intro v9 u9 hv9
  obtain ⟨rfl, rfl, h⟩ := hv9
  refine ⟨fun q => absurd q (Nat.lt_irrefl _), ?_⟩
  show V G Y_X8_cost 11 _ _ _ _ _ _ _
  refine v_aload_n (pc' := 12) 7 0 rfl rfl rfl rfl ?_
  refine v_getR (t := b) (pc' := 15) 8 rfl rfl pf_X8_40 ly_0 (lay_lt ly_0 (by decide)) rt_0_5 ?_
  refine v_iload_n (pc' := 16) 9 1 rfl rfl rfl rfl ?_
  refine v_iload_n (pc' := 17) 10 2 rfl rfl rfl rfl ?_
  refine v_iload_n (pc' := 18) 11 3 rfl rfl rfl rfl ?_
  refine v_cV (Y2 := Y_X0_price) (As := [.int p1, .int p2, .int p3]) (b := b) (pc' := 21) (c1 := 2) (s1 := 12) 12 rfl rfl mf_X0_price rfl rfl ml_X8_261 mi_X0_price se_X0_price (ci := 0) rfl (bn0l hb) (lay_lt (bn0l hb) (by decide)) rfl (Nat.le_of_ble_eq_true rfl) ⟨Nat.le_of_ble_eq_true rfl, Nat.le_of_ble_eq_true rfl⟩ rfl rfl (ok_X0_price b p1 p2 p3 I L hb h) ?_ ?_
  · intro e9 u9 hx9
    exact hx9.elim
  intro v9 u9 hv9
  obtain ⟨r1206, rfl, rfl, h⟩ := hv9
  refine ⟨fun q => absurd q (Nat.lt_irrefl _), ?_⟩
  show V G Y_X8_cost 21 _ (.int r1206 :: _) _ _ _ _ _
  exact v_iret 13 rfl rfl (by decide) (by decide) ⟨_, rfl, rfl, h⟩
set_option maxHeartbeats 4000000 in
set_option maxRecDepth 100000 in
theorem ok_X8_gain {G : GT} {t : Nat} (p1 : Int32) (p2 : Int32) (p3 : Int32) (I : TI) (L : TL) (b : Nat) (d : Nat) (hb : bnOK b) (hd : bnOK d) {Q : Int32 → TL → Prop} {QX : String → TL → Prop} (h : W_X8_gain p1 p2 p3 I L b d Q QX) : MW G Y_X8_gain [.ref 0, .int p1, .int p2, .int p3] (I, L, RT b d t, 457) (fun v9 u9 => ∃ (r9 : Int32) (L9 : TL), v9 = some (.int r9) ∧ u9 = (I, L9, RT b d t, 457) ∧ Q r9 L9) (fun e9 u9 => ∃ (L9 : TL), u9 = (I, L9, RT b d t, 457) ∧ QX e9 L9) := by
  unfold W_X8_gain at h
  refine MW.intro rfl (by decide) is_X8_gain (Nat.le_of_ble_eq_true rfl) ?_
  show V G Y_X8_gain 0 [(0, .ref 0), (1, .int p1), (2, .int p2), (3, .int p3)] [] (I, L, RT b d t, 457) 0 0 _ _
  refine v_aload_n (pc' := 1) 0 0 rfl rfl rfl rfl ?_
  refine v_iload_n (pc' := 2) 1 1 rfl rfl rfl rfl ?_
  refine v_cV (Y2 := Y_X8_requireGate) (As := [.int p1]) (b := 0) (pc' := 5) (c1 := 1) (s1 := 6) 2 rfl rfl mf_X8_requireGate rfl rfl ml_X8_141 mi_X8_requireGate se_X8_requireGate (ci := 7) rfl ly_0 (lay_lt ly_0 (by decide)) rfl (Nat.le_of_ble_eq_true rfl) ⟨Nat.le_of_ble_eq_true rfl, Nat.le_of_ble_eq_true rfl⟩ rfl rfl (ok_X8_requireGate p1 I L b d hb hd h) ?_ ?_
  · intro e9 u9 hx9
    obtain ⟨rfl, hx9⟩ := hx9
    exact vx_leave rfl (by decide) (by decide) ⟨_, rfl, hx9⟩
  intro v9 u9 hv9
  obtain ⟨rfl, rfl, h⟩ := hv9
  refine ⟨fun q => absurd q (Nat.lt_irrefl _), ?_⟩
  show V G Y_X8_gain 5 _ _ _ _ _ _ _
  refine v_aload_n (pc' := 6) 3 0 rfl rfl rfl rfl ?_
  refine v_iload_n (pc' := 7) 4 2 rfl rfl rfl rfl ?_
  refine v_iload_n (pc' := 8) 5 3 rfl rfl rfl rfl ?_
  refine v_cV (Y2 := Y_X8_requireTimes) (As := [.int p2, .int p3]) (b := 0) (pc' := 11) (c1 := 2) (s1 := 12) 6 rfl rfl mf_X8_requireTimes rfl rfl ml_X8_302 mi_X8_requireTimes se_X8_requireTimes (ci := 7) rfl ly_0 (lay_lt ly_0 (by decide)) rfl (Nat.le_of_ble_eq_true rfl) ⟨Nat.le_of_ble_eq_true rfl, Nat.le_of_ble_eq_true rfl⟩ rfl rfl (ok_X8_requireTimes p2 p3 I L b d hb hd h) ?_ ?_
  · intro e9 u9 hx9
    obtain ⟨rfl, hx9⟩ := hx9
    exact vx_leave rfl (by decide) (by decide) ⟨_, rfl, hx9⟩
  intro v9 u9 hv9
  obtain ⟨rfl, rfl, h⟩ := hv9
  refine ⟨fun q => absurd q (Nat.lt_irrefl _), ?_⟩
  show V G Y_X8_gain 11 _ _ _ _ _ _ _
  refine v_aload_n (pc' := 12) 7 0 rfl rfl rfl rfl ?_
  refine v_getR (t := b) (pc' := 15) 8 rfl rfl pf_X8_40 ly_0 (lay_lt ly_0 (by decide)) rt_0_5 ?_
  refine v_iload_n (pc' := 16) 9 1 rfl rfl rfl rfl ?_
  refine v_iload_n (pc' := 17) 10 2 rfl rfl rfl rfl ?_
  refine v_iload_n (pc' := 18) 11 3 rfl rfl rfl rfl ?_
  refine v_cV (Y2 := Y_X0_gainOf) (As := [.int p1, .int p2, .int p3]) (b := b) (pc' := 21) (c1 := 2) (s1 := 12) 12 rfl rfl mf_X0_gainOf rfl rfl ml_X8_306 mi_X0_gainOf se_X0_gainOf (ci := 0) rfl (bn0l hb) (lay_lt (bn0l hb) (by decide)) rfl (Nat.le_of_ble_eq_true rfl) ⟨Nat.le_of_ble_eq_true rfl, Nat.le_of_ble_eq_true rfl⟩ rfl rfl (ok_X0_gainOf b p1 p2 p3 I L hb h) ?_ ?_
  · intro e9 u9 hx9
    exact hx9.elim
  intro v9 u9 hv9
  obtain ⟨r1209, L1210, rfl, rfl, h⟩ := hv9
  refine ⟨fun q => absurd q (Nat.lt_irrefl _), ?_⟩
  show V G Y_X8_gain 21 _ (.int r1209 :: _) _ _ _ _ _
  exact v_iret 13 rfl rfl (by decide) (by decide) ⟨_, _, rfl, rfl, h⟩
set_option maxHeartbeats 4000000 in
set_option maxRecDepth 100000 in
theorem b_X8_bestReplay_169 {G : GT} {t : Nat} (v1 : Int32) (v2 : Int32) (v3 : Int32) (v4 : Int32) (v5 : Int32) (v6 : Int32) (I : TI) (L : TL) (b : Nat) (d : Nat) (hb : bnOK b) (hd : bnOK d) (Q : Int32 → TL → Prop) (R18 : Int32 → Int32 → Int32 → Int32 → TL → Prop) (R47 : Int32 → Int32 → Int32 → Int32 → TL → Prop) (hR18 : ∀ (v1 : Int32) (v2 : Int32) (v3 : Int32) (v4 : Int32) (L : TL), R18 v1 v2 v3 v4 L → V G Y_X8_bestReplay 18 [(0, .ref 0), (1, .int v1), (2, .int v2), (3, .int v3), (4, .int v4)] [] (I, L, RT b d t, 457) 0 0 (fun v9 u9 => ∃ (r9 : Int32) (L9 : TL), v9 = some (.int r9) ∧ u9 = (I, L9, RT b d t, 457) ∧ Q r9 L9) (fun _ _ => False)) (hR47 : ∀ (v1 : Int32) (v2 : Int32) (v3 : Int32) (v6 : Int32) (L : TL), R47 v1 v2 v3 v6 L → V G Y_X8_bestReplay 47 [(0, .ref 0), (1, .int v1), (2, .int v2), (3, .int v3), (4, .int v4), (5, .int v5), (6, .int v6)] [] (I, L, RT b d t, 457) 0 0 (fun v9 u9 => ∃ (r9 : Int32) (L9 : TL), v9 = some (.int r9) ∧ u9 = (I, L9, RT b d t, 457) ∧ Q r9 L9) (fun _ _ => False)) (h : B_X8_bestReplay_169 v1 v2 v3 v4 v5 v6 I L b d Q R18 R47) : V G Y_X8_bestReplay 169 [(0, .ref 0), (1, .int v1), (2, .int v2), (3, .int v3), (4, .int v4), (5, .int v5), (6, .int v6)] [] (I, L, RT b d t, 457) 0 0 (fun v9 u9 => ∃ (r9 : Int32) (L9 : TL), v9 = some (.int r9) ∧ u9 = (I, L9, RT b d t, 457) ∧ Q r9 L9) (fun _ _ => False) := by
  unfold B_X8_bestReplay_169 at h
  refine v_iinc (v := (v6 + 1)) (ls' := [(6, .int (v6 + 1)), (0, .ref 0), (1, .int v1), (2, .int v2), (3, .int v3), (4, .int v4), (5, .int v5)]) (pc' := 172) 84 6 rfl rfl rfl rfl (by decide) rfl ?_
  refine v_goto (tgt := 47) 85 rfl (by decide) ?_
  refine V.sub [1, 2, 3, 4, 5, 6, 0] rfl ?_
  exact hR47 v1 v2 v3 (v6 + 1) L h
set_option maxHeartbeats 4000000 in
set_option maxRecDepth 100000 in
theorem b_X8_bestReplay_154 {G : GT} {t : Nat} (v4 : Int32) (v5 : Int32) (v6 : Int32) (v9 : Int32) (v10 : Int32) (I : TI) (L : TL) (b : Nat) (d : Nat) (hb : bnOK b) (hd : bnOK d) (Q : Int32 → TL → Prop) (R18 : Int32 → Int32 → Int32 → Int32 → TL → Prop) (R47 : Int32 → Int32 → Int32 → Int32 → TL → Prop) (hR18 : ∀ (v1 : Int32) (v2 : Int32) (v3 : Int32) (v4 : Int32) (L : TL), R18 v1 v2 v3 v4 L → V G Y_X8_bestReplay 18 [(0, .ref 0), (1, .int v1), (2, .int v2), (3, .int v3), (4, .int v4)] [] (I, L, RT b d t, 457) 0 0 (fun v9 u9 => ∃ (r9 : Int32) (L9 : TL), v9 = some (.int r9) ∧ u9 = (I, L9, RT b d t, 457) ∧ Q r9 L9) (fun _ _ => False)) (hR47 : ∀ (v1 : Int32) (v2 : Int32) (v3 : Int32) (v6 : Int32) (L : TL), R47 v1 v2 v3 v6 L → V G Y_X8_bestReplay 47 [(0, .ref 0), (1, .int v1), (2, .int v2), (3, .int v3), (4, .int v4), (5, .int v5), (6, .int v6)] [] (I, L, RT b d t, 457) 0 0 (fun v9 u9 => ∃ (r9 : Int32) (L9 : TL), v9 = some (.int r9) ∧ u9 = (I, L9, RT b d t, 457) ∧ Q r9 L9) (fun _ _ => False)) (h : B_X8_bestReplay_154 v4 v5 v6 v9 v10 I L b d Q R18 R47) : V G Y_X8_bestReplay 154 [(0, .ref 0), (4, .int v4), (5, .int v5), (6, .int v6), (9, .int v9), (10, .int v10)] [] (I, L, RT b d t, 457) 0 0 (fun v9 u9 => ∃ (r9 : Int32) (L9 : TL), v9 = some (.int r9) ∧ u9 = (I, L9, RT b d t, 457) ∧ Q r9 L9) (fun _ _ => False) := by
  unfold B_X8_bestReplay_154 at h
  refine v_bipush (v := 100) (pc' := 156) 74 rfl rfl (by decide) ?_
  refine v_iload (pc' := 158) 75 1 rfl rfl rfl ?_
  refine v_imul (pc' := 159) 76 rfl rfl ?_
  refine v_iload (pc' := 161) 77 3 rfl rfl rfl ?_
  refine v_iadd (pc' := 162) 78 rfl rfl ?_
  refine v_istore_n (ls' := [(1, .int (((100 : Int32) * v4) + v6)), (0, .ref 0), (4, .int v4), (5, .int v5), (6, .int v6), (9, .int v9), (10, .int v10)]) (pc' := 163) 79 rfl rfl rfl (by decide) rfl ?_
  refine v_iload (pc' := 165) 80 6 rfl rfl rfl ?_
  refine v_istore_n (ls' := [(2, .int v10), (1, .int (((100 : Int32) * v4) + v6)), (0, .ref 0), (4, .int v4), (5, .int v5), (6, .int v6), (9, .int v9), (10, .int v10)]) (pc' := 166) 81 rfl rfl rfl (by decide) rfl ?_
  refine v_iload (pc' := 168) 82 6 rfl rfl rfl ?_
  refine v_istore_n (ls' := [(3, .int v9), (2, .int v10), (1, .int (((100 : Int32) * v4) + v6)), (0, .ref 0), (4, .int v4), (5, .int v5), (6, .int v6), (9, .int v9), (10, .int v10)]) (pc' := 169) 83 rfl rfl rfl (by decide) rfl ?_
  refine V.sub [3, 2, 1, 0, 4, 5, 6] rfl ?_
  exact b_X8_bestReplay_169 (((100 : Int32) * v4) + v6) v10 v9 v4 v5 v6 I L b d hb hd Q R18 R47 hR18 hR47 h
set_option maxHeartbeats 4000000 in
set_option maxRecDepth 100000 in
theorem b_X8_bestReplay_129 {G : GT} {t : Nat} (v1 : Int32) (v2 : Int32) (v3 : Int32) (v4 : Int32) (v5 : Int32) (v6 : Int32) (v9 : Int32) (s0 : Int32) (I : TI) (L : TL) (b : Nat) (d : Nat) (hb : bnOK b) (hd : bnOK d) (Q : Int32 → TL → Prop) (R18 : Int32 → Int32 → Int32 → Int32 → TL → Prop) (R47 : Int32 → Int32 → Int32 → Int32 → TL → Prop) (hR18 : ∀ (v1 : Int32) (v2 : Int32) (v3 : Int32) (v4 : Int32) (L : TL), R18 v1 v2 v3 v4 L → V G Y_X8_bestReplay 18 [(0, .ref 0), (1, .int v1), (2, .int v2), (3, .int v3), (4, .int v4)] [] (I, L, RT b d t, 457) 0 0 (fun v9 u9 => ∃ (r9 : Int32) (L9 : TL), v9 = some (.int r9) ∧ u9 = (I, L9, RT b d t, 457) ∧ Q r9 L9) (fun _ _ => False)) (hR47 : ∀ (v1 : Int32) (v2 : Int32) (v3 : Int32) (v6 : Int32) (L : TL), R47 v1 v2 v3 v6 L → V G Y_X8_bestReplay 47 [(0, .ref 0), (1, .int v1), (2, .int v2), (3, .int v3), (4, .int v4), (5, .int v5), (6, .int v6)] [] (I, L, RT b d t, 457) 0 0 (fun v9 u9 => ∃ (r9 : Int32) (L9 : TL), v9 = some (.int r9) ∧ u9 = (I, L9, RT b d t, 457) ∧ Q r9 L9) (fun _ _ => False)) (h : B_X8_bestReplay_129 v1 v2 v3 v4 v5 v6 v9 s0 I L b d Q R18 R47) : V G Y_X8_bestReplay 129 [(0, .ref 0), (1, .int v1), (2, .int v2), (3, .int v3), (4, .int v4), (5, .int v5), (6, .int v6), (9, .int v9)] [.int s0] (I, L, RT b d t, 457) 0 0 (fun v9 u9 => ∃ (r9 : Int32) (L9 : TL), v9 = some (.int r9) ∧ u9 = (I, L9, RT b d t, 457) ∧ Q r9 L9) (fun _ _ => False) := by
  unfold B_X8_bestReplay_129 at h
  refine v_istore (ls' := [(10, .int s0), (0, .ref 0), (1, .int v1), (2, .int v2), (3, .int v3), (4, .int v4), (5, .int v5), (6, .int v6), (9, .int v9)]) (pc' := 131) 62 rfl rfl (by decide) rfl ?_
  refine v_iload (pc' := 133) 63 0 rfl rfl rfl ?_
  refine v_iload_n (pc' := 134) 64 3 rfl rfl rfl rfl ?_
  refine v_icmp_gt (tgt := 154) (pc' := 137) 65 rfl rfl (by decide) (fun hc => ?_) (fun hc => ?_)
  · replace h := h.1 hc
    refine V.sub [1, 5, 6, 7, 8, 0] rfl ?_
    exact b_X8_bestReplay_154 v4 v5 v6 v9 s0 I L b d hb hd Q R18 R47 hR18 hR47 h
  replace h := h.2 hc
  refine v_iload (pc' := 139) 66 0 rfl rfl rfl ?_
  refine v_if_le (tgt := 169) (pc' := 142) 67 rfl rfl (by decide) (fun hc => ?_) (fun hc => ?_)
  · replace h := h.1 hc
    refine V.sub [1, 2, 3, 4, 5, 6, 7] rfl ?_
    exact b_X8_bestReplay_169 v1 v2 v3 v4 v5 v6 I L b d hb hd Q R18 R47 hR18 hR47 h
  replace h := h.2 hc
  refine v_iload (pc' := 144) 68 0 rfl rfl rfl ?_
  refine v_iload_n (pc' := 145) 69 3 rfl rfl rfl rfl ?_
  refine v_icmp_ne (tgt := 169) (pc' := 148) 70 rfl rfl (by decide) (fun hc => ?_) (fun hc => ?_)
  · replace h := h.1 hc
    refine V.sub [1, 2, 3, 4, 5, 6, 7] rfl ?_
    exact b_X8_bestReplay_169 v1 v2 v3 v4 v5 v6 I L b d hb hd Q R18 R47 hR18 hR47 h
  replace h := h.2 hc
  refine v_iload (pc' := 150) 71 8 rfl rfl rfl ?_
  refine v_iload_n (pc' := 151) 72 4 rfl rfl rfl rfl ?_
  refine v_icmp_ge (tgt := 169) (pc' := 154) 73 rfl rfl (by decide) (fun hc => ?_) (fun hc => ?_)
  · replace h := h.1 hc
    refine V.sub [1, 2, 3, 4, 5, 6, 7] rfl ?_
    exact b_X8_bestReplay_169 v1 v2 v3 v4 v5 v6 I L b d hb hd Q R18 R47 hR18 hR47 h
  replace h := h.2 hc
  refine V.sub [1, 5, 6, 7, 8, 0] rfl ?_
  exact b_X8_bestReplay_154 v4 v5 v6 v9 s0 I L b d hb hd Q R18 R47 hR18 hR47 h
set_option maxHeartbeats 4000000 in
set_option maxRecDepth 100000 in
theorem d_X8_bestReplay_47 {G : GT} {t : Nat} (v4 : Int32) (v5 : Int32) (I : TI) (b : Nat) (d : Nat) (hb : bnOK b) (hd : bnOK d) (Q : Int32 → TL → Prop) (R18 : Int32 → Int32 → Int32 → Int32 → TL → Prop) (R47 : Int32 → Int32 → Int32 → Int32 → TL → Prop) (hR18 : ∀ (v1 : Int32) (v2 : Int32) (v3 : Int32) (v4 : Int32) (L : TL), R18 v1 v2 v3 v4 L → V G Y_X8_bestReplay 18 [(0, .ref 0), (1, .int v1), (2, .int v2), (3, .int v3), (4, .int v4)] [] (I, L, RT b d t, 457) 0 0 (fun v9 u9 => ∃ (r9 : Int32) (L9 : TL), v9 = some (.int r9) ∧ u9 = (I, L9, RT b d t, 457) ∧ Q r9 L9) (fun _ _ => False)) (hR47 : ∀ (v1 : Int32) (v2 : Int32) (v3 : Int32) (v6 : Int32) (L : TL), R47 v1 v2 v3 v6 L → V G Y_X8_bestReplay 47 [(0, .ref 0), (1, .int v1), (2, .int v2), (3, .int v3), (4, .int v4), (5, .int v5), (6, .int v6)] [] (I, L, RT b d t, 457) 0 0 (fun v9 u9 => ∃ (r9 : Int32) (L9 : TL), v9 = some (.int r9) ∧ u9 = (I, L9, RT b d t, 457) ∧ Q r9 L9) (fun _ _ => False)) (v1 : Int32) (v2 : Int32) (v3 : Int32) (v6 : Int32) (L : TL)  (h : D_X8_bestReplay_47 v4 v5 I b d Q R18 R47 v1 v2 v3 v6 L) : V G Y_X8_bestReplay 47 [(0, .ref 0), (1, .int v1), (2, .int v2), (3, .int v3), (4, .int v4), (5, .int v5), (6, .int v6)] [] (I, L, RT b d t, 457) 0 0 (fun v9 u9 => ∃ (r9 : Int32) (L9 : TL), v9 = some (.int r9) ∧ u9 = (I, L9, RT b d t, 457) ∧ Q r9 L9) (fun _ _ => False) := by
  unfold D_X8_bestReplay_47 at h
  refine v_iload (pc' := 49) 24 6 rfl rfl rfl ?_
  refine v_iload (pc' := 51) 25 5 rfl rfl rfl ?_
  refine v_icmp_ge (tgt := 175) (pc' := 54) 26 rfl rfl (by decide) (fun hc => ?_) (fun hc => ?_)
  · replace h := h.1 hc
    refine v_iinc (v := (v4 + 1)) (ls' := [(4, .int (v4 + 1)), (0, .ref 0), (1, .int v1), (2, .int v2), (3, .int v3), (5, .int v5), (6, .int v6)]) (pc' := 178) 86 4 rfl rfl rfl rfl (by decide) rfl ?_
    refine v_goto (tgt := 18) 87 rfl (by decide) ?_
    refine V.sub [1, 2, 3, 4, 0] rfl ?_
    exact hR18 v1 v2 v3 (v4 + 1) L h
  replace h := h.2 hc
  refine v_aload_n (pc' := 55) 27 0 rfl rfl rfl rfl ?_
  refine v_getR (t := b) (pc' := 58) 28 rfl rfl pf_X8_40 ly_0 (lay_lt ly_0 (by decide)) rt_0_5 ?_
  refine v_iload (pc' := 60) 29 4 rfl rfl rfl ?_
  refine v_iload (pc' := 62) 30 6 rfl rfl rfl ?_
  refine v_cV (Y2 := Y_X0_pulseStart) (As := [.int v4, .int v6]) (b := b) (pc' := 65) (c1 := 0) (s1 := 0) 31 rfl rfl mf_X0_pulseStart rfl rfl ml_X8_244 mi_X0_pulseStart se_X0_pulseStart (ci := 0) rfl (bn0l hb) (lay_lt (bn0l hb) (by decide)) rfl (Nat.le_of_ble_eq_true rfl) ⟨Nat.le_of_ble_eq_true rfl, Nat.le_of_ble_eq_true rfl⟩ rfl rfl (ok_X0_pulseStart b v4 v6 I L hb h) ?_ ?_
  · intro e9 u9 hx9
    exact hx9.elim
  intro v9 u9 hv9
  obtain ⟨r1234, rfl, rfl, h⟩ := hv9
  refine ⟨fun q => absurd q (Nat.lt_irrefl _), ?_⟩
  show V G Y_X8_bestReplay 65 _ (.int r1234 :: _) _ _ _ _ _
  refine v_istore (ls' := [(7, .int r1234), (0, .ref 0), (1, .int v1), (2, .int v2), (3, .int v3), (4, .int v4), (5, .int v5), (6, .int v6)]) (pc' := 67) 32 rfl rfl (by decide) rfl ?_
  refine v_aload_n (pc' := 68) 33 1 rfl rfl rfl rfl ?_
  refine v_getR (t := b) (pc' := 71) 34 rfl rfl pf_X8_40 ly_0 (lay_lt ly_0 (by decide)) rt_0_5 ?_
  refine v_iload (pc' := 73) 35 5 rfl rfl rfl ?_
  refine v_iload (pc' := 75) 36 0 rfl rfl rfl ?_
  refine v_cV (Y2 := Y_X0_runEnd) (As := [.int v4, .int r1234]) (b := b) (pc' := 78) (c1 := 0) (s1 := 0) 37 rfl rfl mf_X0_runEnd rfl rfl ml_X8_258 mi_X0_runEnd se_X0_runEnd (ci := 0) rfl (bn0l hb) (lay_lt (bn0l hb) (by decide)) rfl (Nat.le_of_ble_eq_true rfl) ⟨Nat.le_of_ble_eq_true rfl, Nat.le_of_ble_eq_true rfl⟩ rfl rfl (ok_X0_runEnd b v4 r1234 I L hb h) ?_ ?_
  · intro e9 u9 hx9
    exact hx9.elim
  intro v9 u9 hv9
  obtain ⟨r1235, rfl, rfl, h⟩ := hv9
  refine ⟨fun q => absurd q (Nat.lt_irrefl _), ?_⟩
  show V G Y_X8_bestReplay 78 _ (.int r1235 :: _) _ _ _ _ _
  refine v_istore (ls' := [(8, .int r1235), (7, .int r1234), (0, .ref 0), (1, .int v1), (2, .int v2), (3, .int v3), (4, .int v4), (5, .int v5), (6, .int v6)]) (pc' := 80) 38 rfl rfl (by decide) rfl ?_
  refine v_aload_n (pc' := 81) 39 2 rfl rfl rfl rfl ?_
  refine v_getR (t := b) (pc' := 84) 40 rfl rfl pf_X8_40 ly_0 (lay_lt ly_0 (by decide)) rt_0_5 ?_
  refine v_iload (pc' := 86) 41 6 rfl rfl rfl ?_
  refine v_iload (pc' := 88) 42 1 rfl rfl rfl ?_
  refine v_iload (pc' := 90) 43 0 rfl rfl rfl ?_
  refine v_cV (Y2 := Y_X0_price) (As := [.int v4, .int r1234, .int r1235]) (b := b) (pc' := 93) (c1 := 0) (s1 := 0) 44 rfl rfl mf_X0_price rfl rfl ml_X8_261 mi_X0_price se_X0_price (ci := 0) rfl (bn0l hb) (lay_lt (bn0l hb) (by decide)) rfl (Nat.le_of_ble_eq_true rfl) ⟨Nat.le_of_ble_eq_true rfl, Nat.le_of_ble_eq_true rfl⟩ rfl rfl (ok_X0_price b v4 r1234 r1235 I L hb h) ?_ ?_
  · intro e9 u9 hx9
    exact hx9.elim
  intro v9 u9 hv9
  obtain ⟨r1236, rfl, rfl, h⟩ := hv9
  refine ⟨fun q => absurd q (Nat.lt_irrefl _), ?_⟩
  show V G Y_X8_bestReplay 93 _ (.int r1236 :: _) _ _ _ _ _
  refine v_istore (ls' := [(9, .int r1236), (8, .int r1235), (7, .int r1234), (0, .ref 0), (1, .int v1), (2, .int v2), (3, .int v3), (4, .int v4), (5, .int v5), (6, .int v6)]) (pc' := 95) 45 rfl rfl (by decide) rfl ?_
  refine v_iload (pc' := 97) 46 0 rfl rfl rfl ?_
  refine v_aload_n (pc' := 98) 47 3 rfl rfl rfl rfl ?_
  refine v_getR (t := b) (pc' := 101) 48 rfl rfl pf_X8_40 ly_0 (lay_lt ly_0 (by decide)) rt_0_5 ?_
  refine v_getR (t := (b + 6)) (pc' := 104) 49 rfl rfl pf_X8_114 (bn0l hb) (lay_lt (bn0l hb) (by decide)) (rt_bn_1 hb) ?_
  refine v_getR (t := (b + 15)) (pc' := 107) 50 rfl rfl pf_X8_132 (bn6l hb) (lay_lt (bn6l hb) (by decide)) (rt_st_5 (bn_st hb)) ?_
  refine v_iconst (v := 2) (pc' := 108) 51 rfl rfl (by decide) ?_
  refine v_iald (i := 2) (j := 2) (pc' := 109) 52 rfl rfl (bn15l hb) (bn15n hb) (lay_lt (bn15l hb) (by decide)) (vp_lit (by decide)) (by decide) ?_
  refine v_icmp_le (tgt := 116) (pc' := 112) 53 rfl rfl (by decide) (fun hc => ?_) (fun hc => ?_)
  · replace h := h.1 hc
    refine v_aload_n (pc' := 117) 56 3 rfl rfl rfl rfl ?_
    refine v_getR (t := b) (pc' := 120) 57 rfl rfl pf_X8_40 ly_0 (lay_lt ly_0 (by decide)) rt_0_5 ?_
    refine v_iload (pc' := 122) 58 7 rfl rfl rfl ?_
    refine v_iload (pc' := 124) 59 2 rfl rfl rfl ?_
    refine v_iload (pc' := 126) 60 1 rfl rfl rfl ?_
    refine v_cV (Y2 := Y_X0_gainOf) (As := [.int v4, .int r1234, .int r1235]) (b := b) (pc' := 129) (c1 := 0) (s1 := 0) 61 rfl rfl mf_X0_gainOf rfl rfl ml_X8_306 mi_X0_gainOf se_X0_gainOf (ci := 0) rfl (bn0l hb) (lay_lt (bn0l hb) (by decide)) rfl (Nat.le_of_ble_eq_true rfl) ⟨Nat.le_of_ble_eq_true rfl, Nat.le_of_ble_eq_true rfl⟩ rfl rfl (ok_X0_gainOf b v4 r1234 r1235 I L hb h) ?_ ?_
    · intro e9 u9 hx9
      exact hx9.elim
    intro v9 u9 hv9
    obtain ⟨r1237, L1238, rfl, rfl, h⟩ := hv9
    refine ⟨fun q => absurd q (Nat.lt_irrefl _), ?_⟩
    show V G Y_X8_bestReplay 129 _ (.int r1237 :: _) _ _ _ _ _
    refine V.sub [3, 4, 5, 6, 7, 8, 9, 0] rfl ?_
    exact b_X8_bestReplay_129 v1 v2 v3 v4 v5 v6 r1236 r1237 I L1238 b d hb hd Q R18 R47 hR18 hR47 h
  replace h := h.2 hc
  refine v_iconst (v := 0) (pc' := 113) 54 rfl rfl (by decide) ?_
  refine v_goto (tgt := 129) 55 rfl (by decide) ?_
  refine V.sub [3, 4, 5, 6, 7, 8, 9, 0] rfl ?_
  exact b_X8_bestReplay_129 v1 v2 v3 v4 v5 v6 r1236 (0 : Int32) I L b d hb hd Q R18 R47 hR18 hR47 h
theorem l_X8_bestReplay_47 {G : GT} {t : Nat} (v4 : Int32) (v5 : Int32) (I : TI) (b : Nat) (d : Nat) (hb : bnOK b) (hd : bnOK d) (Q : Int32 → TL → Prop) (R18 : Int32 → Int32 → Int32 → Int32 → TL → Prop) (hR18 : ∀ (v1 : Int32) (v2 : Int32) (v3 : Int32) (v4 : Int32) (L : TL), R18 v1 v2 v3 v4 L → V G Y_X8_bestReplay 18 [(0, .ref 0), (1, .int v1), (2, .int v2), (3, .int v3), (4, .int v4)] [] (I, L, RT b d t, 457) 0 0 (fun v9 u9 => ∃ (r9 : Int32) (L9 : TL), v9 = some (.int r9) ∧ u9 = (I, L9, RT b d t, 457) ∧ Q r9 L9) (fun _ _ => False)) : ∀ (n9 : Nat) (v1 : Int32) (v2 : Int32) (v3 : Int32) (v6 : Int32) (L : TL), L_X8_bestReplay_47 v4 v5 I b d Q R18 n9 v1 v2 v3 v6 L → V G Y_X8_bestReplay 47 [(0, .ref 0), (1, .int v1), (2, .int v2), (3, .int v3), (4, .int v4), (5, .int v5), (6, .int v6)] [] (I, L, RT b d t, 457) 0 0 (fun v9 u9 => ∃ (r9 : Int32) (L9 : TL), v9 = some (.int r9) ∧ u9 = (I, L9, RT b d t, 457) ∧ Q r9 L9) (fun _ _ => False)
  | 0, _, _, _, _, _, h => h.elim
  | n9 + 1, v1, v2, v3, v6, L, h => d_X8_bestReplay_47 v4 v5 I b d hb hd Q R18 _ hR18 (l_X8_bestReplay_47 v4 v5 I b d hb hd Q R18 hR18 n9) v1 v2 v3 v6 L h
set_option maxHeartbeats 4000000 in
set_option maxRecDepth 100000 in
theorem d_X8_bestReplay_18 {G : GT} {t : Nat} (I : TI) (b : Nat) (d : Nat) (hb : bnOK b) (hd : bnOK d) (Q : Int32 → TL → Prop) (R18 : Int32 → Int32 → Int32 → Int32 → TL → Prop)  (hR18 : ∀ (v1 : Int32) (v2 : Int32) (v3 : Int32) (v4 : Int32) (L : TL), R18 v1 v2 v3 v4 L → V G Y_X8_bestReplay 18 [(0, .ref 0), (1, .int v1), (2, .int v2), (3, .int v3), (4, .int v4)] [] (I, L, RT b d t, 457) 0 0 (fun v9 u9 => ∃ (r9 : Int32) (L9 : TL), v9 = some (.int r9) ∧ u9 = (I, L9, RT b d t, 457) ∧ Q r9 L9) (fun _ _ => False)) (v1 : Int32) (v2 : Int32) (v3 : Int32) (v4 : Int32) (L : TL)  (h : D_X8_bestReplay_18 I b d Q R18 v1 v2 v3 v4 L) : V G Y_X8_bestReplay 18 [(0, .ref 0), (1, .int v1), (2, .int v2), (3, .int v3), (4, .int v4)] [] (I, L, RT b d t, 457) 0 0 (fun v9 u9 => ∃ (r9 : Int32) (L9 : TL), v9 = some (.int r9) ∧ u9 = (I, L9, RT b d t, 457) ∧ Q r9 L9) (fun _ _ => False) := by
  unfold D_X8_bestReplay_18 at h
  refine v_iload (pc' := 20) 11 4 rfl rfl rfl ?_
  refine v_aload_n (pc' := 21) 12 0 rfl rfl rfl rfl ?_
  refine v_getR (t := b) (pc' := 24) 13 rfl rfl pf_X8_40 ly_0 (lay_lt ly_0 (by decide)) rt_0_5 ?_
  refine v_getR (t := (b + 1)) (pc' := 27) 14 rfl rfl pf_X8_95 (bn0l hb) (lay_lt (bn0l hb) (by decide)) (rt_bn_0 hb) ?_
  refine v_cV (Y2 := Y_X2_nets) (As := []) (b := (b + 1)) (pc' := 30) (c1 := 0) (s1 := 0) 15 rfl rfl mf_X2_nets rfl rfl ml_X8_99 mi_X2_nets se_X2_nets (ci := 1) rfl (bn1l hb) (lay_lt (bn1l hb) (by decide)) rfl (Nat.le_of_ble_eq_true rfl) ⟨Nat.le_of_ble_eq_true rfl, Nat.le_of_ble_eq_true rfl⟩ rfl rfl (ok_X2_nets (b + 1) I L (bn_ck hb) h) ?_ ?_
  · intro e9 u9 hx9
    exact hx9.elim
  intro v9 u9 hv9
  obtain ⟨r1239, rfl, rfl, h⟩ := hv9
  refine ⟨fun q => absurd q (Nat.lt_irrefl _), ?_⟩
  show V G Y_X8_bestReplay 30 _ (.int r1239 :: _) _ _ _ _ _
  refine v_icmp_ge (tgt := 181) (pc' := 33) 16 rfl rfl (by decide) (fun hc => ?_) (fun hc => ?_)
  · replace h := h.1 hc
    refine v_iload_n (pc' := 182) 88 1 rfl rfl rfl rfl ?_
    exact v_iret 89 rfl rfl (by decide) (by decide) ⟨_, _, rfl, rfl, h⟩
  replace h := h.2 hc
  refine v_aload_n (pc' := 34) 17 0 rfl rfl rfl rfl ?_
  refine v_getR (t := b) (pc' := 37) 18 rfl rfl pf_X8_40 ly_0 (lay_lt ly_0 (by decide)) rt_0_5 ?_
  refine v_iload (pc' := 39) 19 4 rfl rfl rfl ?_
  refine v_cV (Y2 := Y_X0_pulses) (As := [.int v4]) (b := b) (pc' := 42) (c1 := 0) (s1 := 0) 20 rfl rfl mf_X0_pulses rfl rfl ml_X8_167 mi_X0_pulses se_X0_pulses (ci := 0) rfl (bn0l hb) (lay_lt (bn0l hb) (by decide)) rfl (Nat.le_of_ble_eq_true rfl) ⟨Nat.le_of_ble_eq_true rfl, Nat.le_of_ble_eq_true rfl⟩ rfl rfl (ok_X0_pulses b v4 I L hb h) ?_ ?_
  · intro e9 u9 hx9
    exact hx9.elim
  intro v9 u9 hv9
  obtain ⟨r1240, rfl, rfl, h⟩ := hv9
  refine ⟨fun q => absurd q (Nat.lt_irrefl _), ?_⟩
  show V G Y_X8_bestReplay 42 _ (.int r1240 :: _) _ _ _ _ _
  refine v_istore (ls' := [(5, .int r1240), (0, .ref 0), (1, .int v1), (2, .int v2), (3, .int v3), (4, .int v4)]) (pc' := 44) 21 rfl rfl (by decide) rfl ?_
  refine v_iconst (v := 0) (pc' := 45) 22 rfl rfl (by decide) ?_
  refine v_istore (ls' := [(6, .int 0), (5, .int r1240), (0, .ref 0), (1, .int v1), (2, .int v2), (3, .int v3), (4, .int v4)]) (pc' := 47) 23 rfl rfl (by decide) rfl ?_
  refine V.sub [2, 3, 4, 5, 6, 1, 0] rfl ?_
  obtain ⟨n1241, h⟩ := h
  exact l_X8_bestReplay_47 v4 r1240 I b d hb hd Q R18 hR18 n1241 v1 v2 v3 (0 : Int32) L h
theorem l_X8_bestReplay_18 {G : GT} {t : Nat} (I : TI) (b : Nat) (d : Nat) (hb : bnOK b) (hd : bnOK d) (Q : Int32 → TL → Prop)  : ∀ (n9 : Nat) (v1 : Int32) (v2 : Int32) (v3 : Int32) (v4 : Int32) (L : TL), L_X8_bestReplay_18 I b d Q n9 v1 v2 v3 v4 L → V G Y_X8_bestReplay 18 [(0, .ref 0), (1, .int v1), (2, .int v2), (3, .int v3), (4, .int v4)] [] (I, L, RT b d t, 457) 0 0 (fun v9 u9 => ∃ (r9 : Int32) (L9 : TL), v9 = some (.int r9) ∧ u9 = (I, L9, RT b d t, 457) ∧ Q r9 L9) (fun _ _ => False)
  | 0, _, _, _, _, _, h => h.elim
  | n9 + 1, v1, v2, v3, v4, L, h => d_X8_bestReplay_18 I b d hb hd Q _ (l_X8_bestReplay_18 I b d hb hd Q n9) v1 v2 v3 v4 L h
set_option maxHeartbeats 4000000 in
set_option maxRecDepth 100000 in
theorem ok_X8_bestReplay {G : GT} {t : Nat} (I : TI) (L : TL) (b : Nat) (d : Nat) (hb : bnOK b) (hd : bnOK d) {Q : Int32 → TL → Prop} (h : W_X8_bestReplay I L b d Q) : MW G Y_X8_bestReplay [.ref 0] (I, L, RT b d t, 457) (fun v9 u9 => ∃ (r9 : Int32) (L9 : TL), v9 = some (.int r9) ∧ u9 = (I, L9, RT b d t, 457) ∧ Q r9 L9) (fun _ _ => False) := by
  unfold W_X8_bestReplay at h
  refine MW.intro rfl (by decide) is_X8_bestReplay (Nat.le_of_ble_eq_true rfl) ?_
  show V G Y_X8_bestReplay 0 [(0, .ref 0)] [] (I, L, RT b d t, 457) 0 0 _ _
  refine v_iconst (v := -1) (pc' := 1) 0 rfl rfl (by decide) ?_
  refine v_istore_n (ls' := [(1, .int (-1)), (0, .ref 0)]) (pc' := 2) 1 rfl rfl rfl (by decide) rfl ?_
  refine v_iconst (v := 0) (pc' := 3) 2 rfl rfl (by decide) ?_
  refine v_istore_n (ls' := [(2, .int 0), (1, .int (-1)), (0, .ref 0)]) (pc' := 4) 3 rfl rfl rfl (by decide) rfl ?_
  refine v_iconst (v := 0) (pc' := 5) 4 rfl rfl (by decide) ?_
  refine v_istore_n (ls' := [(3, .int 0), (2, .int 0), (1, .int (-1)), (0, .ref 0)]) (pc' := 6) 5 rfl rfl rfl (by decide) rfl ?_
  refine v_aload_n (pc' := 7) 6 3 rfl rfl rfl rfl ?_
  refine v_getR (t := b) (pc' := 10) 7 rfl rfl pf_X8_40 ly_0 (lay_lt ly_0 (by decide)) rt_0_5 ?_
  refine v_getR (t := (b + 1)) (pc' := 13) 8 rfl rfl pf_X8_95 (bn0l hb) (lay_lt (bn0l hb) (by decide)) (rt_bn_0 hb) ?_
  refine v_getI (pc' := 16) 9 rfl rfl pf_X8_105 (bn1l hb) (lay_lt (bn1l hb) (by decide)) ?_
  refine v_istore (ls' := [(4, .int (I (b + 1) 4)), (3, .int 0), (2, .int 0), (1, .int (-1)), (0, .ref 0)]) (pc' := 18) 10 rfl rfl (by decide) rfl ?_
  refine V.sub [4, 3, 2, 1, 0] rfl ?_
  obtain ⟨n1242, h⟩ := h
  exact l_X8_bestReplay_18 I b d hb hd Q n1242 ((-1) : Int32) (0 : Int32) (0 : Int32) (I (b + 1) 4) L h
