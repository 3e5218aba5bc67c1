set_option maxHeartbeats 4000000 in
set_option maxRecDepth 100000 in
theorem ok_X9_hasNet {G : GT} {b d t : Nat} (p1 : Int32) (p2 : Int32) (I : TI) (L : TL)  {Q : Int32 → Prop} (h : W_X9_hasNet p1 p2 I L Q) : MW G Y_X9_hasNet [.ref 436, .int p1, .int p2] (I, L, RT b d t, 457) (fun v9 u9 => ∃ (r9 : Int32), v9 = some (.int r9) ∧ u9 = (I, L, RT b d t, 457) ∧ Q r9) (fun _ _ => False) := by
  unfold W_X9_hasNet at h
  refine MW.intro rfl (by decide) is_X9_hasNet (Nat.le_of_ble_eq_true rfl) ?_
  show V G Y_X9_hasNet 0 [(0, .ref 436), (1, .int p1), (2, .int p2)] [] (I, L, RT b d t, 457) 0 0 _ _
  refine v_aload_n (pc' := 1) 0 0 rfl rfl rfl rfl ?_
  refine v_getR (t := 442) (pc' := 4) 1 rfl rfl pf_X9_26 ly_436 (lay_lt ly_436 (by decide)) rt_436_13 ?_
  refine v_iload_n (pc' := 5) 2 1 rfl rfl rfl rfl ?_
  refine v_aload_n (pc' := 6) 3 0 rfl rfl rfl rfl ?_
  refine v_getI (pc' := 9) 4 rfl rfl pf_X9_77 ly_436 (lay_lt ly_436 (by decide)) ?_
  refine v_isub (pc' := 10) 5 rfl rfl ?_
  obtain ⟨hi1513, h⟩ := h
  refine v_iald (i := (p1 - (I 436 10))) (j := (p1 - (I 436 10)).toNatClampNeg) (pc' := 11) 6 rfl rfl ly_442 ln_442 (lay_lt ly_442 (by decide)) hi1513 rfl ?_
  refine v_iload_n (pc' := 12) 7 2 rfl rfl rfl rfl ?_
  refine v_icmp_eq (tgt := 30) (pc' := 15) 8 rfl rfl (by decide) (fun hc => ?_) (fun hc => ?_)
  · replace h := h.1 hc
    refine v_iconst (v := 1) (pc' := 31) 18 rfl rfl (by decide) ?_
    refine v_goto (tgt := 35) 19 rfl (by decide) ?_
    exact v_bret 21 rfl rfl (by decide) (by decide) (by decide) ⟨_, rfl, rfl, h⟩
  replace h := h.2 hc
  refine v_aload_n (pc' := 16) 9 0 rfl rfl rfl rfl ?_
  refine v_getR (t := 443) (pc' := 19) 10 rfl rfl pf_X9_29 ly_436 (lay_lt ly_436 (by decide)) rt_436_14 ?_
  refine v_iload_n (pc' := 20) 11 1 rfl rfl rfl rfl ?_
  refine v_aload_n (pc' := 21) 12 0 rfl rfl rfl rfl ?_
  refine v_getI (pc' := 24) 13 rfl rfl pf_X9_77 ly_436 (lay_lt ly_436 (by decide)) ?_
  refine v_isub (pc' := 25) 14 rfl rfl ?_
  obtain ⟨hi1514, h⟩ := h
  refine v_iald (i := (p1 - (I 436 10))) (j := (p1 - (I 436 10)).toNatClampNeg) (pc' := 26) 15 rfl rfl ly_443 ln_443 (lay_lt ly_443 (by decide)) hi1514 rfl ?_
  refine v_iload_n (pc' := 27) 16 2 rfl rfl rfl rfl ?_
  refine v_icmp_ne (tgt := 34) (pc' := 30) 17 rfl rfl (by decide) (fun hc => ?_) (fun hc => ?_)
  · replace h := h.1 hc
    refine v_iconst (v := 0) (pc' := 35) 20 rfl rfl (by decide) ?_
    exact v_bret 21 rfl rfl (by decide) (by decide) (by decide) ⟨_, rfl, rfl, h⟩
  replace h := h.2 hc
  refine v_iconst (v := 1) (pc' := 31) 18 rfl rfl (by decide) ?_
  refine v_goto (tgt := 35) 19 rfl (by decide) ?_
  exact v_bret 21 rfl rfl (by decide) (by decide) (by decide) ⟨_, rfl, rfl, h⟩
set_option maxHeartbeats 4000000 in
set_option maxRecDepth 100000 in
theorem b_X9_touched_128 {G : GT} {b d t : Nat} (v1 : Int32) (v4 : Int32) (s0 : Int64) (s1 : Int64) (I : TI) (L : TL)  (Q : Int64 → Prop) (R8 : Int64 → Int32 → Prop) (hR8 : ∀ (v2 : Int64) (v4 : Int32), R8 v2 v4 → V G Y_X9_touched 8 [(0, .ref 436), (1, .int v1), (2, .long v2), (4, .int v4)] [] (I, L, RT b d t, 457) 0 0 (fun v9 u9 => ∃ (r9 : Int64), v9 = some (.long r9) ∧ u9 = (I, L, RT b d t, 457) ∧ Q r9) (fun _ _ => False)) (h : B_X9_touched_128 v1 v4 s0 s1 I L Q R8) : V G Y_X9_touched 128 [(0, .ref 436), (1, .int v1), (4, .int v4)] [.long s1, .long s0] (I, L, RT b d t, 457) 0 0 (fun v9 u9 => ∃ (r9 : Int64), v9 = some (.long r9) ∧ u9 = (I, L, RT b d t, 457) ∧ Q r9) (fun _ _ => False) := by
  unfold B_X9_touched_128 at h
  refine v_lor (pc' := 129) 69 rfl rfl ?_
  refine v_lstore_n (ls' := [(2, .long (s0 ||| s1)), (0, .ref 436), (1, .int v1), (4, .int v4)]) (pc' := 130) 70 rfl rfl rfl (by decide) rfl ?_
  refine v_iinc (v := (v4 + 1)) (ls' := [(4, .int (v4 + 1)), (2, .long (s0 ||| s1)), (0, .ref 436), (1, .int v1)]) (pc' := 133) 71 3 rfl rfl rfl rfl (by decide) rfl ?_
  refine v_goto (tgt := 8) 72 rfl (by decide) ?_
  refine V.sub [2, 3, 1, 0] rfl ?_
  exact hR8 (s0 ||| s1) (v4 + 1) h
set_option maxHeartbeats 4000000 in
set_option maxRecDepth 100000 in
theorem b_X9_touched_114 {G : GT} {b d t : Nat} (v1 : Int32) (v2 : Int64) (v4 : Int32) (v7 : Int32) (I : TI) (L : TL)  (Q : Int64 → Prop) (R8 : Int64 → Int32 → Prop) (hR8 : ∀ (v2 : Int64) (v4 : Int32), R8 v2 v4 → V G Y_X9_touched 8 [(0, .ref 436), (1, .int v1), (2, .long v2), (4, .int v4)] [] (I, L, RT b d t, 457) 0 0 (fun v9 u9 => ∃ (r9 : Int64), v9 = some (.long r9) ∧ u9 = (I, L, RT b d t, 457) ∧ Q r9) (fun _ _ => False)) (h : B_X9_touched_114 v1 v2 v4 v7 I L Q R8) : V G Y_X9_touched 114 [(0, .ref 436), (1, .int v1), (2, .long v2), (4, .int v4), (7, .int v7)] [] (I, L, RT b d t, 457) 0 0 (fun v9 u9 => ∃ (r9 : Int64), v9 = some (.long r9) ∧ u9 = (I, L, RT b d t, 457) ∧ Q r9) (fun _ _ => False) := by
  unfold B_X9_touched_114 at h
  refine v_lload_n (pc' := 115) 61 2 rfl rfl rfl rfl ?_
  refine v_iload (pc' := 117) 62 4 rfl rfl rfl ?_
  refine v_if_eq (tgt := 127) (pc' := 120) 63 rfl rfl (by decide) (fun hc => ?_) (fun hc => ?_)
  · replace h := h.1 hc
    refine v_lconst (v := 0) (pc' := 128) 68 rfl rfl (by decide) ?_
    refine V.sub [0, 1, 3] rfl ?_
    exact b_X9_touched_128 v1 v4 v2 (0 : Int64) I L Q R8 hR8 h
  replace h := h.2 hc
  refine v_lconst (v := 1) (pc' := 121) 64 rfl rfl (by decide) ?_
  refine v_iload (pc' := 123) 65 3 rfl rfl rfl ?_
  refine v_lshl (pc' := 124) 66 rfl rfl ?_
  refine v_goto (tgt := 128) 67 rfl (by decide) ?_
  refine V.sub [0, 1, 3] rfl ?_
  exact b_X9_touched_128 v1 v4 v2 (shlL (1 : Int64) v4) I L Q R8 hR8 h
set_option maxHeartbeats 4000000 in
set_option maxRecDepth 100000 in
theorem b_X9_touched_106 {G : GT} {b d t : Nat} (v1 : Int32) (v2 : Int64) (v4 : Int32) (v5 : Int64) (v8 : Int32) (s0 : Int32) (I : TI) (L : TL)  (Q : Int64 → Prop) (R8 : Int64 → Int32 → Prop) (R57 : Int32 → Int32 → Prop) (hR8 : ∀ (v2 : Int64) (v4 : Int32), R8 v2 v4 → V G Y_X9_touched 8 [(0, .ref 436), (1, .int v1), (2, .long v2), (4, .int v4)] [] (I, L, RT b d t, 457) 0 0 (fun v9 u9 => ∃ (r9 : Int64), v9 = some (.long r9) ∧ u9 = (I, L, RT b d t, 457) ∧ Q r9) (fun _ _ => False)) (hR57 : ∀ (v7 : Int32) (v8 : Int32), R57 v7 v8 → V G Y_X9_touched 57 [(0, .ref 436), (1, .int v1), (2, .long v2), (4, .int v4), (5, .long v5), (7, .int v7), (8, .int v8)] [] (I, L, RT b d t, 457) 0 0 (fun v9 u9 => ∃ (r9 : Int64), v9 = some (.long r9) ∧ u9 = (I, L, RT b d t, 457) ∧ Q r9) (fun _ _ => False)) (h : B_X9_touched_106 v1 v2 v4 v5 v8 s0 I L Q R8 R57) : V G Y_X9_touched 106 [(0, .ref 436), (1, .int v1), (2, .long v2), (4, .int v4), (5, .long v5), (8, .int v8)] [.int s0] (I, L, RT b d t, 457) 0 0 (fun v9 u9 => ∃ (r9 : Int64), v9 = some (.long r9) ∧ u9 = (I, L, RT b d t, 457) ∧ Q r9) (fun _ _ => False) := by
  unfold B_X9_touched_106 at h
  refine v_istore (ls' := [(7, .int s0), (0, .ref 436), (1, .int v1), (2, .long v2), (4, .int v4), (5, .long v5), (8, .int v8)]) (pc' := 108) 58 rfl rfl (by decide) rfl ?_
  refine v_iinc (v := (v8 + 1)) (ls' := [(8, .int (v8 + 1)), (7, .int s0), (0, .ref 436), (1, .int v1), (2, .long v2), (4, .int v4), (5, .long v5)]) (pc' := 111) 59 6 rfl rfl rfl rfl (by decide) rfl ?_
  refine v_goto (tgt := 57) 60 rfl (by decide) ?_
  refine V.sub [2, 3, 4, 5, 6, 1, 0] rfl ?_
  exact hR57 s0 (v8 + 1) h
set_option maxHeartbeats 4000000 in
set_option maxRecDepth 100000 in
theorem b_X9_touched_105 {G : GT} {b d t : Nat} (v1 : Int32) (v2 : Int64) (v4 : Int32) (v5 : Int64) (v8 : Int32) (I : TI) (L : TL)  (Q : Int64 → Prop) (R8 : Int64 → Int32 → Prop) (R57 : Int32 → Int32 → Prop) (hR8 : ∀ (v2 : Int64) (v4 : Int32), R8 v2 v4 → V G Y_X9_touched 8 [(0, .ref 436), (1, .int v1), (2, .long v2), (4, .int v4)] [] (I, L, RT b d t, 457) 0 0 (fun v9 u9 => ∃ (r9 : Int64), v9 = some (.long r9) ∧ u9 = (I, L, RT b d t, 457) ∧ Q r9) (fun _ _ => False)) (hR57 : ∀ (v7 : Int32) (v8 : Int32), R57 v7 v8 → V G Y_X9_touched 57 [(0, .ref 436), (1, .int v1), (2, .long v2), (4, .int v4), (5, .long v5), (7, .int v7), (8, .int v8)] [] (I, L, RT b d t, 457) 0 0 (fun v9 u9 => ∃ (r9 : Int64), v9 = some (.long r9) ∧ u9 = (I, L, RT b d t, 457) ∧ Q r9) (fun _ _ => False)) (h : B_X9_touched_105 v1 v2 v4 v5 v8 I L Q R8 R57) : V G Y_X9_touched 105 [(0, .ref 436), (1, .int v1), (2, .long v2), (4, .int v4), (5, .long v5), (8, .int v8)] [] (I, L, RT b d t, 457) 0 0 (fun v9 u9 => ∃ (r9 : Int64), v9 = some (.long r9) ∧ u9 = (I, L, RT b d t, 457) ∧ Q r9) (fun _ _ => False) := by
  unfold B_X9_touched_105 at h
  refine v_iconst (v := 0) (pc' := 106) 57 rfl rfl (by decide) ?_
  exact b_X9_touched_106 v1 v2 v4 v5 v8 (0 : Int32) I L Q R8 R57 hR8 hR57 h
set_option maxHeartbeats 4000000 in
set_option maxRecDepth 100000 in
theorem b_X9_touched_101 {G : GT} {b d t : Nat} (v1 : Int32) (v2 : Int64) (v4 : Int32) (v5 : Int64) (v8 : Int32) (I : TI) (L : TL)  (Q : Int64 → Prop) (R8 : Int64 → Int32 → Prop) (R57 : Int32 → Int32 → Prop) (hR8 : ∀ (v2 : Int64) (v4 : Int32), R8 v2 v4 → V G Y_X9_touched 8 [(0, .ref 436), (1, .int v1), (2, .long v2), (4, .int v4)] [] (I, L, RT b d t, 457) 0 0 (fun v9 u9 => ∃ (r9 : Int64), v9 = some (.long r9) ∧ u9 = (I, L, RT b d t, 457) ∧ Q r9) (fun _ _ => False)) (hR57 : ∀ (v7 : Int32) (v8 : Int32), R57 v7 v8 → V G Y_X9_touched 57 [(0, .ref 436), (1, .int v1), (2, .long v2), (4, .int v4), (5, .long v5), (7, .int v7), (8, .int v8)] [] (I, L, RT b d t, 457) 0 0 (fun v9 u9 => ∃ (r9 : Int64), v9 = some (.long r9) ∧ u9 = (I, L, RT b d t, 457) ∧ Q r9) (fun _ _ => False)) (h : B_X9_touched_101 v1 v2 v4 v5 v8 I L Q R8 R57) : V G Y_X9_touched 101 [(0, .ref 436), (1, .int v1), (2, .long v2), (4, .int v4), (5, .long v5), (8, .int v8)] [] (I, L, RT b d t, 457) 0 0 (fun v9 u9 => ∃ (r9 : Int64), v9 = some (.long r9) ∧ u9 = (I, L, RT b d t, 457) ∧ Q r9) (fun _ _ => False) := by
  unfold B_X9_touched_101 at h
  refine v_iconst (v := 1) (pc' := 102) 55 rfl rfl (by decide) ?_
  refine v_goto (tgt := 106) 56 rfl (by decide) ?_
  exact b_X9_touched_106 v1 v2 v4 v5 v8 (1 : Int32) I L Q R8 R57 hR8 hR57 h
set_option maxHeartbeats 4000000 in
set_option maxRecDepth 100000 in
theorem d_X9_touched_57 {G : GT} {b d t : Nat} (v1 : Int32) (v2 : Int64) (v4 : Int32) (v5 : Int64) (I : TI) (L : TL)  (Q : Int64 → Prop) (R8 : Int64 → Int32 → Prop) (R57 : Int32 → Int32 → Prop) (hR8 : ∀ (v2 : Int64) (v4 : Int32), R8 v2 v4 → V G Y_X9_touched 8 [(0, .ref 436), (1, .int v1), (2, .long v2), (4, .int v4)] [] (I, L, RT b d t, 457) 0 0 (fun v9 u9 => ∃ (r9 : Int64), v9 = some (.long r9) ∧ u9 = (I, L, RT b d t, 457) ∧ Q r9) (fun _ _ => False)) (hR57 : ∀ (v7 : Int32) (v8 : Int32), R57 v7 v8 → V G Y_X9_touched 57 [(0, .ref 436), (1, .int v1), (2, .long v2), (4, .int v4), (5, .long v5), (7, .int v7), (8, .int v8)] [] (I, L, RT b d t, 457) 0 0 (fun v9 u9 => ∃ (r9 : Int64), v9 = some (.long r9) ∧ u9 = (I, L, RT b d t, 457) ∧ Q r9) (fun _ _ => False)) (v7 : Int32) (v8 : Int32)  (h : D_X9_touched_57 v1 v2 v4 v5 I L Q R8 R57 v7 v8) : V G Y_X9_touched 57 [(0, .ref 436), (1, .int v1), (2, .long v2), (4, .int v4), (5, .long v5), (7, .int v7), (8, .int v8)] [] (I, L, RT b d t, 457) 0 0 (fun v9 u9 => ∃ (r9 : Int64), v9 = some (.long r9) ∧ u9 = (I, L, RT b d t, 457) ∧ Q r9) (fun _ _ => False) := by
  unfold D_X9_touched_57 at h
  refine v_iload (pc' := 59) 32 6 rfl rfl rfl ?_
  refine v_aload_n (pc' := 60) 33 0 rfl rfl rfl rfl ?_
  refine v_cV (Y2 := Y_X9_nets) (As := []) (b := 436) (pc' := 63) (c1 := 0) (s1 := 0) 34 rfl rfl mf_X9_nets rfl rfl ml_X9_95 mi_X9_nets se_X9_nets (ci := 8) rfl ly_436 (lay_lt ly_436 (by decide)) rfl (Nat.le_of_ble_eq_true rfl) ⟨Nat.le_of_ble_eq_true rfl, Nat.le_of_ble_eq_true rfl⟩ rfl rfl (ok_X9_nets I L h) ?_ ?_
  · intro e9 u9 hx9
    exact hx9.elim
  intro v9 u9 hv9
  obtain ⟨r1531, rfl, rfl, h⟩ := hv9
  refine ⟨fun q => absurd q (Nat.lt_irrefl _), ?_⟩
  show V G Y_X9_touched 63 _ (.int r1531 :: _) _ _ _ _ _
  refine v_icmp_ge (tgt := 114) (pc' := 66) 35 rfl rfl (by decide) (fun hc => ?_) (fun hc => ?_)
  · replace h := h.1 hc
    refine V.sub [0, 1, 2, 3, 5] rfl ?_
    exact b_X9_touched_114 v1 v2 v4 v7 I L Q R8 hR8 h
  replace h := h.2 hc
  refine v_iload_n (pc' := 67) 36 1 rfl rfl rfl rfl ?_
  refine v_aload_n (pc' := 68) 37 0 rfl rfl rfl rfl ?_
  refine v_getI (pc' := 71) 38 rfl rfl pf_X9_77 ly_436 (lay_lt ly_436 (by decide)) ?_
  refine v_icmp_ge (tgt := 114) (pc' := 74) 39 rfl rfl (by decide) (fun hc => ?_) (fun hc => ?_)
  · replace h := h.1 hc
    refine V.sub [0, 1, 2, 3, 5] rfl ?_
    exact b_X9_touched_114 v1 v2 v4 v7 I L Q R8 hR8 h
  replace h := h.2 hc
  refine v_iload (pc' := 76) 40 5 rfl rfl rfl ?_
  refine v_if_ne (tgt := 101) (pc' := 79) 41 rfl rfl (by decide) (fun hc => ?_) (fun hc => ?_)
  · replace h := h.1 hc
    refine V.sub [0, 1, 2, 3, 4, 6] rfl ?_
    exact b_X9_touched_101 v1 v2 v4 v5 v8 I L Q R8 R57 hR8 hR57 h
  replace h := h.2 hc
  refine v_lload (pc' := 81) 42 4 rfl rfl rfl ?_
  refine v_iload (pc' := 83) 43 6 rfl rfl rfl ?_
  refine v_lshr (pc' := 84) 44 rfl rfl ?_
  refine v_lconst (v := 1) (pc' := 85) 45 rfl rfl (by decide) ?_
  refine v_land (pc' := 86) 46 rfl rfl ?_
  refine v_lconst (v := 1) (pc' := 87) 47 rfl rfl (by decide) ?_
  refine v_lc_ne (tgt := 105) (pc' := 91) 48 49 rfl rfl rfl (by decide) (fun hc => ?_) (fun hc => ?_)
  · replace h := h.1 hc
    refine V.sub [0, 1, 2, 3, 4, 6] rfl ?_
    exact b_X9_touched_105 v1 v2 v4 v5 v8 I L Q R8 R57 hR8 hR57 h
  replace h := h.2 hc
  refine v_aload_n (pc' := 92) 50 0 rfl rfl rfl rfl ?_
  refine v_iload (pc' := 94) 51 6 rfl rfl rfl ?_
  refine v_iload_n (pc' := 95) 52 1 rfl rfl rfl rfl ?_
  refine v_cV (Y2 := Y_X9_hasNet) (As := [.int v8, .int v1]) (b := 436) (pc' := 98) (c1 := 0) (s1 := 0) 53 rfl rfl mf_X9_hasNet rfl rfl ml_X9_103 mi_X9_hasNet se_X9_hasNet (ci := 8) rfl ly_436 (lay_lt ly_436 (by decide)) rfl (Nat.le_of_ble_eq_true rfl) ⟨Nat.le_of_ble_eq_true rfl, Nat.le_of_ble_eq_true rfl⟩ rfl rfl (ok_X9_hasNet v8 v1 I L h) ?_ ?_
  · intro e9 u9 hx9
    exact hx9.elim
  intro v9 u9 hv9
  obtain ⟨r1532, rfl, rfl, h⟩ := hv9
  refine ⟨fun q => absurd q (Nat.lt_irrefl _), ?_⟩
  show V G Y_X9_touched 98 _ (.int r1532 :: _) _ _ _ _ _
  refine v_if_eq (tgt := 105) (pc' := 101) 54 rfl rfl (by decide) (fun hc => ?_) (fun hc => ?_)
  · replace h := h.1 hc
    refine V.sub [0, 1, 2, 3, 4, 6] rfl ?_
    exact b_X9_touched_105 v1 v2 v4 v5 v8 I L Q R8 R57 hR8 hR57 h
  replace h := h.2 hc
  refine V.sub [0, 1, 2, 3, 4, 6] rfl ?_
  exact b_X9_touched_101 v1 v2 v4 v5 v8 I L Q R8 R57 hR8 hR57 h
theorem l_X9_touched_57 {G : GT} {b d t : Nat} (v1 : Int32) (v2 : Int64) (v4 : Int32) (v5 : Int64) (I : TI) (L : TL)  (Q : Int64 → Prop) (R8 : Int64 → Int32 → Prop) (hR8 : ∀ (v2 : Int64) (v4 : Int32), R8 v2 v4 → V G Y_X9_touched 8 [(0, .ref 436), (1, .int v1), (2, .long v2), (4, .int v4)] [] (I, L, RT b d t, 457) 0 0 (fun v9 u9 => ∃ (r9 : Int64), v9 = some (.long r9) ∧ u9 = (I, L, RT b d t, 457) ∧ Q r9) (fun _ _ => False)) : ∀ (n9 : Nat) (v7 : Int32) (v8 : Int32), L_X9_touched_57 v1 v2 v4 v5 I L Q R8 n9 v7 v8 → V G Y_X9_touched 57 [(0, .ref 436), (1, .int v1), (2, .long v2), (4, .int v4), (5, .long v5), (7, .int v7), (8, .int v8)] [] (I, L, RT b d t, 457) 0 0 (fun v9 u9 => ∃ (r9 : Int64), v9 = some (.long r9) ∧ u9 = (I, L, RT b d t, 457) ∧ Q r9) (fun _ _ => False)
  | 0, _, _, h => h.elim
  | n9 + 1, v7, v8, h => d_X9_touched_57 v1 v2 v4 v5 I L Q R8 _ hR8 (l_X9_touched_57 v1 v2 v4 v5 I L Q R8 hR8 n9) v7 v8 h
set_option maxHeartbeats 4000000 in
set_option maxRecDepth 100000 in
theorem b_X9_touched_49 {G : GT} {b d t : Nat} (v1 : Int32) (v2 : Int64) (v4 : Int32) (v5 : Int64) (s0 : Int32) (I : TI) (L : TL)  (Q : Int64 → Prop) (R8 : Int64 → Int32 → Prop) (hR8 : ∀ (v2 : Int64) (v4 : Int32), R8 v2 v4 → V G Y_X9_touched 8 [(0, .ref 436), (1, .int v1), (2, .long v2), (4, .int v4)] [] (I, L, RT b d t, 457) 0 0 (fun v9 u9 => ∃ (r9 : Int64), v9 = some (.long r9) ∧ u9 = (I, L, RT b d t, 457) ∧ Q r9) (fun _ _ => False)) (h : B_X9_touched_49 v1 v2 v4 v5 s0 I L Q R8) : V G Y_X9_touched 49 [(0, .ref 436), (1, .int v1), (2, .long v2), (4, .int v4), (5, .long v5)] [.int s0] (I, L, RT b d t, 457) 0 0 (fun v9 u9 => ∃ (r9 : Int64), v9 = some (.long r9) ∧ u9 = (I, L, RT b d t, 457) ∧ Q r9) (fun _ _ => False) := by
  unfold B_X9_touched_49 at h
  refine v_istore (ls' := [(7, .int s0), (0, .ref 436), (1, .int v1), (2, .long v2), (4, .int v4), (5, .long v5)]) (pc' := 51) 28 rfl rfl (by decide) rfl ?_
  refine v_aload_n (pc' := 52) 29 1 rfl rfl rfl rfl ?_
  refine v_getI (pc' := 55) 30 rfl rfl pf_X9_77 ly_436 (lay_lt ly_436 (by decide)) ?_
  refine v_istore (ls' := [(8, .int (I 436 10)), (7, .int s0), (0, .ref 436), (1, .int v1), (2, .long v2), (4, .int v4), (5, .long v5)]) (pc' := 57) 31 rfl rfl (by decide) rfl ?_
  refine V.sub [2, 3, 4, 5, 6, 1, 0] rfl ?_
  obtain ⟨n1533, h⟩ := h
  exact l_X9_touched_57 v1 v2 v4 v5 I L Q R8 hR8 n1533 s0 (I 436 10) h
set_option maxHeartbeats 4000000 in
set_option maxRecDepth 100000 in
theorem b_X9_touched_48 {G : GT} {b d t : Nat} (v1 : Int32) (v2 : Int64) (v4 : Int32) (v5 : Int64) (I : TI) (L : TL)  (Q : Int64 → Prop) (R8 : Int64 → Int32 → Prop) (hR8 : ∀ (v2 : Int64) (v4 : Int32), R8 v2 v4 → V G Y_X9_touched 8 [(0, .ref 436), (1, .int v1), (2, .long v2), (4, .int v4)] [] (I, L, RT b d t, 457) 0 0 (fun v9 u9 => ∃ (r9 : Int64), v9 = some (.long r9) ∧ u9 = (I, L, RT b d t, 457) ∧ Q r9) (fun _ _ => False)) (h : B_X9_touched_48 v1 v2 v4 v5 I L Q R8) : V G Y_X9_touched 48 [(0, .ref 436), (1, .int v1), (2, .long v2), (4, .int v4), (5, .long v5)] [] (I, L, RT b d t, 457) 0 0 (fun v9 u9 => ∃ (r9 : Int64), v9 = some (.long r9) ∧ u9 = (I, L, RT b d t, 457) ∧ Q r9) (fun _ _ => False) := by
  unfold B_X9_touched_48 at h
  refine v_iconst (v := 0) (pc' := 49) 27 rfl rfl (by decide) ?_
  exact b_X9_touched_49 v1 v2 v4 v5 (0 : Int32) I L Q R8 hR8 h
set_option maxHeartbeats 4000000 in
set_option maxRecDepth 100000 in
theorem d_X9_touched_8 {G : GT} {b d t : Nat} (v1 : Int32) (I : TI) (L : TL)  (Q : Int64 → Prop) (R8 : Int64 → Int32 → Prop)  (hR8 : ∀ (v2 : Int64) (v4 : Int32), R8 v2 v4 → V G Y_X9_touched 8 [(0, .ref 436), (1, .int v1), (2, .long v2), (4, .int v4)] [] (I, L, RT b d t, 457) 0 0 (fun v9 u9 => ∃ (r9 : Int64), v9 = some (.long r9) ∧ u9 = (I, L, RT b d t, 457) ∧ Q r9) (fun _ _ => False)) (v2 : Int64) (v4 : Int32)  (h : D_X9_touched_8 v1 I L Q R8 v2 v4) : V G Y_X9_touched 8 [(0, .ref 436), (1, .int v1), (2, .long v2), (4, .int v4)] [] (I, L, RT b d t, 457) 0 0 (fun v9 u9 => ∃ (r9 : Int64), v9 = some (.long r9) ∧ u9 = (I, L, RT b d t, 457) ∧ Q r9) (fun _ _ => False) := by
  unfold D_X9_touched_8 at h
  refine v_iload (pc' := 10) 5 3 rfl rfl rfl ?_
  refine v_aload_n (pc' := 11) 6 0 rfl rfl rfl rfl ?_
  refine v_cV (Y2 := Y_X9_nets) (As := []) (b := 436) (pc' := 14) (c1 := 0) (s1 := 0) 7 rfl rfl mf_X9_nets rfl rfl ml_X9_95 mi_X9_nets se_X9_nets (ci := 8) rfl ly_436 (lay_lt ly_436 (by decide)) rfl (Nat.le_of_ble_eq_true rfl) ⟨Nat.le_of_ble_eq_true rfl, Nat.le_of_ble_eq_true rfl⟩ rfl rfl (ok_X9_nets I L h) ?_ ?_
  · intro e9 u9 hx9
    exact hx9.elim
  intro v9 u9 hv9
  obtain ⟨r1534, rfl, rfl, h⟩ := hv9
  refine ⟨fun q => absurd q (Nat.lt_irrefl _), ?_⟩
  show V G Y_X9_touched 14 _ (.int r1534 :: _) _ _ _ _ _
  refine v_icmp_ge (tgt := 136) (pc' := 17) 8 rfl rfl (by decide) (fun hc => ?_) (fun hc => ?_)
  · replace h := h.1 hc
    refine v_lload_n (pc' := 137) 73 2 rfl rfl rfl rfl ?_
    exact v_lret 74 rfl rfl (by decide) (by decide) ⟨_, rfl, rfl, h⟩
  replace h := h.2 hc
  refine v_aload_n (pc' := 18) 9 0 rfl rfl rfl rfl ?_
  refine v_iload (pc' := 20) 10 3 rfl rfl rfl ?_
  refine v_cV (Y2 := Y_X9_dependence) (As := [.int v4]) (b := 436) (pc' := 23) (c1 := 0) (s1 := 0) 11 rfl rfl mf_X9_dependence rfl rfl ml_X9_99 mi_X9_dependence se_X9_dependence (ci := 8) rfl ly_436 (lay_lt ly_436 (by decide)) rfl (Nat.le_of_ble_eq_true rfl) ⟨Nat.le_of_ble_eq_true rfl, Nat.le_of_ble_eq_true rfl⟩ rfl rfl (ok_X9_dependence v4 I L h) ?_ ?_
  · intro e9 u9 hx9
    exact hx9.elim
  intro v9 u9 hv9
  obtain ⟨r1535, rfl, rfl, h⟩ := hv9
  refine ⟨fun q => absurd q (Nat.lt_irrefl _), ?_⟩
  show V G Y_X9_touched 23 _ (.long r1535 :: _) _ _ _ _ _
  refine v_lstore (ls' := [(5, .long r1535), (0, .ref 436), (1, .int v1), (2, .long v2), (4, .int v4)]) (pc' := 25) 12 rfl rfl (by decide) rfl ?_
  refine v_iload_n (pc' := 26) 13 2 rfl rfl rfl rfl ?_
  refine v_aload_n (pc' := 27) 14 1 rfl rfl rfl rfl ?_
  refine v_getI (pc' := 30) 15 rfl rfl pf_X9_77 ly_436 (lay_lt ly_436 (by decide)) ?_
  refine v_icmp_lt (tgt := 48) (pc' := 33) 16 rfl rfl (by decide) (fun hc => ?_) (fun hc => ?_)
  · replace h := h.1 hc
    refine V.sub [1, 2, 3, 4, 0] rfl ?_
    exact b_X9_touched_48 v1 v2 v4 r1535 I L Q R8 hR8 h
  replace h := h.2 hc
  refine v_lload (pc' := 35) 17 0 rfl rfl rfl ?_
  refine v_iload_n (pc' := 36) 18 2 rfl rfl rfl rfl ?_
  refine v_lshr (pc' := 37) 19 rfl rfl ?_
  refine v_lconst (v := 1) (pc' := 38) 20 rfl rfl (by decide) ?_
  refine v_land (pc' := 39) 21 rfl rfl ?_
  refine v_lconst (v := 1) (pc' := 40) 22 rfl rfl (by decide) ?_
  refine v_lc_ne (tgt := 48) (pc' := 44) 23 24 rfl rfl rfl (by decide) (fun hc => ?_) (fun hc => ?_)
  · replace h := h.1 hc
    refine V.sub [1, 2, 3, 4, 0] rfl ?_
    exact b_X9_touched_48 v1 v2 v4 r1535 I L Q R8 hR8 h
  replace h := h.2 hc
  refine v_iconst (v := 1) (pc' := 45) 25 rfl rfl (by decide) ?_
  refine v_goto (tgt := 49) 26 rfl (by decide) ?_
  refine V.sub [1, 2, 3, 4, 0] rfl ?_
  exact b_X9_touched_49 v1 v2 v4 r1535 (1 : Int32) I L Q R8 hR8 h
theorem l_X9_touched_8 {G : GT} {b d t : Nat} (v1 : Int32) (I : TI) (L : TL)  (Q : Int64 → Prop)  : ∀ (n9 : Nat) (v2 : Int64) (v4 : Int32), L_X9_touched_8 v1 I L Q n9 v2 v4 → V G Y_X9_touched 8 [(0, .ref 436), (1, .int v1), (2, .long v2), (4, .int v4)] [] (I, L, RT b d t, 457) 0 0 (fun v9 u9 => ∃ (r9 : Int64), v9 = some (.long r9) ∧ u9 = (I, L, RT b d t, 457) ∧ Q r9) (fun _ _ => False)
  | 0, _, _, h => h.elim
  | n9 + 1, v2, v4, h => d_X9_touched_8 v1 I L Q _ (l_X9_touched_8 v1 I L Q n9) v2 v4 h
set_option maxHeartbeats 4000000 in
set_option maxRecDepth 100000 in
theorem ok_X9_touched {G : GT} {b d t : Nat} (p1 : Int32) (I : TI) (L : TL)  {Q : Int64 → Prop} (h : W_X9_touched p1 I L Q) : MW G Y_X9_touched [.ref 436, .int p1] (I, L, RT b d t, 457) (fun v9 u9 => ∃ (r9 : Int64), v9 = some (.long r9) ∧ u9 = (I, L, RT b d t, 457) ∧ Q r9) (fun _ _ => False) := by
  unfold W_X9_touched at h
  refine MW.intro rfl (by decide) is_X9_touched (Nat.le_of_ble_eq_true rfl) ?_
  show V G Y_X9_touched 0 [(0, .ref 436), (1, .int p1)] [] (I, L, RT b d t, 457) 0 0 _ _
  refine v_lconst (v := 0) (pc' := 1) 0 rfl rfl (by decide) ?_
  refine v_lstore_n (ls' := [(2, .long 0), (0, .ref 436), (1, .int p1)]) (pc' := 2) 1 rfl rfl rfl (by decide) rfl ?_
  refine v_aload_n (pc' := 3) 2 1 rfl rfl rfl rfl ?_
  refine v_getI (pc' := 6) 3 rfl rfl pf_X9_77 ly_436 (lay_lt ly_436 (by decide)) ?_
  refine v_istore (ls' := [(4, .int (I 436 10)), (2, .long 0), (0, .ref 436), (1, .int p1)]) (pc' := 8) 4 rfl rfl (by decide) rfl ?_
  refine V.sub [2, 3, 1, 0] rfl ?_
  obtain ⟨n1536, h⟩ := h
  exact l_X9_touched_8 p1 I L Q n1536 (0 : Int64) (I 436 10) h
set_option maxHeartbeats 4000000 in
set_option maxRecDepth 100000 in
theorem ok_X9_made {G : GT} {b d t : Nat} (p1 : Int32) (p2 : Int64) (p4 : Int64) (I : TI) (L : TL)  {Q : Int64 → Prop} (h : W_X9_made p1 p2 p4 I L Q) : MW G Y_X9_made [.ref 436, .int p1, .long p2, .long p4] (I, L, RT b d t, 457) (fun v9 u9 => ∃ (r9 : Int64), v9 = some (.long r9) ∧ u9 = (I, L, RT b d t, 457) ∧ Q r9) (fun _ _ => False) := by
  unfold W_X9_made at h
  refine MW.intro rfl (by decide) is_X9_made (Nat.le_of_ble_eq_true rfl) ?_
  show V G Y_X9_made 0 [(0, .ref 436), (1, .int p1), (2, .long p2), (4, .long p4)] [] (I, L, RT b d t, 457) 0 0 _ _
  refine v_iconst (v := 0) (pc' := 1) 0 rfl rfl (by decide) ?_
  refine v_aload_n (pc' := 2) 1 0 rfl rfl rfl rfl ?_
  refine v_getI (pc' := 5) 2 rfl rfl pf_X9_86 ly_436 (lay_lt ly_436 (by decide)) ?_
  refine v_cS (Y2 := Y_X9_times) (As := [.int 0, .int (I 436 7)]) (pc' := 8) (c1 := 0) (s1 := 0) 3 rfl rfl mf_X9_times rfl rfl ml_X9_107 ms_X9_times rfl (Nat.le_of_ble_eq_true rfl) ⟨Nat.le_of_ble_eq_true rfl, Nat.le_of_ble_eq_true rfl⟩ rfl rfl (ok_X9_times (0 : Int32) (I 436 7) I L h) ?_ ?_
  · intro e9 u9 hx9
    exact hx9.elim
  intro v9 u9 hv9
  obtain ⟨r1539, rfl, rfl, h⟩ := hv9
  refine ⟨fun q => absurd q (Nat.lt_irrefl _), ?_⟩
  show V G Y_X9_made 8 _ (.long r1539 :: _) _ _ _ _ _
  refine v_lstore (ls' := [(6, .long r1539), (0, .ref 436), (1, .int p1), (2, .long p2), (4, .long p4)]) (pc' := 10) 4 rfl rfl (by decide) rfl ?_
  refine v_aload_n (pc' := 11) 5 1 rfl rfl rfl rfl ?_
  refine v_getR (t := 441) (pc' := 14) 6 rfl rfl pf_X9_22 ly_436 (lay_lt ly_436 (by decide)) rt_436_12 ?_
  refine v_iload_n (pc' := 15) 7 2 rfl rfl rfl rfl ?_
  obtain ⟨hi1540, h⟩ := h
  refine v_iald (i := p1) (j := p1.toNatClampNeg) (pc' := 16) 8 rfl rfl ly_441 ln_441 (lay_lt ly_441 (by decide)) hi1540 rfl ?_
  refine v_ts (clo := 0) (chi := 5) (dt := 104) 9 6 [56, 61, 66, 71, 83, 95] rfl (by decide) (by decide) (by decide) (by decide) (by decide) ?_ (fun hc => ?_)
  · intro j9 t9 ht9 hj9 hx9
    match j9, ht9, hj9, hx9 with
    | 0, ht9, hj9, hx9 =>
      cases ht9
      replace hx9 := hx9.trans (show Int32.ofInt _ = (0 : Int32) by decide)
      replace h := h.1 hx9
      refine v_lload_n (pc' := 57) 10 3 rfl rfl rfl rfl ?_
      refine v_lload (pc' := 59) 11 4 rfl rfl rfl ?_
      refine v_land (pc' := 60) 12 rfl rfl ?_
      exact v_lret 13 rfl rfl (by decide) (by decide) ⟨_, rfl, rfl, h⟩
    | 1, ht9, hj9, hx9 =>
      cases ht9
      replace hx9 := hx9.trans (show Int32.ofInt _ = (1 : Int32) by decide)
      replace h := h.2.1 hx9
      refine v_lload_n (pc' := 62) 14 3 rfl rfl rfl rfl ?_
      refine v_lload (pc' := 64) 15 4 rfl rfl rfl ?_
      refine v_lor (pc' := 65) 16 rfl rfl ?_
      exact v_lret 17 rfl rfl (by decide) (by decide) ⟨_, rfl, rfl, h⟩
    | 2, ht9, hj9, hx9 =>
      cases ht9
      replace hx9 := hx9.trans (show Int32.ofInt _ = (2 : Int32) by decide)
      replace h := h.2.2.1 hx9
      refine v_lload_n (pc' := 67) 18 3 rfl rfl rfl rfl ?_
      refine v_lload (pc' := 69) 19 4 rfl rfl rfl ?_
      refine v_lxor (pc' := 70) 20 rfl rfl ?_
      exact v_lret 21 rfl rfl (by decide) (by decide) ⟨_, rfl, rfl, h⟩
    | 3, ht9, hj9, hx9 =>
      cases ht9
      replace hx9 := hx9.trans (show Int32.ofInt _ = (3 : Int32) by decide)
      replace h := h.2.2.2.1 hx9
      refine v_lload_n (pc' := 72) 22 3 rfl rfl rfl rfl ?_
      refine v_lload (pc' := 74) 23 4 rfl rfl rfl ?_
      refine v_land (pc' := 75) 24 rfl rfl ?_
      refine v_ldc2 (v := -1) (pc' := 78) 25 rfl rfl kl_X9_111 ?_
      refine v_lxor (pc' := 79) 26 rfl rfl ?_
      refine v_lload (pc' := 81) 27 0 rfl rfl rfl ?_
      refine v_land (pc' := 82) 28 rfl rfl ?_
      exact v_lret 29 rfl rfl (by decide) (by decide) ⟨_, rfl, rfl, h⟩
    | 4, ht9, hj9, hx9 =>
      cases ht9
      replace hx9 := hx9.trans (show Int32.ofInt _ = (4 : Int32) by decide)
      replace h := h.2.2.2.2.1 hx9
      refine v_lload_n (pc' := 84) 30 3 rfl rfl rfl rfl ?_
      refine v_lload (pc' := 86) 31 4 rfl rfl rfl ?_
      refine v_lor (pc' := 87) 32 rfl rfl ?_
      refine v_ldc2 (v := -1) (pc' := 90) 33 rfl rfl kl_X9_111 ?_
      refine v_lxor (pc' := 91) 34 rfl rfl ?_
      refine v_lload (pc' := 93) 35 0 rfl rfl rfl ?_
      refine v_land (pc' := 94) 36 rfl rfl ?_
      exact v_lret 37 rfl rfl (by decide) (by decide) ⟨_, rfl, rfl, h⟩
    | 5, ht9, hj9, hx9 =>
      cases ht9
      replace hx9 := hx9.trans (show Int32.ofInt _ = (5 : Int32) by decide)
      replace h := h.2.2.2.2.2.1 hx9
      refine v_lload_n (pc' := 96) 38 3 rfl rfl rfl rfl ?_
      refine v_ldc2 (v := -1) (pc' := 99) 39 rfl rfl kl_X9_111 ?_
      refine v_lxor (pc' := 100) 40 rfl rfl ?_
      refine v_lload (pc' := 102) 41 0 rfl rfl rfl ?_
      refine v_land (pc' := 103) 42 rfl rfl ?_
      exact v_lret 43 rfl rfl (by decide) (by decide) ⟨_, rfl, rfl, h⟩
    | q9 + 6, ht9, hj9, hx9 => exact absurd hj9 (by omega)
  replace h := h.2.2.2.2.2.2 hc
  refine v_lload_n (pc' := 105) 44 3 rfl rfl rfl rfl ?_
  exact v_lret 45 rfl rfl (by decide) (by decide) ⟨_, rfl, rfl, h⟩
set_option maxHeartbeats 4000000 in
set_option maxRecDepth 100000 in
theorem ok_X9_ideal {G : GT} {b d t : Nat} (p0 : Nat) (p1 : Int32) (I : TI) (L : TL) (hp0 : LAY p0 = 21) (hp0n : LEN p0 = 16) {Q : Int64 → Prop} (h : W_X9_ideal p0 p1 I L Q) : MW G Y_X9_ideal [.ref p0, .int p1] (I, L, RT b d t, 457) (fun v9 u9 => ∃ (r9 : Int64), v9 = some (.long r9) ∧ u9 = (I, L, RT b d t, 457) ∧ Q r9) (fun _ _ => False) := by
  unfold W_X9_ideal at h
  refine MW.intro rfl (by decide) is_X9_ideal (Nat.le_of_ble_eq_true rfl) ?_
  show V G Y_X9_ideal 0 [(0, .ref p0), (1, .int p1)] [] (I, L, RT b d t, 457) 0 0 _ _
  refine v_iload_n (pc' := 1) 0 1 rfl rfl rfl rfl ?_
  refine v_iconst (v := -1) (pc' := 2) 1 rfl rfl (by decide) ?_
  refine v_icmp_ne (tgt := 9) (pc' := 5) 2 rfl rfl (by decide) (fun hc => ?_) (fun hc => ?_)
  · replace h := h.1 hc
    refine v_aload_n (pc' := 10) 5 0 rfl rfl rfl rfl ?_
    refine v_iload_n (pc' := 11) 6 1 rfl rfl rfl rfl ?_
    obtain ⟨hi1542, h⟩ := h
    refine v_lald (i := p1) (j := p1.toNatClampNeg) (pc' := 12) 7 rfl rfl hp0 hp0n (lay_lt hp0 (by decide)) hi1542 rfl ?_
    exact v_lret 8 rfl rfl (by decide) (by decide) ⟨_, rfl, rfl, h⟩
  replace h := h.2 hc
  refine v_lconst (v := 0) (pc' := 6) 3 rfl rfl (by decide) ?_
  refine v_goto (tgt := 12) 4 rfl (by decide) ?_
  exact v_lret 8 rfl rfl (by decide) (by decide) ⟨_, rfl, rfl, h⟩
set_option maxHeartbeats 4000000 in
set_option maxRecDepth 100000 in
theorem b_X9_late_32 {G : GT} {b d t : Nat} (v1 : Int64) (v3 : Int32) (v6 : Int32) (s0 : Int64) (s1 : Int64) (s2 : Int32) (I : TI) (L : TL)  (Q : Int64 → Prop) (R6 : Int64 → Int32 → Prop) (hR6 : ∀ (v4 : Int64) (v6 : Int32), R6 v4 v6 → V G Y_X9_late 6 [(0, .ref 436), (1, .long v1), (3, .int v3), (4, .long v4), (6, .int v6)] [] (I, L, RT b d t, 457) 0 0 (fun v9 u9 => ∃ (r9 : Int64), v9 = some (.long r9) ∧ u9 = (I, L, RT b d t, 457) ∧ Q r9) (fun _ _ => False)) (h : B_X9_late_32 v1 v3 v6 s0 s1 s2 I L Q R6) : V G Y_X9_late 32 [(0, .ref 436), (1, .long v1), (3, .int v3), (6, .int v6)] [.int s2, .long s1, .long s0] (I, L, RT b d t, 457) 0 0 (fun v9 u9 => ∃ (r9 : Int64), v9 = some (.long r9) ∧ u9 = (I, L, RT b d t, 457) ∧ Q r9) (fun _ _ => False) := by
  unfold B_X9_late_32 at h
  refine v_cS (Y2 := Y_X9_bit) (As := [.long s1, .int s2]) (pc' := 35) (c1 := 0) (s1 := 0) 18 rfl rfl mf_X9_bit rfl rfl ml_X9_113 ms_X9_bit rfl (Nat.le_of_ble_eq_true rfl) ⟨Nat.le_of_ble_eq_true rfl, Nat.le_of_ble_eq_true rfl⟩ rfl rfl (ok_X9_bit s1 s2 I L h) ?_ ?_
  · intro e9 u9 hx9
    exact hx9.elim
  intro v9 u9 hv9
  obtain ⟨r1544, rfl, rfl, h⟩ := hv9
  refine ⟨fun q => absurd q (Nat.lt_irrefl _), ?_⟩
  show V G Y_X9_late 35 _ (.int r1544 :: _) _ _ _ _ _
  refine v_i2l (pc' := 36) 19 rfl rfl ?_
  refine v_iload (pc' := 38) 20 3 rfl rfl rfl ?_
  refine v_lshl (pc' := 39) 21 rfl rfl ?_
  refine v_lor (pc' := 40) 22 rfl rfl ?_
  refine nm_J (e := (s0 ||| (shlL (r1544.toInt64) v6))) (fun x1545 hx1545 => ?_)
  replace h := h x1545 hx1545
  refine v_lstore (ls' := [(4, .long x1545), (0, .ref 436), (1, .long v1), (3, .int v3), (6, .int v6)]) (pc' := 42) 23 rfl rfl (by decide) rfl ?_
  refine v_iinc (v := (v6 + 1)) (ls' := [(6, .int (v6 + 1)), (4, .long x1545), (0, .ref 436), (1, .long v1), (3, .int v3)]) (pc' := 45) 24 4 rfl rfl rfl rfl (by decide) rfl ?_
  refine v_goto (tgt := 6) 25 rfl (by decide) ?_
  refine V.sub [2, 3, 4, 1, 0] rfl ?_
  exact hR6 x1545 (v6 + 1) h
set_option maxHeartbeats 4000000 in
set_option maxRecDepth 100000 in
theorem d_X9_late_6 {G : GT} {b d t : Nat} (v1 : Int64) (v3 : Int32) (I : TI) (L : TL)  (Q : Int64 → Prop) (R6 : Int64 → Int32 → Prop)  (hR6 : ∀ (v4 : Int64) (v6 : Int32), R6 v4 v6 → V G Y_X9_late 6 [(0, .ref 436), (1, .long v1), (3, .int v3), (4, .long v4), (6, .int v6)] [] (I, L, RT b d t, 457) 0 0 (fun v9 u9 => ∃ (r9 : Int64), v9 = some (.long r9) ∧ u9 = (I, L, RT b d t, 457) ∧ Q r9) (fun _ _ => False)) (v4 : Int64) (v6 : Int32)  (h : D_X9_late_6 v1 v3 I L Q R6 v4 v6) : V G Y_X9_late 6 [(0, .ref 436), (1, .long v1), (3, .int v3), (4, .long v4), (6, .int v6)] [] (I, L, RT b d t, 457) 0 0 (fun v9 u9 => ∃ (r9 : Int64), v9 = some (.long r9) ∧ u9 = (I, L, RT b d t, 457) ∧ Q r9) (fun _ _ => False) := by
  unfold D_X9_late_6 at h
  refine v_iload (pc' := 8) 4 4 rfl rfl rfl ?_
  refine v_aload_n (pc' := 9) 5 0 rfl rfl rfl rfl ?_
  refine v_getI (pc' := 12) 6 rfl rfl pf_X9_86 ly_436 (lay_lt ly_436 (by decide)) ?_
  refine v_icmp_gt (tgt := 48) (pc' := 15) 7 rfl rfl (by decide) (fun hc => ?_) (fun hc => ?_)
  · replace h := h.1 hc
    refine v_lload (pc' := 50) 26 3 rfl rfl rfl ?_
    exact v_lret 27 rfl rfl (by decide) (by decide) ⟨_, rfl, rfl, h⟩
  replace h := h.2 hc
  refine v_lload (pc' := 17) 8 3 rfl rfl rfl ?_
  refine v_lload_n (pc' := 18) 9 1 rfl rfl rfl rfl ?_
  refine v_iload (pc' := 20) 10 4 rfl rfl rfl ?_
  refine v_iload_n (pc' := 21) 11 2 rfl rfl rfl rfl ?_
  refine v_icmp_ge (tgt := 28) (pc' := 24) 12 rfl rfl (by decide) (fun hc => ?_) (fun hc => ?_)
  · replace h := h.1 hc
    refine v_iload (pc' := 30) 15 4 rfl rfl rfl ?_
    refine v_iload_n (pc' := 31) 16 2 rfl rfl rfl rfl ?_
    refine v_isub (pc' := 32) 17 rfl rfl ?_
    refine V.sub [0, 1, 2, 4] rfl ?_
    exact b_X9_late_32 v1 v3 v6 v4 v1 (v6 - v3) I L Q R6 hR6 h
  replace h := h.2 hc
  refine v_iconst (v := 0) (pc' := 25) 13 rfl rfl (by decide) ?_
  refine v_goto (tgt := 32) 14 rfl (by decide) ?_
  refine V.sub [0, 1, 2, 4] rfl ?_
  exact b_X9_late_32 v1 v3 v6 v4 v1 (0 : Int32) I L Q R6 hR6 h
theorem l_X9_late_6 {G : GT} {b d t : Nat} (v1 : Int64) (v3 : Int32) (I : TI) (L : TL)  (Q : Int64 → Prop)  : ∀ (n9 : Nat) (v4 : Int64) (v6 : Int32), L_X9_late_6 v1 v3 I L Q n9 v4 v6 → V G Y_X9_late 6 [(0, .ref 436), (1, .long v1), (3, .int v3), (4, .long v4), (6, .int v6)] [] (I, L, RT b d t, 457) 0 0 (fun v9 u9 => ∃ (r9 : Int64), v9 = some (.long r9) ∧ u9 = (I, L, RT b d t, 457) ∧ Q r9) (fun _ _ => False)
  | 0, _, _, h => h.elim
  | n9 + 1, v4, v6, h => d_X9_late_6 v1 v3 I L Q _ (l_X9_late_6 v1 v3 I L Q n9) v4 v6 h
set_option maxHeartbeats 4000000 in
set_option maxRecDepth 100000 in
theorem ok_X9_late {G : GT} {b d t : Nat} (p1 : Int64) (p3 : Int32) (I : TI) (L : TL)  {Q : Int64 → Prop} (h : W_X9_late p1 p3 I L Q) : MW G Y_X9_late [.ref 436, .long p1, .int p3] (I, L, RT b d t, 457) (fun v9 u9 => ∃ (r9 : Int64), v9 = some (.long r9) ∧ u9 = (I, L, RT b d t, 457) ∧ Q r9) (fun _ _ => False) := by
  unfold W_X9_late at h
  refine MW.intro rfl (by decide) is_X9_late (Nat.le_of_ble_eq_true rfl) ?_
  show V G Y_X9_late 0 [(0, .ref 436), (1, .long p1), (3, .int p3)] [] (I, L, RT b d t, 457) 0 0 _ _
  refine v_lconst (v := 0) (pc' := 1) 0 rfl rfl (by decide) ?_
  refine v_lstore (ls' := [(4, .long 0), (0, .ref 436), (1, .long p1), (3, .int p3)]) (pc' := 3) 1 rfl rfl (by decide) rfl ?_
  refine v_iconst (v := 0) (pc' := 4) 2 rfl rfl (by decide) ?_
  refine v_istore (ls' := [(6, .int 0), (4, .long 0), (0, .ref 436), (1, .long p1), (3, .int p3)]) (pc' := 6) 3 rfl rfl (by decide) rfl ?_
  refine V.sub [2, 3, 4, 1, 0] rfl ?_
  obtain ⟨n1546, h⟩ := h
  exact l_X9_late_6 p1 p3 I L Q n1546 (0 : Int64) (0 : Int32) h
set_option maxHeartbeats 4000000 in
set_option maxRecDepth 100000 in
theorem d_X9_isSteady_12 {G : GT} {b d t : Nat} (v0 : Int64) (v2 : Int32) (I : TI) (L : TL)  (Q : Int32 → Prop) (R12 : Int32 → Prop)  (hR12 : ∀ (v4 : Int32), R12 v4 → V G Y_X9_isSteady 12 [(0, .long v0), (2, .int v2), (4, .int v4)] [] (I, L, RT b d t, 457) 0 0 (fun v9 u9 => ∃ (r9 : Int32), v9 = some (.int r9) ∧ u9 = (I, L, RT b d t, 457) ∧ Q r9) (fun _ _ => False)) (v4 : Int32)  (h : D_X9_isSteady_12 v0 v2 I L Q R12 v4) : V G Y_X9_isSteady 12 [(0, .long v0), (2, .int v2), (4, .int v4)] [] (I, L, RT b d t, 457) 0 0 (fun v9 u9 => ∃ (r9 : Int32), v9 = some (.int r9) ∧ u9 = (I, L, RT b d t, 457) ∧ Q r9) (fun _ _ => False) := by
  unfold D_X9_isSteady_12 at h
  refine v_iload (pc' := 14) 9 2 rfl rfl rfl ?_
  refine v_iload_n (pc' := 15) 10 1 rfl rfl rfl rfl ?_
  refine v_icmp_ge (tgt := 40) (pc' := 18) 11 rfl rfl (by decide) (fun hc => ?_) (fun hc => ?_)
  · replace h := h.1 hc
    refine v_iconst (v := 1) (pc' := 41) 23 rfl rfl (by decide) ?_
    exact v_bret 24 rfl rfl (by decide) (by decide) (by decide) ⟨_, rfl, rfl, h⟩
  replace h := h.2 hc
  refine v_lload_n (pc' := 19) 12 0 rfl rfl rfl rfl ?_
  refine v_iload (pc' := 21) 13 2 rfl rfl rfl ?_
  refine v_cS (Y2 := Y_X9_bit) (As := [.long v0, .int v4]) (pc' := 24) (c1 := 0) (s1 := 0) 14 rfl rfl mf_X9_bit rfl rfl ml_X9_113 ms_X9_bit rfl (Nat.le_of_ble_eq_true rfl) ⟨Nat.le_of_ble_eq_true rfl, Nat.le_of_ble_eq_true rfl⟩ rfl rfl (ok_X9_bit v0 v4 I L h) ?_ ?_
  · intro e9 u9 hx9
    exact hx9.elim
  intro v9 u9 hv9
  obtain ⟨r1551, rfl, rfl, h⟩ := hv9
  refine ⟨fun q => absurd q (Nat.lt_irrefl _), ?_⟩
  show V G Y_X9_isSteady 24 _ (.int r1551 :: _) _ _ _ _ _
  refine v_lload_n (pc' := 25) 15 0 rfl rfl rfl rfl ?_
  refine v_iload_n (pc' := 26) 16 1 rfl rfl rfl rfl ?_
  refine v_cS (Y2 := Y_X9_bit) (As := [.long v0, .int v2]) (pc' := 29) (c1 := 0) (s1 := 0) 17 rfl rfl mf_X9_bit rfl rfl ml_X9_113 ms_X9_bit rfl (Nat.le_of_ble_eq_true rfl) ⟨Nat.le_of_ble_eq_true rfl, Nat.le_of_ble_eq_true rfl⟩ rfl rfl (ok_X9_bit v0 v2 I L h) ?_ ?_
  · intro e9 u9 hx9
    exact hx9.elim
  intro v9 u9 hv9
  obtain ⟨r1552, rfl, rfl, h⟩ := hv9
  refine ⟨fun q => absurd q (Nat.lt_irrefl _), ?_⟩
  show V G Y_X9_isSteady 29 _ (.int r1552 :: _) _ _ _ _ _
  refine v_icmp_eq (tgt := 34) (pc' := 32) 18 rfl rfl (by decide) (fun hc => ?_) (fun hc => ?_)
  · replace h := h.1 hc
    refine v_iinc (v := (v4 + 1)) (ls' := [(4, .int (v4 + 1)), (0, .long v0), (2, .int v2)]) (pc' := 37) 21 2 rfl rfl rfl rfl (by decide) rfl ?_
    refine v_goto (tgt := 12) 22 rfl (by decide) ?_
    refine V.sub [1, 2, 0] rfl ?_
    exact hR12 (v4 + 1) h
  replace h := h.2 hc
  refine v_iconst (v := 0) (pc' := 33) 19 rfl rfl (by decide) ?_
  exact v_bret 20 rfl rfl (by decide) (by decide) (by decide) ⟨_, rfl, rfl, h⟩
theorem l_X9_isSteady_12 {G : GT} {b d t : Nat} (v0 : Int64) (v2 : Int32) (I : TI) (L : TL)  (Q : Int32 → Prop)  : ∀ (n9 : Nat) (v4 : Int32), L_X9_isSteady_12 v0 v2 I L Q n9 v4 → V G Y_X9_isSteady 12 [(0, .long v0), (2, .int v2), (4, .int v4)] [] (I, L, RT b d t, 457) 0 0 (fun v9 u9 => ∃ (r9 : Int32), v9 = some (.int r9) ∧ u9 = (I, L, RT b d t, 457) ∧ Q r9) (fun _ _ => False)
  | 0, _, h => h.elim
  | n9 + 1, v4, h => d_X9_isSteady_12 v0 v2 I L Q _ (l_X9_isSteady_12 v0 v2 I L Q n9) v4 h
set_option maxHeartbeats 4000000 in
set_option maxRecDepth 100000 in
theorem ok_X9_isSteady {G : GT} {b d t : Nat} (p0 : Int64) (p2 : Int32) (p3 : Int32) (I : TI) (L : TL)  {Q : Int32 → Prop} (h : W_X9_isSteady p0 p2 p3 I L Q) : MW G Y_X9_isSteady [.long p0, .int p2, .int p3] (I, L, RT b d t, 457) (fun v9 u9 => ∃ (r9 : Int32), v9 = some (.int r9) ∧ u9 = (I, L, RT b d t, 457) ∧ Q r9) (fun _ _ => False) := by
  unfold W_X9_isSteady at h
  refine MW.intro rfl (by decide) is_X9_isSteady (Nat.le_of_ble_eq_true rfl) ?_
  show V G Y_X9_isSteady 0 [(0, .long p0), (2, .int p2), (3, .int p3)] [] (I, L, RT b d t, 457) 0 0 _ _
  refine v_iload_n (pc' := 1) 0 1 rfl rfl rfl rfl ?_
  refine v_iload_n (pc' := 2) 1 2 rfl rfl rfl rfl ?_
  refine v_icmp_ge (tgt := 7) (pc' := 5) 2 rfl rfl (by decide) (fun hc => ?_) (fun hc => ?_)
  · replace h := h.1 hc
    refine v_iload_n (pc' := 8) 5 1 rfl rfl rfl rfl ?_
    refine v_iload_n (pc' := 9) 6 2 rfl rfl rfl rfl ?_
    refine v_isub (pc' := 10) 7 rfl rfl ?_
    refine v_istore (ls' := [(4, .int (p2 - p3)), (0, .long p0), (2, .int p2), (3, .int p3)]) (pc' := 12) 8 rfl rfl (by decide) rfl ?_
    refine V.sub [1, 2, 0] rfl ?_
    obtain ⟨n1553, h⟩ := h
    exact l_X9_isSteady_12 p0 p2 I L Q n1553 (p2 - p3) h
  replace h := h.2 hc
  refine v_iconst (v := 0) (pc' := 6) 3 rfl rfl (by decide) ?_
  exact v_bret 4 rfl rfl (by decide) (by decide) (by decide) ⟨_, rfl, rfl, h⟩
set_option maxHeartbeats 4000000 in
set_option maxRecDepth 100000 in
theorem b_X9_dearOf_80 {G : GT} {b d t : Nat} (v1 : Int32) (v2 : Int64) (v4 : Int64) (v6 : Int32) (v7 : Int32) (I : TI) (L : TL)  (Q : Int64 → Prop) (R15 : Int64 → Int32 → Int32 → Prop) (hR15 : ∀ (v4 : Int64) (v6 : Int32) (v7 : Int32), R15 v4 v6 v7 → V G Y_X9_dearOf 15 [(0, .ref 436), (1, .int v1), (2, .long v2), (4, .long v4), (6, .int v6), (7, .int v7)] [] (I, L, RT b d t, 457) 0 0 (fun v9 u9 => ∃ (r9 : Int64), v9 = some (.long r9) ∧ u9 = (I, L, RT b d t, 457) ∧ Q r9) (fun _ _ => False)) (h : B_X9_dearOf_80 v1 v2 v4 v6 v7 I L Q R15) : V G Y_X9_dearOf 80 [(0, .ref 436), (1, .int v1), (2, .long v2), (4, .long v4), (6, .int v6), (7, .int v7)] [] (I, L, RT b d t, 457) 0 0 (fun v9 u9 => ∃ (r9 : Int64), v9 = some (.long r9) ∧ u9 = (I, L, RT b d t, 457) ∧ Q r9) (fun _ _ => False) := by
  unfold B_X9_dearOf_80 at h
  refine v_lload (pc' := 82) 45 3 rfl rfl rfl ?_
  refine v_iload (pc' := 84) 46 4 rfl rfl rfl ?_
  refine v_i2l (pc' := 85) 47 rfl rfl ?_
  refine v_iload (pc' := 87) 48 5 rfl rfl rfl ?_
  refine v_lshl (pc' := 88) 49 rfl rfl ?_
  refine v_lor (pc' := 89) 50 rfl rfl ?_
  refine nm_J (e := (v4 ||| (shlL (v6.toInt64) v7))) (fun x1564 hx1564 => ?_)
  replace h := h x1564 hx1564
  refine v_lstore (ls' := [(4, .long x1564), (0, .ref 436), (1, .int v1), (2, .long v2), (6, .int v6), (7, .int v7)]) (pc' := 91) 51 rfl rfl (by decide) rfl ?_
  refine v_iinc (v := (v7 + 1)) (ls' := [(7, .int (v7 + 1)), (4, .long x1564), (0, .ref 436), (1, .int v1), (2, .long v2), (6, .int v6)]) (pc' := 94) 52 5 rfl rfl rfl rfl (by decide) rfl ?_
  refine v_goto (tgt := 15) 53 rfl (by decide) ?_
  refine V.sub [2, 3, 4, 1, 5, 0] rfl ?_
  exact hR15 x1564 v6 (v7 + 1) h
set_option maxHeartbeats 4000000 in
set_option maxRecDepth 100000 in
theorem b_X9_dearOf_53 {G : GT} {b d t : Nat} (v1 : Int32) (v2 : Int64) (v4 : Int64) (v6 : Int32) (v7 : Int32) (v8 : Int32) (s1 : Int32) (s2 : Int32) (I : TI) (L : TL)  (Q : Int64 → Prop) (R15 : Int64 → Int32 → Int32 → Prop) (hR15 : ∀ (v4 : Int64) (v6 : Int32) (v7 : Int32), R15 v4 v6 v7 → V G Y_X9_dearOf 15 [(0, .ref 436), (1, .int v1), (2, .long v2), (4, .long v4), (6, .int v6), (7, .int v7)] [] (I, L, RT b d t, 457) 0 0 (fun v9 u9 => ∃ (r9 : Int64), v9 = some (.long r9) ∧ u9 = (I, L, RT b d t, 457) ∧ Q r9) (fun _ _ => False)) (h : B_X9_dearOf_53 v1 v2 v4 v6 v7 v8 s1 s2 I L Q R15) : V G Y_X9_dearOf 53 [(0, .ref 436), (1, .int v1), (2, .long v2), (4, .long v4), (6, .int v6), (7, .int v7), (8, .int v8)] [.int s2, .int s1, .ref 437] (I, L, RT b d t, 457) 0 0 (fun v9 u9 => ∃ (r9 : Int64), v9 = some (.long r9) ∧ u9 = (I, L, RT b d t, 457) ∧ Q r9) (fun _ _ => False) := by
  unfold B_X9_dearOf_53 at h
  refine v_iadd (pc' := 54) 31 rfl rfl ?_
  obtain ⟨hi1565, h⟩ := h
  refine v_lald (i := (s1 + s2)) (j := (s1 + s2).toNatClampNeg) (pc' := 55) 32 rfl rfl ly_437 ln_437 (lay_lt ly_437 (by decide)) hi1565 rfl ?_
  refine v_l2i (pc' := 56) 33 rfl rfl ?_
  refine nm_I (e := (L 437 ((s1 + s2).toNatClampNeg)).toInt32) (fun x1566 hx1566 => ?_)
  replace h := h x1566 hx1566
  refine v_istore (ls' := [(9, .int x1566), (0, .ref 436), (1, .int v1), (2, .long v2), (4, .long v4), (6, .int v6), (7, .int v7), (8, .int v8)]) (pc' := 58) 34 rfl rfl (by decide) rfl ?_
  refine v_iload (pc' := 60) 35 7 rfl rfl rfl ?_
  refine v_iload (pc' := 62) 36 5 rfl rfl rfl ?_
  refine v_icmp_eq (tgt := 80) (pc' := 65) 37 rfl rfl (by decide) (fun hc => ?_) (fun hc => ?_)
  · replace h := h.1 hc
    refine V.sub [1, 2, 3, 4, 5, 6] rfl ?_
    exact b_X9_dearOf_80 v1 v2 v4 v6 v7 I L Q R15 hR15 h
  replace h := h.2 hc
  refine v_lload_n (pc' := 66) 38 3 rfl rfl rfl rfl ?_
  refine v_iload (pc' := 68) 39 6 rfl rfl rfl ?_
  refine v_iload (pc' := 70) 40 0 rfl rfl rfl ?_
  refine v_cS (Y2 := Y_X9_isSteady) (As := [.long v2, .int v7, .int x1566]) (pc' := 73) (c1 := 0) (s1 := 0) 41 rfl rfl mf_X9_isSteady rfl rfl ml_X9_117 ms_X9_isSteady rfl (Nat.le_of_ble_eq_true rfl) ⟨Nat.le_of_ble_eq_true rfl, Nat.le_of_ble_eq_true rfl⟩ rfl rfl (ok_X9_isSteady v2 v7 x1566 I L h) ?_ ?_
  · intro e9 u9 hx9
    exact hx9.elim
  intro v9 u9 hv9
  obtain ⟨r1567, rfl, rfl, h⟩ := hv9
  refine ⟨fun q => absurd q (Nat.lt_irrefl _), ?_⟩
  show V G Y_X9_dearOf 73 _ (.int r1567 :: _) _ _ _ _ _
  refine v_if_eq (tgt := 80) (pc' := 76) 42 rfl rfl (by decide) (fun hc => ?_) (fun hc => ?_)
  · replace h := h.1 hc
    refine V.sub [1, 2, 3, 4, 5, 6] rfl ?_
    exact b_X9_dearOf_80 v1 v2 v4 v6 v7 I L Q R15 hR15 h
  replace h := h.2 hc
  refine v_iload (pc' := 78) 43 7 rfl rfl rfl ?_
  refine v_istore (ls' := [(6, .int v8), (9, .int x1566), (0, .ref 436), (1, .int v1), (2, .long v2), (4, .long v4), (7, .int v7), (8, .int v8)]) (pc' := 80) 44 rfl rfl (by decide) rfl ?_
  refine V.sub [2, 3, 4, 5, 0, 6] rfl ?_
  exact b_X9_dearOf_80 v1 v2 v4 v8 v7 I L Q R15 hR15 h
set_option maxHeartbeats 4000000 in
set_option maxRecDepth 100000 in
theorem d_X9_dearOf_15 {G : GT} {b d t : Nat} (v1 : Int32) (v2 : Int64) (I : TI) (L : TL)  (Q : Int64 → Prop) (R15 : Int64 → Int32 → Int32 → Prop)  (hR15 : ∀ (v4 : Int64) (v6 : Int32) (v7 : Int32), R15 v4 v6 v7 → V G Y_X9_dearOf 15 [(0, .ref 436), (1, .int v1), (2, .long v2), (4, .long v4), (6, .int v6), (7, .int v7)] [] (I, L, RT b d t, 457) 0 0 (fun v9 u9 => ∃ (r9 : Int64), v9 = some (.long r9) ∧ u9 = (I, L, RT b d t, 457) ∧ Q r9) (fun _ _ => False)) (v4 : Int64) (v6 : Int32) (v7 : Int32)  (h : D_X9_dearOf_15 v1 v2 I L Q R15 v4 v6 v7) : V G Y_X9_dearOf 15 [(0, .ref 436), (1, .int v1), (2, .long v2), (4, .long v4), (6, .int v6), (7, .int v7)] [] (I, L, RT b d t, 457) 0 0 (fun v9 u9 => ∃ (r9 : Int64), v9 = some (.long r9) ∧ u9 = (I, L, RT b d t, 457) ∧ Q r9) (fun _ _ => False) := by
  unfold D_X9_dearOf_15 at h
  refine v_iload (pc' := 17) 10 5 rfl rfl rfl ?_
  refine v_aload_n (pc' := 18) 11 0 rfl rfl rfl rfl ?_
  refine v_getI (pc' := 21) 12 rfl rfl pf_X9_86 ly_436 (lay_lt ly_436 (by decide)) ?_
  refine v_icmp_gt (tgt := 97) (pc' := 24) 13 rfl rfl (by decide) (fun hc => ?_) (fun hc => ?_)
  · replace h := h.1 hc
    refine v_lload (pc' := 99) 54 3 rfl rfl rfl ?_
    exact v_lret 55 rfl rfl (by decide) (by decide) ⟨_, rfl, rfl, h⟩
  replace h := h.2 hc
  refine v_lload_n (pc' := 25) 14 2 rfl rfl rfl rfl ?_
  refine v_iload (pc' := 27) 15 5 rfl rfl rfl ?_
  refine v_cS (Y2 := Y_X9_bit) (As := [.long v2, .int v7]) (pc' := 30) (c1 := 0) (s1 := 0) 16 rfl rfl mf_X9_bit rfl rfl ml_X9_113 ms_X9_bit rfl (Nat.le_of_ble_eq_true rfl) ⟨Nat.le_of_ble_eq_true rfl, Nat.le_of_ble_eq_true rfl⟩ rfl rfl (ok_X9_bit v2 v7 I L h) ?_ ?_
  · intro e9 u9 hx9
    exact hx9.elim
  intro v9 u9 hv9
  obtain ⟨r1568, rfl, rfl, h⟩ := hv9
  refine ⟨fun q => absurd q (Nat.lt_irrefl _), ?_⟩
  show V G Y_X9_dearOf 30 _ (.int r1568 :: _) _ _ _ _ _
  refine v_istore (ls' := [(8, .int r1568), (0, .ref 436), (1, .int v1), (2, .long v2), (4, .long v4), (6, .int v6), (7, .int v7)]) (pc' := 32) 17 rfl rfl (by decide) rfl ?_
  refine v_aload_n (pc' := 33) 18 1 rfl rfl rfl rfl ?_
  refine v_getR (t := 437) (pc' := 36) 19 rfl rfl pf_X9_7 ly_436 (lay_lt ly_436 (by decide)) rt_436_1 ?_
  refine v_bipush (v := 45) (pc' := 38) 20 rfl rfl (by decide) ?_
  refine v_iconst (v := 3) (pc' := 39) 21 rfl rfl (by decide) ?_
  refine v_iload_n (pc' := 40) 22 2 rfl rfl rfl rfl ?_
  refine v_imul (pc' := 41) 23 rfl rfl ?_
  refine v_iadd (pc' := 42) 24 rfl rfl ?_
  refine v_iload (pc' := 44) 25 0 rfl rfl rfl ?_
  refine v_iconst (v := 1) (pc' := 45) 26 rfl rfl (by decide) ?_
  refine v_icmp_ne (tgt := 52) (pc' := 48) 27 rfl rfl (by decide) (fun hc => ?_) (fun hc => ?_)
  · replace h := h.1 hc
    refine v_iconst (v := 1) (pc' := 53) 30 rfl rfl (by decide) ?_
    refine V.sub [1, 2, 3, 4, 5, 6, 0] rfl ?_
    exact b_X9_dearOf_53 v1 v2 v4 v6 v7 r1568 ((45 : Int32) + ((3 : Int32) * v1)) (1 : Int32) I L Q R15 hR15 h
  replace h := h.2 hc
  refine v_iconst (v := 0) (pc' := 49) 28 rfl rfl (by decide) ?_
  refine v_goto (tgt := 53) 29 rfl (by decide) ?_
  refine V.sub [1, 2, 3, 4, 5, 6, 0] rfl ?_
  exact b_X9_dearOf_53 v1 v2 v4 v6 v7 r1568 ((45 : Int32) + ((3 : Int32) * v1)) (0 : Int32) I L Q R15 hR15 h
theorem l_X9_dearOf_15 {G : GT} {b d t : Nat} (v1 : Int32) (v2 : Int64) (I : TI) (L : TL)  (Q : Int64 → Prop)  : ∀ (n9 : Nat) (v4 : Int64) (v6 : Int32) (v7 : Int32), L_X9_dearOf_15 v1 v2 I L Q n9 v4 v6 v7 → V G Y_X9_dearOf 15 [(0, .ref 436), (1, .int v1), (2, .long v2), (4, .long v4), (6, .int v6), (7, .int v7)] [] (I, L, RT b d t, 457) 0 0 (fun v9 u9 => ∃ (r9 : Int64), v9 = some (.long r9) ∧ u9 = (I, L, RT b d t, 457) ∧ Q r9) (fun _ _ => False)
  | 0, _, _, _, h => h.elim
  | n9 + 1, v4, v6, v7, h => d_X9_dearOf_15 v1 v2 I L Q _ (l_X9_dearOf_15 v1 v2 I L Q n9) v4 v6 v7 h
set_option maxHeartbeats 4000000 in
set_option maxRecDepth 100000 in
theorem ok_X9_dearOf {G : GT} {b d t : Nat} (p1 : Int32) (p2 : Int64) (I : TI) (L : TL)  {Q : Int64 → Prop} (h : W_X9_dearOf p1 p2 I L Q) : MW G Y_X9_dearOf [.ref 436, .int p1, .long p2] (I, L, RT b d t, 457) (fun v9 u9 => ∃ (r9 : Int64), v9 = some (.long r9) ∧ u9 = (I, L, RT b d t, 457) ∧ Q r9) (fun _ _ => False) := by
  unfold W_X9_dearOf at h
  refine MW.intro rfl (by decide) is_X9_dearOf (Nat.le_of_ble_eq_true rfl) ?_
  show V G Y_X9_dearOf 0 [(0, .ref 436), (1, .int p1), (2, .long p2)] [] (I, L, RT b d t, 457) 0 0 _ _
  refine v_lload_n (pc' := 1) 0 2 rfl rfl rfl rfl ?_
  refine v_lconst (v := 1) (pc' := 2) 1 rfl rfl (by decide) ?_
  refine v_land (pc' := 3) 2 rfl rfl ?_
  refine v_lstore (ls' := [(4, .long (p2 &&& 1)), (0, .ref 436), (1, .int p1), (2, .long p2)]) (pc' := 5) 3 rfl rfl (by decide) rfl ?_
  refine v_lload_n (pc' := 6) 4 3 rfl rfl rfl rfl ?_
  refine v_iconst (v := 0) (pc' := 7) 5 rfl rfl (by decide) ?_
  refine v_cS (Y2 := Y_X9_bit) (As := [.long p2, .int 0]) (pc' := 10) (c1 := 0) (s1 := 0) 6 rfl rfl mf_X9_bit rfl rfl ml_X9_113 ms_X9_bit rfl (Nat.le_of_ble_eq_true rfl) ⟨Nat.le_of_ble_eq_true rfl, Nat.le_of_ble_eq_true rfl⟩ rfl rfl (ok_X9_bit p2 (0 : Int32) I L h) ?_ ?_
  · intro e9 u9 hx9
    exact hx9.elim
  intro v9 u9 hv9
  obtain ⟨r1569, rfl, rfl, h⟩ := hv9
  refine ⟨fun q => absurd q (Nat.lt_irrefl _), ?_⟩
  show V G Y_X9_dearOf 10 _ (.int r1569 :: _) _ _ _ _ _
  refine v_istore (ls' := [(6, .int r1569), (4, .long (p2 &&& 1)), (0, .ref 436), (1, .int p1), (2, .long p2)]) (pc' := 12) 7 rfl rfl (by decide) rfl ?_
  refine v_iconst (v := 1) (pc' := 13) 8 rfl rfl (by decide) ?_
  refine v_istore (ls' := [(7, .int 1), (6, .int r1569), (4, .long (p2 &&& 1)), (0, .ref 436), (1, .int p1), (2, .long p2)]) (pc' := 15) 9 rfl rfl (by decide) rfl ?_
  refine V.sub [3, 4, 5, 2, 1, 0] rfl ?_
  obtain ⟨n1570, h⟩ := h
  exact l_X9_dearOf_15 p1 p2 I L Q n1570 (p2 &&& 1) r1569 (1 : Int32) h
set_option maxHeartbeats 4000000 in
set_option maxRecDepth 100000 in
theorem d_X9_waves_60 {G : GT} {b d t : Nat} (I : TI)  (Q : TL → Prop) (R60 : Int32 → TL → Prop)  (hR60 : ∀ (v1 : Int32) (L : TL), R60 v1 L → V G Y_X9_waves 60 [(0, .ref 436), (1, .int v1)] [] (I, L, RT b d t, 457) 0 0 (fun v9 u9 => ∃ (L9 : TL), v9 = none ∧ u9 = (I, L9, RT b d t, 457) ∧ Q L9) (fun _ _ => False)) (v1 : Int32) (L : TL)  (h : D_X9_waves_60 I Q R60 v1 L) : V G Y_X9_waves 60 [(0, .ref 436), (1, .int v1)] [] (I, L, RT b d t, 457) 0 0 (fun v9 u9 => ∃ (L9 : TL), v9 = none ∧ u9 = (I, L9, RT b d t, 457) ∧ Q L9) (fun _ _ => False) := by
  unfold D_X9_waves_60 at h
  refine v_iload_n (pc' := 61) 40 1 rfl rfl rfl rfl ?_
  refine v_aload_n (pc' := 62) 41 0 rfl rfl rfl rfl ?_
  refine v_getI (pc' := 65) 42 rfl rfl pf_X9_83 ly_436 (lay_lt ly_436 (by decide)) ?_
  refine v_icmp_ge (tgt := 289) (pc' := 68) 43 rfl rfl (by decide) (fun hc => ?_) (fun hc => ?_)
  · replace h := h.1 hc
    exact v_vret 183 rfl rfl (by decide) (by decide) ⟨_, rfl, rfl, h⟩
  replace h := h.2 hc
  refine v_aload_n (pc' := 69) 44 0 rfl rfl rfl rfl ?_
  refine v_getI (pc' := 72) 45 rfl rfl pf_X9_77 ly_436 (lay_lt ly_436 (by decide)) ?_
  refine v_iload_n (pc' := 73) 46 1 rfl rfl rfl rfl ?_
  refine v_iadd (pc' := 74) 47 rfl rfl ?_
  refine v_istore_n (ls' := [(2, .int ((I 436 10) + v1)), (0, .ref 436), (1, .int v1)]) (pc' := 75) 48 rfl rfl rfl (by decide) rfl ?_
  refine v_aload_n (pc' := 76) 49 1 rfl rfl rfl rfl ?_
  refine v_getR (t := 437) (pc' := 79) 50 rfl rfl pf_X9_7 ly_436 (lay_lt ly_436 (by decide)) rt_436_1 ?_
  refine v_bipush (v := 45) (pc' := 81) 51 rfl rfl (by decide) ?_
  refine v_iconst (v := 3) (pc' := 82) 52 rfl rfl (by decide) ?_
  refine v_iload_n (pc' := 83) 53 2 rfl rfl rfl rfl ?_
  refine v_imul (pc' := 84) 54 rfl rfl ?_
  refine v_iadd (pc' := 85) 55 rfl rfl ?_
  refine v_iconst (v := 2) (pc' := 86) 56 rfl rfl (by decide) ?_
  refine v_iadd (pc' := 87) 57 rfl rfl ?_
  obtain ⟨hi1611, h⟩ := h
  refine v_lald (i := (((45 : Int32) + ((3 : Int32) * v1)) + 2)) (j := (((45 : Int32) + ((3 : Int32) * v1)) + 2).toNatClampNeg) (pc' := 88) 58 rfl rfl ly_437 ln_437 (lay_lt ly_437 (by decide)) hi1611 rfl ?_
  refine v_l2i (pc' := 89) 59 rfl rfl ?_
  refine nm_I (e := (L 437 ((((45 : Int32) + ((3 : Int32) * v1)) + 2).toNatClampNeg)).toInt32) (fun x1612 hx1612 => ?_)
  replace h := h x1612 hx1612
  refine v_istore_n (ls' := [(3, .int x1612), (2, .int ((I 436 10) + v1)), (0, .ref 436), (1, .int v1)]) (pc' := 90) 60 rfl rfl rfl (by decide) rfl ?_
  refine v_aload_n (pc' := 91) 61 2 rfl rfl rfl rfl ?_
  refine v_getR (t := 446) (pc' := 94) 62 rfl rfl pf_X9_38 ly_436 (lay_lt ly_436 (by decide)) rt_436_17 ?_
  refine v_iload_n (pc' := 95) 63 1 rfl rfl rfl rfl ?_
  refine v_aload_n (pc' := 96) 64 2 rfl rfl rfl rfl ?_
  refine v_iload_n (pc' := 97) 65 3 rfl rfl rfl rfl ?_
  refine v_aload_n (pc' := 98) 66 2 rfl rfl rfl rfl ?_
  refine v_iload_n (pc' := 99) 67 3 rfl rfl rfl rfl ?_
  refine v_aload_n (pc' := 100) 68 2 rfl rfl rfl rfl ?_
  refine v_getR (t := 446) (pc' := 103) 69 rfl rfl pf_X9_38 ly_436 (lay_lt ly_436 (by decide)) rt_436_17 ?_
  refine v_aload_n (pc' := 104) 70 2 rfl rfl rfl rfl ?_
  refine v_getR (t := 442) (pc' := 107) 71 rfl rfl pf_X9_26 ly_436 (lay_lt ly_436 (by decide)) rt_436_13 ?_
  refine v_iload_n (pc' := 108) 72 3 rfl rfl rfl rfl ?_
  obtain ⟨hi1613, h⟩ := h
  refine v_iald (i := v1) (j := v1.toNatClampNeg) (pc' := 109) 73 rfl rfl ly_442 ln_442 (lay_lt ly_442 (by decide)) hi1613 rfl ?_
  obtain ⟨hi1614, h⟩ := h
  refine v_lald (i := (I 442 (v1.toNatClampNeg))) (j := (I 442 (v1.toNatClampNeg)).toNatClampNeg) (pc' := 110) 74 rfl rfl ly_446 ln_446 (lay_lt ly_446 (by decide)) hi1614 rfl ?_
  refine v_aload_n (pc' := 111) 75 2 rfl rfl rfl rfl ?_
  refine v_getR (t := 446) (pc' := 114) 76 rfl rfl pf_X9_38 ly_436 (lay_lt ly_436 (by decide)) rt_436_17 ?_
  refine v_aload_n (pc' := 115) 77 2 rfl rfl rfl rfl ?_
  refine v_getR (t := 443) (pc' := 118) 78 rfl rfl pf_X9_29 ly_436 (lay_lt ly_436 (by decide)) rt_436_14 ?_
  refine v_iload_n (pc' := 119) 79 3 rfl rfl rfl rfl ?_
  obtain ⟨hi1615, h⟩ := h
  refine v_iald (i := v1) (j := v1.toNatClampNeg) (pc' := 120) 80 rfl rfl ly_443 ln_443 (lay_lt ly_443 (by decide)) hi1615 rfl ?_
  refine v_cS (Y2 := Y_X9_ideal) (As := [.ref 446, .int (I 443 (v1.toNatClampNeg))]) (pc' := 123) (c1 := 0) (s1 := 0) 81 rfl rfl mf_X9_ideal rfl rfl ml_X9_121 ms_X9_ideal rfl (Nat.le_of_ble_eq_true rfl) ⟨Nat.le_of_ble_eq_true rfl, Nat.le_of_ble_eq_true rfl⟩ rfl rfl (ok_X9_ideal 446 (I 443 (v1.toNatClampNeg)) I L ly_446 ln_446 h) ?_ ?_
  · intro e9 u9 hx9
    exact hx9.elim
  intro v9 u9 hv9
  obtain ⟨r1616, rfl, rfl, h⟩ := hv9
  refine ⟨fun q => absurd q (Nat.lt_irrefl _), ?_⟩
  show V G Y_X9_waves 123 _ (.long r1616 :: _) _ _ _ _ _
  refine v_cV (Y2 := Y_X9_made) (As := [.int v1, .long (L 446 ((I 442 (v1.toNatClampNeg)).toNatClampNeg)), .long r1616]) (b := 436) (pc' := 126) (c1 := 0) (s1 := 0) 82 rfl rfl mf_X9_made rfl rfl ml_X9_125 mi_X9_made se_X9_made (ci := 8) rfl ly_436 (lay_lt ly_436 (by decide)) rfl (Nat.le_of_ble_eq_true rfl) ⟨Nat.le_of_ble_eq_true rfl, Nat.le_of_ble_eq_true rfl⟩ rfl rfl (ok_X9_made v1 (L 446 ((I 442 (v1.toNatClampNeg)).toNatClampNeg)) r1616 I L h) ?_ ?_
  · intro e9 u9 hx9
    exact hx9.elim
  intro v9 u9 hv9
  obtain ⟨r1617, rfl, rfl, h⟩ := hv9
  refine ⟨fun q => absurd q (Nat.lt_irrefl _), ?_⟩
  show V G Y_X9_waves 126 _ (.long r1617 :: _) _ _ _ _ _
  refine v_cV (Y2 := Y_X9_dearOf) (As := [.int v1, .long r1617]) (b := 436) (pc' := 129) (c1 := 0) (s1 := 0) 83 rfl rfl mf_X9_dearOf rfl rfl ml_X9_129 mi_X9_dearOf se_X9_dearOf (ci := 8) rfl ly_436 (lay_lt ly_436 (by decide)) rfl (Nat.le_of_ble_eq_true rfl) ⟨Nat.le_of_ble_eq_true rfl, Nat.le_of_ble_eq_true rfl⟩ rfl rfl (ok_X9_dearOf v1 r1617 I L h) ?_ ?_
  · intro e9 u9 hx9
    exact hx9.elim
  intro v9 u9 hv9
  obtain ⟨r1618, rfl, rfl, h⟩ := hv9
  refine ⟨fun q => absurd q (Nat.lt_irrefl _), ?_⟩
  show V G Y_X9_waves 129 _ (.long r1618 :: _) _ _ _ _ _
  obtain ⟨hi1619, h⟩ := h
  refine v_last (i := ((I 436 10) + v1)) (j := ((I 436 10) + v1).toNatClampNeg) (pc' := 130) 84 rfl rfl ly_446 ln_446 (lay_lt ly_446 (by decide)) hi1619 rfl ?_
  refine v_aload_n (pc' := 131) 85 2 rfl rfl rfl rfl ?_
  refine v_getR (t := 445) (pc' := 134) 86 rfl rfl pf_X9_35 ly_436 (lay_lt ly_436 (by decide)) rt_436_16 ?_
  refine v_iload_n (pc' := 135) 87 1 rfl rfl rfl rfl ?_
  refine v_aload_n (pc' := 136) 88 2 rfl rfl rfl rfl ?_
  refine v_aload_n (pc' := 137) 89 2 rfl rfl rfl rfl ?_
  refine v_iload_n (pc' := 138) 90 3 rfl rfl rfl rfl ?_
  refine v_aload_n (pc' := 139) 91 2 rfl rfl rfl rfl ?_
  refine v_getR (t := 445) (pc' := 142) 92 rfl rfl pf_X9_35 ly_436 (lay_lt ly_436 (by decide)) rt_436_16 ?_
  refine v_aload_n (pc' := 143) 93 2 rfl rfl rfl rfl ?_
  refine v_getR (t := 442) (pc' := 146) 94 rfl rfl pf_X9_26 ly_436 (lay_lt ly_436 (by decide)) rt_436_13 ?_
  refine v_iload_n (pc' := 147) 95 3 rfl rfl rfl rfl ?_
  obtain ⟨hi1620, h⟩ := h
  refine v_iald (i := v1) (j := v1.toNatClampNeg) (pc' := 148) 96 rfl rfl ly_442 ln_442 (lay_lt ly_442 (by decide)) hi1620 rfl ?_
  obtain ⟨hi1621, h⟩ := h
  refine v_lald (i := (I 442 (v1.toNatClampNeg))) (j := (I 442 (v1.toNatClampNeg)).toNatClampNeg) (pc' := 149) 97 rfl rfl ly_445 ln_445 (lay_lt ly_445 (by decide)) hi1621 rfl ?_
  refine v_aload_n (pc' := 150) 98 2 rfl rfl rfl rfl ?_
  refine v_getR (t := 445) (pc' := 153) 99 rfl rfl pf_X9_35 ly_436 (lay_lt ly_436 (by decide)) rt_436_16 ?_
  refine v_aload_n (pc' := 154) 100 2 rfl rfl rfl rfl ?_
  refine v_getR (t := 443) (pc' := 157) 101 rfl rfl pf_X9_29 ly_436 (lay_lt ly_436 (by decide)) rt_436_14 ?_
  refine v_iload_n (pc' := 158) 102 3 rfl rfl rfl rfl ?_
  obtain ⟨hi1622, h⟩ := h
  refine v_iald (i := v1) (j := v1.toNatClampNeg) (pc' := 159) 103 rfl rfl ly_443 ln_443 (lay_lt ly_443 (by decide)) hi1622 rfl ?_
  refine v_cS (Y2 := Y_X9_ideal) (As := [.ref 445, .int (I 443 (v1.toNatClampNeg))]) (pc' := 162) (c1 := 0) (s1 := 0) 104 rfl rfl mf_X9_ideal rfl rfl ml_X9_121 ms_X9_ideal rfl (Nat.le_of_ble_eq_true rfl) ⟨Nat.le_of_ble_eq_true rfl, Nat.le_of_ble_eq_true rfl⟩ rfl rfl (ok_X9_ideal 445 (I 443 (v1.toNatClampNeg)) I (up2 L 446 (((I 436 10) + v1).toNatClampNeg) r1618) ly_445 ln_445 h) ?_ ?_
  · intro e9 u9 hx9
    exact hx9.elim
  intro v9 u9 hv9
  obtain ⟨r1623, rfl, rfl, h⟩ := hv9
  refine ⟨fun q => absurd q (Nat.lt_irrefl _), ?_⟩
  show V G Y_X9_waves 162 _ (.long r1623 :: _) _ _ _ _ _
  refine v_cV (Y2 := Y_X9_made) (As := [.int v1, .long ((up2 L 446 (((I 436 10) + v1).toNatClampNeg) r1618) 445 ((I 442 (v1.toNatClampNeg)).toNatClampNeg)), .long r1623]) (b := 436) (pc' := 165) (c1 := 0) (s1 := 0) 105 rfl rfl mf_X9_made rfl rfl ml_X9_125 mi_X9_made se_X9_made (ci := 8) rfl ly_436 (lay_lt ly_436 (by decide)) rfl (Nat.le_of_ble_eq_true rfl) ⟨Nat.le_of_ble_eq_true rfl, Nat.le_of_ble_eq_true rfl⟩ rfl rfl (ok_X9_made v1 ((up2 L 446 (((I 436 10) + v1).toNatClampNeg) r1618) 445 ((I 442 (v1.toNatClampNeg)).toNatClampNeg)) r1623 I (up2 L 446 (((I 436 10) + v1).toNatClampNeg) r1618) h) ?_ ?_
  · intro e9 u9 hx9
    exact hx9.elim
  intro v9 u9 hv9
  obtain ⟨r1624, rfl, rfl, h⟩ := hv9
  refine ⟨fun q => absurd q (Nat.lt_irrefl _), ?_⟩
  show V G Y_X9_waves 165 _ (.long r1624 :: _) _ _ _ _ _
  refine v_iload_n (pc' := 166) 106 0 rfl rfl rfl rfl ?_
  refine v_cV (Y2 := Y_X9_late) (As := [.long r1624, .int x1612]) (b := 436) (pc' := 169) (c1 := 0) (s1 := 0) 107 rfl rfl mf_X9_late rfl rfl ml_X9_133 mi_X9_late se_X9_late (ci := 8) rfl ly_436 (lay_lt ly_436 (by decide)) rfl (Nat.le_of_ble_eq_true rfl) ⟨Nat.le_of_ble_eq_true rfl, Nat.le_of_ble_eq_true rfl⟩ rfl rfl (ok_X9_late r1624 x1612 I (up2 L 446 (((I 436 10) + v1).toNatClampNeg) r1618) h) ?_ ?_
  · intro e9 u9 hx9
    exact hx9.elim
  intro v9 u9 hv9
  obtain ⟨r1625, rfl, rfl, h⟩ := hv9
  refine ⟨fun q => absurd q (Nat.lt_irrefl _), ?_⟩
  show V G Y_X9_waves 169 _ (.long r1625 :: _) _ _ _ _ _
  obtain ⟨hi1626, h⟩ := h
  refine v_last (i := ((I 436 10) + v1)) (j := ((I 436 10) + v1).toNatClampNeg) (pc' := 170) 108 rfl rfl ly_445 ln_445 (lay_lt ly_445 (by decide)) hi1626 rfl ?_
  refine nm_N (e := (up2 (up2 L 446 (((I 436 10) + v1).toNatClampNeg) r1618) 445 (((I 436 10) + v1).toNatClampNeg) r1625)) (fun L1627 hL1627 => ?_)
  replace h := h L1627 hL1627
  refine v_aload_n (pc' := 171) 109 2 rfl rfl rfl rfl ?_
  refine v_aload_n (pc' := 172) 110 2 rfl rfl rfl rfl ?_
  refine v_iload_n (pc' := 173) 111 3 rfl rfl rfl rfl ?_
  refine v_aload_n (pc' := 174) 112 2 rfl rfl rfl rfl ?_
  refine v_getR (t := 444) (pc' := 177) 113 rfl rfl pf_X9_32 ly_436 (lay_lt ly_436 (by decide)) rt_436_15 ?_
  refine v_aload_n (pc' := 178) 114 2 rfl rfl rfl rfl ?_
  refine v_getR (t := 442) (pc' := 181) 115 rfl rfl pf_X9_26 ly_436 (lay_lt ly_436 (by decide)) rt_436_13 ?_
  refine v_iload_n (pc' := 182) 116 3 rfl rfl rfl rfl ?_
  obtain ⟨hi1628, h⟩ := h
  refine v_iald (i := v1) (j := v1.toNatClampNeg) (pc' := 183) 117 rfl rfl ly_442 ln_442 (lay_lt ly_442 (by decide)) hi1628 rfl ?_
  obtain ⟨hi1629, h⟩ := h
  refine v_lald (i := (I 442 (v1.toNatClampNeg))) (j := (I 442 (v1.toNatClampNeg)).toNatClampNeg) (pc' := 184) 118 rfl rfl ly_444 ln_444 (lay_lt ly_444 (by decide)) hi1629 rfl ?_
  refine v_aload_n (pc' := 185) 119 2 rfl rfl rfl rfl ?_
  refine v_getR (t := 444) (pc' := 188) 120 rfl rfl pf_X9_32 ly_436 (lay_lt ly_436 (by decide)) rt_436_15 ?_
  refine v_aload_n (pc' := 189) 121 2 rfl rfl rfl rfl ?_
  refine v_getR (t := 443) (pc' := 192) 122 rfl rfl pf_X9_29 ly_436 (lay_lt ly_436 (by decide)) rt_436_14 ?_
  refine v_iload_n (pc' := 193) 123 3 rfl rfl rfl rfl ?_
  obtain ⟨hi1630, h⟩ := h
  refine v_iald (i := v1) (j := v1.toNatClampNeg) (pc' := 194) 124 rfl rfl ly_443 ln_443 (lay_lt ly_443 (by decide)) hi1630 rfl ?_
  refine v_cS (Y2 := Y_X9_ideal) (As := [.ref 444, .int (I 443 (v1.toNatClampNeg))]) (pc' := 197) (c1 := 0) (s1 := 0) 125 rfl rfl mf_X9_ideal rfl rfl ml_X9_121 ms_X9_ideal rfl (Nat.le_of_ble_eq_true rfl) ⟨Nat.le_of_ble_eq_true rfl, Nat.le_of_ble_eq_true rfl⟩ rfl rfl (ok_X9_ideal 444 (I 443 (v1.toNatClampNeg)) I L1627 ly_444 ln_444 h) ?_ ?_
  · intro e9 u9 hx9
    exact hx9.elim
  intro v9 u9 hv9
  obtain ⟨r1631, rfl, rfl, h⟩ := hv9
  refine ⟨fun q => absurd q (Nat.lt_irrefl _), ?_⟩
  show V G Y_X9_waves 197 _ (.long r1631 :: _) _ _ _ _ _
  refine v_cV (Y2 := Y_X9_made) (As := [.int v1, .long (L1627 444 ((I 442 (v1.toNatClampNeg)).toNatClampNeg)), .long r1631]) (b := 436) (pc' := 200) (c1 := 0) (s1 := 0) 126 rfl rfl mf_X9_made rfl rfl ml_X9_125 mi_X9_made se_X9_made (ci := 8) rfl ly_436 (lay_lt ly_436 (by decide)) rfl (Nat.le_of_ble_eq_true rfl) ⟨Nat.le_of_ble_eq_true rfl, Nat.le_of_ble_eq_true rfl⟩ rfl rfl (ok_X9_made v1 (L1627 444 ((I 442 (v1.toNatClampNeg)).toNatClampNeg)) r1631 I L1627 h) ?_ ?_
  · intro e9 u9 hx9
    exact hx9.elim
  intro v9 u9 hv9
  obtain ⟨r1632, rfl, rfl, h⟩ := hv9
  refine ⟨fun q => absurd q (Nat.lt_irrefl _), ?_⟩
  show V G Y_X9_waves 200 _ (.long r1632 :: _) _ _ _ _ _
  refine v_iload_n (pc' := 201) 127 0 rfl rfl rfl rfl ?_
  refine v_cV (Y2 := Y_X9_late) (As := [.long r1632, .int x1612]) (b := 436) (pc' := 204) (c1 := 0) (s1 := 0) 128 rfl rfl mf_X9_late rfl rfl ml_X9_133 mi_X9_late se_X9_late (ci := 8) rfl ly_436 (lay_lt ly_436 (by decide)) rfl (Nat.le_of_ble_eq_true rfl) ⟨Nat.le_of_ble_eq_true rfl, Nat.le_of_ble_eq_true rfl⟩ rfl rfl (ok_X9_late r1632 x1612 I L1627 h) ?_ ?_
  · intro e9 u9 hx9
    exact hx9.elim
  intro v9 u9 hv9
  obtain ⟨r1633, rfl, rfl, h⟩ := hv9
  refine ⟨fun q => absurd q (Nat.lt_irrefl _), ?_⟩
  show V G Y_X9_waves 204 _ (.long r1633 :: _) _ _ _ _ _
  refine v_lstore (ls' := [(4, .long r1633), (3, .int x1612), (2, .int ((I 436 10) + v1)), (0, .ref 436), (1, .int v1)]) (pc' := 206) 129 rfl rfl (by decide) rfl ?_
  refine v_lload (pc' := 208) 130 0 rfl rfl rfl ?_
  refine v_aload_n (pc' := 209) 131 3 rfl rfl rfl rfl ?_
  refine v_getR (t := 437) (pc' := 212) 132 rfl rfl pf_X9_7 ly_436 (lay_lt ly_436 (by decide)) rt_436_1 ?_
  refine v_bipush (v := 21) (pc' := 214) 133 rfl rfl (by decide) ?_
  refine v_iload_n (pc' := 215) 134 4 rfl rfl rfl rfl ?_
  refine v_iadd (pc' := 216) 135 rfl rfl ?_
  obtain ⟨hi1634, h⟩ := h
  refine v_lald (i := ((21 : Int32) + v1)) (j := ((21 : Int32) + v1).toNatClampNeg) (pc' := 217) 136 rfl rfl ly_437 ln_437 (lay_lt ly_437 (by decide)) hi1634 rfl ?_
  refine v_ldc2 (v := -1) (pc' := 220) 137 rfl rfl kl_X9_111 ?_
  refine v_lxor (pc' := 221) 138 rfl rfl ?_
  refine v_land (pc' := 222) 139 rfl rfl ?_
  refine v_aload_n (pc' := 223) 140 3 rfl rfl rfl rfl ?_
  refine v_getR (t := 437) (pc' := 226) 141 rfl rfl pf_X9_7 ly_436 (lay_lt ly_436 (by decide)) rt_436_1 ?_
  refine v_bipush (v := 33) (pc' := 228) 142 rfl rfl (by decide) ?_
  refine v_iload_n (pc' := 229) 143 4 rfl rfl rfl rfl ?_
  refine v_iadd (pc' := 230) 144 rfl rfl ?_
  obtain ⟨hi1635, h⟩ := h
  refine v_lald (i := ((33 : Int32) + v1)) (j := ((33 : Int32) + v1).toNatClampNeg) (pc' := 231) 145 rfl rfl ly_437 ln_437 (lay_lt ly_437 (by decide)) hi1635 rfl ?_
  refine v_aload_n (pc' := 232) 146 3 rfl rfl rfl rfl ?_
  refine v_getR (t := 437) (pc' := 235) 147 rfl rfl pf_X9_7 ly_436 (lay_lt ly_436 (by decide)) rt_436_1 ?_
  refine v_bipush (v := 21) (pc' := 237) 148 rfl rfl (by decide) ?_
  refine v_iload_n (pc' := 238) 149 4 rfl rfl rfl rfl ?_
  refine v_iadd (pc' := 239) 150 rfl rfl ?_
  obtain ⟨hi1636, h⟩ := h
  refine v_lald (i := ((21 : Int32) + v1)) (j := ((21 : Int32) + v1).toNatClampNeg) (pc' := 240) 151 rfl rfl ly_437 ln_437 (lay_lt ly_437 (by decide)) hi1636 rfl ?_
  refine v_land (pc' := 241) 152 rfl rfl ?_
  refine v_lor (pc' := 242) 153 rfl rfl ?_
  refine nm_J (e := ((r1633 &&& ((L1627 437 (((21 : Int32) + v1).toNatClampNeg)) ^^^ (-1))) ||| ((L1627 437 (((33 : Int32) + v1).toNatClampNeg)) &&& (L1627 437 (((21 : Int32) + v1).toNatClampNeg))))) (fun x1637 hx1637 => ?_)
  replace h := h x1637 hx1637
  refine v_lstore (ls' := [(4, .long x1637), (3, .int x1612), (2, .int ((I 436 10) + v1)), (0, .ref 436), (1, .int v1)]) (pc' := 244) 154 rfl rfl (by decide) rfl ?_
  refine v_aload_n (pc' := 245) 155 3 rfl rfl rfl rfl ?_
  refine v_getR (t := 444) (pc' := 248) 156 rfl rfl pf_X9_32 ly_436 (lay_lt ly_436 (by decide)) rt_436_15 ?_
  refine v_iload_n (pc' := 249) 157 2 rfl rfl rfl rfl ?_
  refine v_lload (pc' := 251) 158 0 rfl rfl rfl ?_
  refine v_aload_n (pc' := 252) 159 3 rfl rfl rfl rfl ?_
  refine v_getR (t := 437) (pc' := 255) 160 rfl rfl pf_X9_7 ly_436 (lay_lt ly_436 (by decide)) rt_436_1 ?_
  refine v_bipush (v := 9) (pc' := 257) 161 rfl rfl (by decide) ?_
  refine v_iload_n (pc' := 258) 162 4 rfl rfl rfl rfl ?_
  refine v_iadd (pc' := 259) 163 rfl rfl ?_
  obtain ⟨hi1638, h⟩ := h
  refine v_lald (i := ((9 : Int32) + v1)) (j := ((9 : Int32) + v1).toNatClampNeg) (pc' := 260) 164 rfl rfl ly_437 ln_437 (lay_lt ly_437 (by decide)) hi1638 rfl ?_
  refine v_ldc2 (v := -1) (pc' := 263) 165 rfl rfl kl_X9_111 ?_
  refine v_lxor (pc' := 264) 166 rfl rfl ?_
  refine v_land (pc' := 265) 167 rfl rfl ?_
  refine v_aload_n (pc' := 266) 168 3 rfl rfl rfl rfl ?_
  refine v_getR (t := 446) (pc' := 269) 169 rfl rfl pf_X9_38 ly_436 (lay_lt ly_436 (by decide)) rt_436_17 ?_
  refine v_iload_n (pc' := 270) 170 2 rfl rfl rfl rfl ?_
  obtain ⟨hi1639, h⟩ := h
  refine v_lald (i := ((I 436 10) + v1)) (j := ((I 436 10) + v1).toNatClampNeg) (pc' := 271) 171 rfl rfl ly_446 ln_446 (lay_lt ly_446 (by decide)) hi1639 rfl ?_
  refine v_aload_n (pc' := 272) 172 3 rfl rfl rfl rfl ?_
  refine v_getR (t := 437) (pc' := 275) 173 rfl rfl pf_X9_7 ly_436 (lay_lt ly_436 (by decide)) rt_436_1 ?_
  refine v_bipush (v := 9) (pc' := 277) 174 rfl rfl (by decide) ?_
  refine v_iload_n (pc' := 278) 175 4 rfl rfl rfl rfl ?_
  refine v_iadd (pc' := 279) 176 rfl rfl ?_
  obtain ⟨hi1640, h⟩ := h
  refine v_lald (i := ((9 : Int32) + v1)) (j := ((9 : Int32) + v1).toNatClampNeg) (pc' := 280) 177 rfl rfl ly_437 ln_437 (lay_lt ly_437 (by decide)) hi1640 rfl ?_
  refine v_land (pc' := 281) 178 rfl rfl ?_
  refine v_lor (pc' := 282) 179 rfl rfl ?_
  obtain ⟨hi1641, h⟩ := h
  refine v_last (i := ((I 436 10) + v1)) (j := ((I 436 10) + v1).toNatClampNeg) (pc' := 283) 180 rfl rfl ly_444 ln_444 (lay_lt ly_444 (by decide)) hi1641 rfl ?_
  refine nm_N (e := (up2 L1627 444 (((I 436 10) + v1).toNatClampNeg) ((x1637 &&& ((L1627 437 (((9 : Int32) + v1).toNatClampNeg)) ^^^ (-1))) ||| ((L1627 446 (((I 436 10) + v1).toNatClampNeg)) &&& (L1627 437 (((9 : Int32) + v1).toNatClampNeg)))))) (fun L1642 hL1642 => ?_)
  replace h := h L1642 hL1642
  refine v_iinc (v := (v1 + 1)) (ls' := [(1, .int (v1 + 1)), (4, .long x1637), (3, .int x1612), (2, .int ((I 436 10) + v1)), (0, .ref 436)]) (pc' := 286) 181 4 rfl rfl rfl rfl (by decide) rfl ?_
  refine v_goto (tgt := 60) 182 rfl (by decide) ?_
  refine V.sub [4, 0] rfl ?_
  exact hR60 (v1 + 1) L1642 h
theorem l_X9_waves_60 {G : GT} {b d t : Nat} (I : TI)  (Q : TL → Prop)  : ∀ (n9 : Nat) (v1 : Int32) (L : TL), L_X9_waves_60 I Q n9 v1 L → V G Y_X9_waves 60 [(0, .ref 436), (1, .int v1)] [] (I, L, RT b d t, 457) 0 0 (fun v9 u9 => ∃ (L9 : TL), v9 = none ∧ u9 = (I, L9, RT b d t, 457) ∧ Q L9) (fun _ _ => False)
  | 0, _, _, h => h.elim
  | n9 + 1, v1, L, h => d_X9_waves_60 I Q _ (l_X9_waves_60 I Q n9) v1 L h
set_option maxHeartbeats 4000000 in
set_option maxRecDepth 100000 in
theorem d_X9_waves_2 {G : GT} {b d t : Nat} (I : TI)  (Q : TL → Prop) (R2 : Int32 → TL → Prop)  (hR2 : ∀ (v1 : Int32) (L : TL), R2 v1 L → V G Y_X9_waves 2 [(0, .ref 436), (1, .int v1)] [] (I, L, RT b d t, 457) 0 0 (fun v9 u9 => ∃ (L9 : TL), v9 = none ∧ u9 = (I, L9, RT b d t, 457) ∧ Q L9) (fun _ _ => False)) (v1 : Int32) (L : TL)  (h : D_X9_waves_2 I Q R2 v1 L) : V G Y_X9_waves 2 [(0, .ref 436), (1, .int v1)] [] (I, L, RT b d t, 457) 0 0 (fun v9 u9 => ∃ (L9 : TL), v9 = none ∧ u9 = (I, L9, RT b d t, 457) ∧ Q L9) (fun _ _ => False) := by
  unfold D_X9_waves_2 at h
  refine v_iload_n (pc' := 3) 2 1 rfl rfl rfl rfl ?_
  refine v_aload_n (pc' := 4) 3 0 rfl rfl rfl rfl ?_
  refine v_getI (pc' := 7) 4 rfl rfl pf_X9_77 ly_436 (lay_lt ly_436 (by decide)) ?_
  refine v_icmp_ge (tgt := 58) (pc' := 10) 5 rfl rfl (by decide) (fun hc => ?_) (fun hc => ?_)
  · replace h := h.1 hc
    refine v_iconst (v := 0) (pc' := 59) 38 rfl rfl (by decide) ?_
    refine v_istore_n (ls' := [(1, .int 0), (0, .ref 436)]) (pc' := 60) 39 rfl rfl rfl (by decide) rfl ?_
    refine V.sub [1, 0] rfl ?_
    obtain ⟨n1643, h⟩ := h
    exact l_X9_waves_60 I Q n1643 (0 : Int32) L h
  replace h := h.2 hc
  refine v_aload_n (pc' := 11) 6 0 rfl rfl rfl rfl ?_
  refine v_getR (t := 444) (pc' := 14) 7 rfl rfl pf_X9_32 ly_436 (lay_lt ly_436 (by decide)) rt_436_15 ?_
  refine v_iload_n (pc' := 15) 8 1 rfl rfl rfl rfl ?_
  refine v_aload_n (pc' := 16) 9 0 rfl rfl rfl rfl ?_
  refine v_getR (t := 437) (pc' := 19) 10 rfl rfl pf_X9_7 ly_436 (lay_lt ly_436 (by decide)) rt_436_1 ?_
  refine v_iconst (v := 5) (pc' := 20) 11 rfl rfl (by decide) ?_
  refine v_iload_n (pc' := 21) 12 1 rfl rfl rfl rfl ?_
  refine v_iadd (pc' := 22) 13 rfl rfl ?_
  obtain ⟨hi1644, h⟩ := h
  refine v_lald (i := ((5 : Int32) + v1)) (j := ((5 : Int32) + v1).toNatClampNeg) (pc' := 23) 14 rfl rfl ly_437 ln_437 (lay_lt ly_437 (by decide)) hi1644 rfl ?_
  obtain ⟨hi1645, h⟩ := h
  refine v_last (i := v1) (j := v1.toNatClampNeg) (pc' := 24) 15 rfl rfl ly_444 ln_444 (lay_lt ly_444 (by decide)) hi1645 rfl ?_
  refine nm_N (e := (up2 L 444 (v1.toNatClampNeg) (L 437 (((5 : Int32) + v1).toNatClampNeg)))) (fun L1646 hL1646 => ?_)
  replace h := h L1646 hL1646
  refine v_aload_n (pc' := 25) 16 0 rfl rfl rfl rfl ?_
  refine v_getR (t := 445) (pc' := 28) 17 rfl rfl pf_X9_35 ly_436 (lay_lt ly_436 (by decide)) rt_436_16 ?_
  refine v_iload_n (pc' := 29) 18 1 rfl rfl rfl rfl ?_
  refine v_aload_n (pc' := 30) 19 0 rfl rfl rfl rfl ?_
  refine v_getR (t := 437) (pc' := 33) 20 rfl rfl pf_X9_7 ly_436 (lay_lt ly_436 (by decide)) rt_436_1 ?_
  refine v_iconst (v := 5) (pc' := 34) 21 rfl rfl (by decide) ?_
  refine v_iload_n (pc' := 35) 22 1 rfl rfl rfl rfl ?_
  refine v_iadd (pc' := 36) 23 rfl rfl ?_
  obtain ⟨hi1647, h⟩ := h
  refine v_lald (i := ((5 : Int32) + v1)) (j := ((5 : Int32) + v1).toNatClampNeg) (pc' := 37) 24 rfl rfl ly_437 ln_437 (lay_lt ly_437 (by decide)) hi1647 rfl ?_
  obtain ⟨hi1648, h⟩ := h
  refine v_last (i := v1) (j := v1.toNatClampNeg) (pc' := 38) 25 rfl rfl ly_445 ln_445 (lay_lt ly_445 (by decide)) hi1648 rfl ?_
  refine nm_N (e := (up2 L1646 445 (v1.toNatClampNeg) (L1646 437 (((5 : Int32) + v1).toNatClampNeg)))) (fun L1649 hL1649 => ?_)
  replace h := h L1649 hL1649
  refine v_aload_n (pc' := 39) 26 0 rfl rfl rfl rfl ?_
  refine v_getR (t := 446) (pc' := 42) 27 rfl rfl pf_X9_38 ly_436 (lay_lt ly_436 (by decide)) rt_436_17 ?_
  refine v_iload_n (pc' := 43) 28 1 rfl rfl rfl rfl ?_
  refine v_aload_n (pc' := 44) 29 0 rfl rfl rfl rfl ?_
  refine v_getR (t := 437) (pc' := 47) 30 rfl rfl pf_X9_7 ly_436 (lay_lt ly_436 (by decide)) rt_436_1 ?_
  refine v_iconst (v := 5) (pc' := 48) 31 rfl rfl (by decide) ?_
  refine v_iload_n (pc' := 49) 32 1 rfl rfl rfl rfl ?_
  refine v_iadd (pc' := 50) 33 rfl rfl ?_
  obtain ⟨hi1650, h⟩ := h
  refine v_lald (i := ((5 : Int32) + v1)) (j := ((5 : Int32) + v1).toNatClampNeg) (pc' := 51) 34 rfl rfl ly_437 ln_437 (lay_lt ly_437 (by decide)) hi1650 rfl ?_
  obtain ⟨hi1651, h⟩ := h
  refine v_last (i := v1) (j := v1.toNatClampNeg) (pc' := 52) 35 rfl rfl ly_446 ln_446 (lay_lt ly_446 (by decide)) hi1651 rfl ?_
  refine nm_N (e := (up2 L1649 446 (v1.toNatClampNeg) (L1649 437 (((5 : Int32) + v1).toNatClampNeg)))) (fun L1652 hL1652 => ?_)
  replace h := h L1652 hL1652
  refine v_iinc (v := (v1 + 1)) (ls' := [(1, .int (v1 + 1)), (0, .ref 436)]) (pc' := 55) 36 1 rfl rfl rfl rfl (by decide) rfl ?_
  refine v_goto (tgt := 2) 37 rfl (by decide) ?_
  refine V.sub [1, 0] rfl ?_
  exact hR2 (v1 + 1) L1652 h
theorem l_X9_waves_2 {G : GT} {b d t : Nat} (I : TI)  (Q : TL → Prop)  : ∀ (n9 : Nat) (v1 : Int32) (L : TL), L_X9_waves_2 I Q n9 v1 L → V G Y_X9_waves 2 [(0, .ref 436), (1, .int v1)] [] (I, L, RT b d t, 457) 0 0 (fun v9 u9 => ∃ (L9 : TL), v9 = none ∧ u9 = (I, L9, RT b d t, 457) ∧ Q L9) (fun _ _ => False)
  | 0, _, _, h => h.elim
  | n9 + 1, v1, L, h => d_X9_waves_2 I Q _ (l_X9_waves_2 I Q n9) v1 L h
set_option maxHeartbeats 4000000 in
set_option maxRecDepth 100000 in
theorem ok_X9_waves {G : GT} {b d t : Nat} (I : TI) (L : TL)  {Q : TL → Prop} (h : W_X9_waves I L Q) : MW G Y_X9_waves [.ref 436] (I, L, RT b d t, 457) (fun v9 u9 => ∃ (L9 : TL), v9 = none ∧ u9 = (I, L9, RT b d t, 457) ∧ Q L9) (fun _ _ => False) := by
  unfold W_X9_waves at h
  refine MW.intro rfl (by decide) is_X9_waves (Nat.le_of_ble_eq_true rfl) ?_
  show V G Y_X9_waves 0 [(0, .ref 436)] [] (I, L, RT b d t, 457) 0 0 _ _
  refine v_iconst (v := 0) (pc' := 1) 0 rfl rfl (by decide) ?_
  refine v_istore_n (ls' := [(1, .int 0), (0, .ref 436)]) (pc' := 2) 1 rfl rfl rfl (by decide) rfl ?_
  refine V.sub [1, 0] rfl ?_
  obtain ⟨n1653, h⟩ := h
  exact l_X9_waves_2 I Q n1653 (0 : Int32) L h
set_option maxHeartbeats 4000000 in
set_option maxRecDepth 100000 in
theorem ok_X9_waveOf {G : GT} {b d t : Nat} (p1 : Int32) (p2 : Int32) (I : TI) (L : TL)  {Q : Int64 → Prop} (h : W_X9_waveOf p1 p2 I L Q) : MW G Y_X9_waveOf [.ref 436, .int p1, .int p2] (I, L, RT b d t, 457) (fun v9 u9 => ∃ (r9 : Int64), v9 = some (.long r9) ∧ u9 = (I, L, RT b d t, 457) ∧ Q r9) (fun _ _ => False) := by
  unfold W_X9_waveOf at h
  refine MW.intro rfl (by decide) is_X9_waveOf (Nat.le_of_ble_eq_true rfl) ?_
  show V G Y_X9_waveOf 0 [(0, .ref 436), (1, .int p1), (2, .int p2)] [] (I, L, RT b d t, 457) 0 0 _ _
  refine v_iload_n (pc' := 1) 0 2 rfl rfl rfl rfl ?_
  refine v_if_ne (tgt := 13) (pc' := 4) 1 rfl rfl (by decide) (fun hc => ?_) (fun hc => ?_)
  · replace h := h.1 hc
    refine v_iload_n (pc' := 14) 7 2 rfl rfl rfl rfl ?_
    refine v_iconst (v := 1) (pc' := 15) 8 rfl rfl (by decide) ?_
    refine v_icmp_ne (tgt := 27) (pc' := 18) 9 rfl rfl (by decide) (fun hc => ?_) (fun hc => ?_)
    · replace h := h.1 hc
      refine v_aload_n (pc' := 28) 15 0 rfl rfl rfl rfl ?_
      refine v_getR (t := 446) (pc' := 31) 16 rfl rfl pf_X9_38 ly_436 (lay_lt ly_436 (by decide)) rt_436_17 ?_
      refine v_iload_n (pc' := 32) 17 1 rfl rfl rfl rfl ?_
      obtain ⟨hi1657, h⟩ := h
      refine v_lald (i := p1) (j := p1.toNatClampNeg) (pc' := 33) 18 rfl rfl ly_446 ln_446 (lay_lt ly_446 (by decide)) hi1657 rfl ?_
      exact v_lret 19 rfl rfl (by decide) (by decide) ⟨_, rfl, rfl, h⟩
    replace h := h.2 hc
    refine v_aload_n (pc' := 19) 10 0 rfl rfl rfl rfl ?_
    refine v_getR (t := 445) (pc' := 22) 11 rfl rfl pf_X9_35 ly_436 (lay_lt ly_436 (by decide)) rt_436_16 ?_
    refine v_iload_n (pc' := 23) 12 1 rfl rfl rfl rfl ?_
    obtain ⟨hi1658, h⟩ := h
    refine v_lald (i := p1) (j := p1.toNatClampNeg) (pc' := 24) 13 rfl rfl ly_445 ln_445 (lay_lt ly_445 (by decide)) hi1658 rfl ?_
    refine v_goto (tgt := 33) 14 rfl (by decide) ?_
    exact v_lret 19 rfl rfl (by decide) (by decide) ⟨_, rfl, rfl, h⟩
  replace h := h.2 hc
  refine v_aload_n (pc' := 5) 2 0 rfl rfl rfl rfl ?_
  refine v_getR (t := 444) (pc' := 8) 3 rfl rfl pf_X9_32 ly_436 (lay_lt ly_436 (by decide)) rt_436_15 ?_
  refine v_iload_n (pc' := 9) 4 1 rfl rfl rfl rfl ?_
  obtain ⟨hi1659, h⟩ := h
  refine v_lald (i := p1) (j := p1.toNatClampNeg) (pc' := 10) 5 rfl rfl ly_444 ln_444 (lay_lt ly_444 (by decide)) hi1659 rfl ?_
  refine v_goto (tgt := 33) 6 rfl (by decide) ?_
  exact v_lret 19 rfl rfl (by decide) (by decide) ⟨_, rfl, rfl, h⟩
set_option maxHeartbeats 4000000 in
set_option maxRecDepth 100000 in
theorem b_X9_changesOf_37 {G : GT} {b d t : Nat} (v1 : Int64) (v4 : Int32) (s0 : Int32) (s1 : Int32) (I : TI) (L : TL)  (Q : Int32 → Prop) (R5 : Int32 → Int32 → Prop) (hR5 : ∀ (v3 : Int32) (v4 : Int32), R5 v3 v4 → V G Y_X9_changesOf 5 [(0, .ref 436), (1, .long v1), (3, .int v3), (4, .int v4)] [] (I, L, RT b d t, 457) 0 0 (fun v9 u9 => ∃ (r9 : Int32), v9 = some (.int r9) ∧ u9 = (I, L, RT b d t, 457) ∧ Q r9) (fun _ _ => False)) (h : B_X9_changesOf_37 v1 v4 s0 s1 I L Q R5) : V G Y_X9_changesOf 37 [(0, .ref 436), (1, .long v1), (4, .int v4)] [.int s1, .int s0] (I, L, RT b d t, 457) 0 0 (fun v9 u9 => ∃ (r9 : Int32), v9 = some (.int r9) ∧ u9 = (I, L, RT b d t, 457) ∧ Q r9) (fun _ _ => False) := by
  unfold B_X9_changesOf_37 at h
  refine v_iadd (pc' := 38) 21 rfl rfl ?_
  refine v_istore_n (ls' := [(3, .int (s0 + s1)), (0, .ref 436), (1, .long v1), (4, .int v4)]) (pc' := 39) 22 rfl rfl rfl (by decide) rfl ?_
  refine v_iinc (v := (v4 + 1)) (ls' := [(4, .int (v4 + 1)), (3, .int (s0 + s1)), (0, .ref 436), (1, .long v1)]) (pc' := 42) 23 3 rfl rfl rfl rfl (by decide) rfl ?_
  refine v_goto (tgt := 5) 24 rfl (by decide) ?_
  refine V.sub [2, 3, 1, 0] rfl ?_
  exact hR5 (s0 + s1) (v4 + 1) h
set_option maxHeartbeats 4000000 in
set_option maxRecDepth 100000 in
theorem d_X9_changesOf_5 {G : GT} {b d t : Nat} (v1 : Int64) (I : TI) (L : TL)  (Q : Int32 → Prop) (R5 : Int32 → Int32 → Prop)  (hR5 : ∀ (v3 : Int32) (v4 : Int32), R5 v3 v4 → V G Y_X9_changesOf 5 [(0, .ref 436), (1, .long v1), (3, .int v3), (4, .int v4)] [] (I, L, RT b d t, 457) 0 0 (fun v9 u9 => ∃ (r9 : Int32), v9 = some (.int r9) ∧ u9 = (I, L, RT b d t, 457) ∧ Q r9) (fun _ _ => False)) (v3 : Int32) (v4 : Int32)  (h : D_X9_changesOf_5 v1 I L Q R5 v3 v4) : V G Y_X9_changesOf 5 [(0, .ref 436), (1, .long v1), (3, .int v3), (4, .int v4)] [] (I, L, RT b d t, 457) 0 0 (fun v9 u9 => ∃ (r9 : Int32), v9 = some (.int r9) ∧ u9 = (I, L, RT b d t, 457) ∧ Q r9) (fun _ _ => False) := by
  unfold D_X9_changesOf_5 at h
  refine v_iload (pc' := 7) 4 3 rfl rfl rfl ?_
  refine v_aload_n (pc' := 8) 5 0 rfl rfl rfl rfl ?_
  refine v_getI (pc' := 11) 6 rfl rfl pf_X9_86 ly_436 (lay_lt ly_436 (by decide)) ?_
  refine v_icmp_gt (tgt := 45) (pc' := 14) 7 rfl rfl (by decide) (fun hc => ?_) (fun hc => ?_)
  · replace h := h.1 hc
    refine v_iload_n (pc' := 46) 25 2 rfl rfl rfl rfl ?_
    exact v_iret 26 rfl rfl (by decide) (by decide) ⟨_, rfl, rfl, h⟩
  replace h := h.2 hc
  refine v_iload_n (pc' := 15) 8 2 rfl rfl rfl rfl ?_
  refine v_lload_n (pc' := 16) 9 1 rfl rfl rfl rfl ?_
  refine v_iload (pc' := 18) 10 3 rfl rfl rfl ?_
  refine v_cS (Y2 := Y_X9_bit) (As := [.long v1, .int v4]) (pc' := 21) (c1 := 0) (s1 := 0) 11 rfl rfl mf_X9_bit rfl rfl ml_X9_113 ms_X9_bit rfl (Nat.le_of_ble_eq_true rfl) ⟨Nat.le_of_ble_eq_true rfl, Nat.le_of_ble_eq_true rfl⟩ rfl rfl (ok_X9_bit v1 v4 I L h) ?_ ?_
  · intro e9 u9 hx9
    exact hx9.elim
  intro v9 u9 hv9
  obtain ⟨r1664, rfl, rfl, h⟩ := hv9
  refine ⟨fun q => absurd q (Nat.lt_irrefl _), ?_⟩
  show V G Y_X9_changesOf 21 _ (.int r1664 :: _) _ _ _ _ _
  refine v_lload_n (pc' := 22) 12 1 rfl rfl rfl rfl ?_
  refine v_iload (pc' := 24) 13 3 rfl rfl rfl ?_
  refine v_iconst (v := 1) (pc' := 25) 14 rfl rfl (by decide) ?_
  refine v_isub (pc' := 26) 15 rfl rfl ?_
  refine v_cS (Y2 := Y_X9_bit) (As := [.long v1, .int (v4 - 1)]) (pc' := 29) (c1 := 0) (s1 := 0) 16 rfl rfl mf_X9_bit rfl rfl ml_X9_113 ms_X9_bit rfl (Nat.le_of_ble_eq_true rfl) ⟨Nat.le_of_ble_eq_true rfl, Nat.le_of_ble_eq_true rfl⟩ rfl rfl (ok_X9_bit v1 (v4 - 1) I L h) ?_ ?_
  · intro e9 u9 hx9
    exact hx9.elim
  intro v9 u9 hv9
  obtain ⟨r1665, rfl, rfl, h⟩ := hv9
  refine ⟨fun q => absurd q (Nat.lt_irrefl _), ?_⟩
  show V G Y_X9_changesOf 29 _ (.int r1665 :: _) _ _ _ _ _
  refine v_icmp_ne (tgt := 36) (pc' := 32) 17 rfl rfl (by decide) (fun hc => ?_) (fun hc => ?_)
  · replace h := h.1 hc
    refine v_iconst (v := 1) (pc' := 37) 20 rfl rfl (by decide) ?_
    refine V.sub [0, 1, 3] rfl ?_
    exact b_X9_changesOf_37 v1 v4 v3 (1 : Int32) I L Q R5 hR5 h
  replace h := h.2 hc
  refine v_iconst (v := 0) (pc' := 33) 18 rfl rfl (by decide) ?_
  refine v_goto (tgt := 37) 19 rfl (by decide) ?_
  refine V.sub [0, 1, 3] rfl ?_
  exact b_X9_changesOf_37 v1 v4 v3 (0 : Int32) I L Q R5 hR5 h
theorem l_X9_changesOf_5 {G : GT} {b d t : Nat} (v1 : Int64) (I : TI) (L : TL)  (Q : Int32 → Prop)  : ∀ (n9 : Nat) (v3 : Int32) (v4 : Int32), L_X9_changesOf_5 v1 I L Q n9 v3 v4 → V G Y_X9_changesOf 5 [(0, .ref 436), (1, .long v1), (3, .int v3), (4, .int v4)] [] (I, L, RT b d t, 457) 0 0 (fun v9 u9 => ∃ (r9 : Int32), v9 = some (.int r9) ∧ u9 = (I, L, RT b d t, 457) ∧ Q r9) (fun _ _ => False)
  | 0, _, _, h => h.elim
  | n9 + 1, v3, v4, h => d_X9_changesOf_5 v1 I L Q _ (l_X9_changesOf_5 v1 I L Q n9) v3 v4 h
set_option maxHeartbeats 4000000 in
set_option maxRecDepth 100000 in
theorem ok_X9_changesOf {G : GT} {b d t : Nat} (p1 : Int64) (I : TI) (L : TL)  {Q : Int32 → Prop} (h : W_X9_changesOf p1 I L Q) : MW G Y_X9_changesOf [.ref 436, .long p1] (I, L, RT b d t, 457) (fun v9 u9 => ∃ (r9 : Int32), v9 = some (.int r9) ∧ u9 = (I, L, RT b d t, 457) ∧ Q r9) (fun _ _ => False) := by
  unfold W_X9_changesOf at h
  refine MW.intro rfl (by decide) is_X9_changesOf (Nat.le_of_ble_eq_true rfl) ?_
  show V G Y_X9_changesOf 0 [(0, .ref 436), (1, .long p1)] [] (I, L, RT b d t, 457) 0 0 _ _
  refine v_iconst (v := 0) (pc' := 1) 0 rfl rfl (by decide) ?_
  refine v_istore_n (ls' := [(3, .int 0), (0, .ref 436), (1, .long p1)]) (pc' := 2) 1 rfl rfl rfl (by decide) rfl ?_
  refine v_iconst (v := 1) (pc' := 3) 2 rfl rfl (by decide) ?_
  refine v_istore (ls' := [(4, .int 1), (3, .int 0), (0, .ref 436), (1, .long p1)]) (pc' := 5) 3 rfl rfl (by decide) rfl ?_
  refine V.sub [2, 3, 1, 0] rfl ?_
  obtain ⟨n1666, h⟩ := h
  exact l_X9_changesOf_5 p1 I L Q n1666 (0 : Int32) (1 : Int32) h
set_option maxHeartbeats 4000000 in
set_option maxRecDepth 100000 in
theorem d_X9_wrongs_4 {G : GT} {b d t : Nat} (I : TI) (L : TL)  (Q : Int32 → Prop) (R4 : Int32 → Int32 → Prop)  (hR4 : ∀ (v1 : Int32) (v2 : Int32), R4 v1 v2 → V G Y_X9_wrongs 4 [(0, .ref 436), (1, .int v1), (2, .int v2)] [] (I, L, RT b d t, 457) 0 0 (fun v9 u9 => ∃ (r9 : Int32), v9 = some (.int r9) ∧ u9 = (I, L, RT b d t, 457) ∧ Q r9) (fun _ _ => False)) (v1 : Int32) (v2 : Int32)  (h : D_X9_wrongs_4 I L Q R4 v1 v2) : V G Y_X9_wrongs 4 [(0, .ref 436), (1, .int v1), (2, .int v2)] [] (I, L, RT b d t, 457) 0 0 (fun v9 u9 => ∃ (r9 : Int32), v9 = some (.int r9) ∧ u9 = (I, L, RT b d t, 457) ∧ Q r9) (fun _ _ => False) := by
  unfold D_X9_wrongs_4 at h
  refine v_iload_n (pc' := 5) 4 2 rfl rfl rfl rfl ?_
  refine v_aload_n (pc' := 6) 5 0 rfl rfl rfl rfl ?_
  refine v_cV (Y2 := Y_X9_nets) (As := []) (b := 436) (pc' := 9) (c1 := 0) (s1 := 0) 6 rfl rfl mf_X9_nets rfl rfl ml_X9_95 mi_X9_nets se_X9_nets (ci := 8) rfl ly_436 (lay_lt ly_436 (by decide)) rfl (Nat.le_of_ble_eq_true rfl) ⟨Nat.le_of_ble_eq_true rfl, Nat.le_of_ble_eq_true rfl⟩ rfl rfl (ok_X9_nets I L h) ?_ ?_
  · intro e9 u9 hx9
    exact hx9.elim
  intro v9 u9 hv9
  obtain ⟨r1675, rfl, rfl, h⟩ := hv9
  refine ⟨fun q => absurd q (Nat.lt_irrefl _), ?_⟩
  show V G Y_X9_wrongs 9 _ (.int r1675 :: _) _ _ _ _ _
  refine v_icmp_ge (tgt := 37) (pc' := 12) 7 rfl rfl (by decide) (fun hc => ?_) (fun hc => ?_)
  · replace h := h.1 hc
    refine v_iload_n (pc' := 38) 23 1 rfl rfl rfl rfl ?_
    exact v_iret 24 rfl rfl (by decide) (by decide) ⟨_, rfl, rfl, h⟩
  replace h := h.2 hc
  refine v_iload_n (pc' := 13) 8 1 rfl rfl rfl rfl ?_
  refine v_aload_n (pc' := 14) 9 0 rfl rfl rfl rfl ?_
  refine v_getR (t := 444) (pc' := 17) 10 rfl rfl pf_X9_32 ly_436 (lay_lt ly_436 (by decide)) rt_436_15 ?_
  refine v_iload_n (pc' := 18) 11 2 rfl rfl rfl rfl ?_
  obtain ⟨hi1676, h⟩ := h
  refine v_lald (i := v2) (j := v2.toNatClampNeg) (pc' := 19) 12 rfl rfl ly_444 ln_444 (lay_lt ly_444 (by decide)) hi1676 rfl ?_
  refine v_aload_n (pc' := 20) 13 0 rfl rfl rfl rfl ?_
  refine v_getR (t := 446) (pc' := 23) 14 rfl rfl pf_X9_38 ly_436 (lay_lt ly_436 (by decide)) rt_436_17 ?_
  refine v_iload_n (pc' := 24) 15 2 rfl rfl rfl rfl ?_
  obtain ⟨hi1677, h⟩ := h
  refine v_lald (i := v2) (j := v2.toNatClampNeg) (pc' := 25) 16 rfl rfl ly_446 ln_446 (lay_lt ly_446 (by decide)) hi1677 rfl ?_
  refine v_lxor (pc' := 26) 17 rfl rfl ?_
  refine v_cS (Y2 := Y_X9_ones) (As := [.long ((L 444 (v2.toNatClampNeg)) ^^^ (L 446 (v2.toNatClampNeg)))]) (pc' := 29) (c1 := 0) (s1 := 0) 18 rfl rfl mf_X9_ones rfl rfl ml_X9_137 ms_X9_ones rfl (Nat.le_of_ble_eq_true rfl) ⟨Nat.le_of_ble_eq_true rfl, Nat.le_of_ble_eq_true rfl⟩ rfl rfl (ok_X9_ones ((L 444 (v2.toNatClampNeg)) ^^^ (L 446 (v2.toNatClampNeg))) I L h) ?_ ?_
  · intro e9 u9 hx9
    exact hx9.elim
  intro v9 u9 hv9
  obtain ⟨r1678, rfl, rfl, h⟩ := hv9
  refine ⟨fun q => absurd q (Nat.lt_irrefl _), ?_⟩
  show V G Y_X9_wrongs 29 _ (.int r1678 :: _) _ _ _ _ _
  refine v_iadd (pc' := 30) 19 rfl rfl ?_
  refine v_istore_n (ls' := [(1, .int (v1 + r1678)), (0, .ref 436), (2, .int v2)]) (pc' := 31) 20 rfl rfl rfl (by decide) rfl ?_
  refine v_iinc (v := (v2 + 1)) (ls' := [(2, .int (v2 + 1)), (1, .int (v1 + r1678)), (0, .ref 436)]) (pc' := 34) 21 2 rfl rfl rfl rfl (by decide) rfl ?_
  refine v_goto (tgt := 4) 22 rfl (by decide) ?_
  refine V.sub [2, 1, 0] rfl ?_
  exact hR4 (v1 + r1678) (v2 + 1) h
theorem l_X9_wrongs_4 {G : GT} {b d t : Nat} (I : TI) (L : TL)  (Q : Int32 → Prop)  : ∀ (n9 : Nat) (v1 : Int32) (v2 : Int32), L_X9_wrongs_4 I L Q n9 v1 v2 → V G Y_X9_wrongs 4 [(0, .ref 436), (1, .int v1), (2, .int v2)] [] (I, L, RT b d t, 457) 0 0 (fun v9 u9 => ∃ (r9 : Int32), v9 = some (.int r9) ∧ u9 = (I, L, RT b d t, 457) ∧ Q r9) (fun _ _ => False)
  | 0, _, _, h => h.elim
  | n9 + 1, v1, v2, h => d_X9_wrongs_4 I L Q _ (l_X9_wrongs_4 I L Q n9) v1 v2 h
set_option maxHeartbeats 4000000 in
set_option maxRecDepth 100000 in
theorem ok_X9_wrongs {G : GT} {b d t : Nat} (I : TI) (L : TL)  {Q : Int32 → Prop} (h : W_X9_wrongs I L Q) : MW G Y_X9_wrongs [.ref 436] (I, L, RT b d t, 457) (fun v9 u9 => ∃ (r9 : Int32), v9 = some (.int r9) ∧ u9 = (I, L, RT b d t, 457) ∧ Q r9) (fun _ _ => False) := by
  unfold W_X9_wrongs at h
  refine MW.intro rfl (by decide) is_X9_wrongs (Nat.le_of_ble_eq_true rfl) ?_
  show V G Y_X9_wrongs 0 [(0, .ref 436)] [] (I, L, RT b d t, 457) 0 0 _ _
  refine v_iconst (v := 0) (pc' := 1) 0 rfl rfl (by decide) ?_
  refine v_istore_n (ls' := [(1, .int 0), (0, .ref 436)]) (pc' := 2) 1 rfl rfl rfl (by decide) rfl ?_
  refine v_iconst (v := 0) (pc' := 3) 2 rfl rfl (by decide) ?_
  refine v_istore_n (ls' := [(2, .int 0), (1, .int 0), (0, .ref 436)]) (pc' := 4) 3 rfl rfl rfl (by decide) rfl ?_
  refine V.sub [2, 1, 0] rfl ?_
  obtain ⟨n1679, h⟩ := h
  exact l_X9_wrongs_4 I L Q n1679 (0 : Int32) (0 : Int32) h
set_option maxHeartbeats 4000000 in
set_option maxRecDepth 100000 in
theorem d_X9_endOf_3 {G : GT} {b d t : Nat} (v1 : Int64) (v3 : Int32) (I : TI) (L : TL)  (Q : Int32 → Prop) (R3 : Int32 → Prop)  (hR3 : ∀ (v4 : Int32), R3 v4 → V G Y_X9_endOf 3 [(0, .ref 436), (1, .long v1), (3, .int v3), (4, .int v4)] [] (I, L, RT b d t, 457) 0 0 (fun v9 u9 => ∃ (r9 : Int32), v9 = some (.int r9) ∧ u9 = (I, L, RT b d t, 457) ∧ Q r9) (fun _ _ => False)) (v4 : Int32)  (h : D_X9_endOf_3 v1 v3 I L Q R3 v4) : V G Y_X9_endOf 3 [(0, .ref 436), (1, .long v1), (3, .int v3), (4, .int v4)] [] (I, L, RT b d t, 457) 0 0 (fun v9 u9 => ∃ (r9 : Int32), v9 = some (.int r9) ∧ u9 = (I, L, RT b d t, 457) ∧ Q r9) (fun _ _ => False) := by
  unfold D_X9_endOf_3 at h
  refine v_iload (pc' := 5) 2 3 rfl rfl rfl ?_
  refine v_aload_n (pc' := 6) 3 0 rfl rfl rfl rfl ?_
  refine v_getI (pc' := 9) 4 rfl rfl pf_X9_86 ly_436 (lay_lt ly_436 (by decide)) ?_
  refine v_icmp_ge (tgt := 34) (pc' := 12) 5 rfl rfl (by decide) (fun hc => ?_) (fun hc => ?_)
  · replace h := h.1 hc
    refine v_iload (pc' := 36) 17 3 rfl rfl rfl ?_
    exact v_iret 18 rfl rfl (by decide) (by decide) ⟨_, rfl, rfl, h⟩
  replace h := h.2 hc
  refine v_lload_n (pc' := 13) 6 1 rfl rfl rfl rfl ?_
  refine v_iload (pc' := 15) 7 3 rfl rfl rfl ?_
  refine v_iconst (v := 1) (pc' := 16) 8 rfl rfl (by decide) ?_
  refine v_iadd (pc' := 17) 9 rfl rfl ?_
  refine v_cS (Y2 := Y_X9_bit) (As := [.long v1, .int (v4 + 1)]) (pc' := 20) (c1 := 0) (s1 := 0) 10 rfl rfl mf_X9_bit rfl rfl ml_X9_113 ms_X9_bit rfl (Nat.le_of_ble_eq_true rfl) ⟨Nat.le_of_ble_eq_true rfl, Nat.le_of_ble_eq_true rfl⟩ rfl rfl (ok_X9_bit v1 (v4 + 1) I L h) ?_ ?_
  · intro e9 u9 hx9
    exact hx9.elim
  intro v9 u9 hv9
  obtain ⟨r1684, rfl, rfl, h⟩ := hv9
  refine ⟨fun q => absurd q (Nat.lt_irrefl _), ?_⟩
  show V G Y_X9_endOf 20 _ (.int r1684 :: _) _ _ _ _ _
  refine v_lload_n (pc' := 21) 11 1 rfl rfl rfl rfl ?_
  refine v_iload_n (pc' := 22) 12 2 rfl rfl rfl rfl ?_
  refine v_cS (Y2 := Y_X9_bit) (As := [.long v1, .int v3]) (pc' := 25) (c1 := 0) (s1 := 0) 13 rfl rfl mf_X9_bit rfl rfl ml_X9_113 ms_X9_bit rfl (Nat.le_of_ble_eq_true rfl) ⟨Nat.le_of_ble_eq_true rfl, Nat.le_of_ble_eq_true rfl⟩ rfl rfl (ok_X9_bit v1 v3 I L h) ?_ ?_
  · intro e9 u9 hx9
    exact hx9.elim
  intro v9 u9 hv9
  obtain ⟨r1685, rfl, rfl, h⟩ := hv9
  refine ⟨fun q => absurd q (Nat.lt_irrefl _), ?_⟩
  show V G Y_X9_endOf 25 _ (.int r1685 :: _) _ _ _ _ _
  refine v_icmp_ne (tgt := 34) (pc' := 28) 14 rfl rfl (by decide) (fun hc => ?_) (fun hc => ?_)
  · replace h := h.1 hc
    refine v_iload (pc' := 36) 17 3 rfl rfl rfl ?_
    exact v_iret 18 rfl rfl (by decide) (by decide) ⟨_, rfl, rfl, h⟩
  replace h := h.2 hc
  refine v_iinc (v := (v4 + 1)) (ls' := [(4, .int (v4 + 1)), (0, .ref 436), (1, .long v1), (3, .int v3)]) (pc' := 31) 15 3 rfl rfl rfl rfl (by decide) rfl ?_
  refine v_goto (tgt := 3) 16 rfl (by decide) ?_
  refine V.sub [1, 2, 3, 0] rfl ?_
  exact hR3 (v4 + 1) h
theorem l_X9_endOf_3 {G : GT} {b d t : Nat} (v1 : Int64) (v3 : Int32) (I : TI) (L : TL)  (Q : Int32 → Prop)  : ∀ (n9 : Nat) (v4 : Int32), L_X9_endOf_3 v1 v3 I L Q n9 v4 → V G Y_X9_endOf 3 [(0, .ref 436), (1, .long v1), (3, .int v3), (4, .int v4)] [] (I, L, RT b d t, 457) 0 0 (fun v9 u9 => ∃ (r9 : Int32), v9 = some (.int r9) ∧ u9 = (I, L, RT b d t, 457) ∧ Q r9) (fun _ _ => False)
  | 0, _, h => h.elim
  | n9 + 1, v4, h => d_X9_endOf_3 v1 v3 I L Q _ (l_X9_endOf_3 v1 v3 I L Q n9) v4 h
set_option maxHeartbeats 4000000 in
set_option maxRecDepth 100000 in
theorem ok_X9_endOf {G : GT} {b d t : Nat} (p1 : Int64) (p3 : Int32) (I : TI) (L : TL)  {Q : Int32 → Prop} (h : W_X9_endOf p1 p3 I L Q) : MW G Y_X9_endOf [.ref 436, .long p1, .int p3] (I, L, RT b d t, 457) (fun v9 u9 => ∃ (r9 : Int32), v9 = some (.int r9) ∧ u9 = (I, L, RT b d t, 457) ∧ Q r9) (fun _ _ => False) := by
  unfold W_X9_endOf at h
  refine MW.intro rfl (by decide) is_X9_endOf (Nat.le_of_ble_eq_true rfl) ?_
  show V G Y_X9_endOf 0 [(0, .ref 436), (1, .long p1), (3, .int p3)] [] (I, L, RT b d t, 457) 0 0 _ _
  refine v_iload_n (pc' := 1) 0 2 rfl rfl rfl rfl ?_
  refine v_istore (ls' := [(4, .int p3), (0, .ref 436), (1, .long p1), (3, .int p3)]) (pc' := 3) 1 rfl rfl (by decide) rfl ?_
  refine V.sub [1, 2, 3, 0] rfl ?_
  obtain ⟨n1686, h⟩ := h
  exact l_X9_endOf_3 p1 p3 I L Q n1686 p3 h
set_option maxHeartbeats 4000000 in
set_option maxRecDepth 100000 in
theorem ok_X9_isPulse {G : GT} {b d t : Nat} (p1 : Int32) (p2 : Int32) (p3 : Int32) (I : TI) (L : TL)  {Q : Int32 → Prop} (h : W_X9_isPulse p1 p2 p3 I L Q) : MW G Y_X9_isPulse [.ref 436, .int p1, .int p2, .int p3] (I, L, RT b d t, 457) (fun v9 u9 => ∃ (r9 : Int32), v9 = some (.int r9) ∧ u9 = (I, L, RT b d t, 457) ∧ Q r9) (fun _ _ => False) := by
  unfold W_X9_isPulse at h
  refine MW.intro rfl (by decide) is_X9_isPulse (Nat.le_of_ble_eq_true rfl) ?_
  show V G Y_X9_isPulse 0 [(0, .ref 436), (1, .int p1), (2, .int p2), (3, .int p3)] [] (I, L, RT b d t, 457) 0 0 _ _
  refine v_iload_n (pc' := 1) 0 1 rfl rfl rfl rfl ?_
  refine v_aload_n (pc' := 2) 1 0 rfl rfl rfl rfl ?_
  refine v_getI (pc' := 5) 2 rfl rfl pf_X9_77 ly_436 (lay_lt ly_436 (by decide)) ?_
  refine v_isub (pc' := 6) 3 rfl rfl ?_
  refine v_istore (ls' := [(4, .int (p1 - (I 436 10))), (0, .ref 436), (1, .int p1), (2, .int p2), (3, .int p3)]) (pc' := 8) 4 rfl rfl (by decide) rfl ?_
  refine v_iload_n (pc' := 9) 5 3 rfl rfl rfl rfl ?_
  refine v_iload_n (pc' := 10) 6 4 rfl rfl rfl rfl ?_
  refine v_cS (Y2 := Y_X9_times) (As := [.int p2, .int p3]) (pc' := 13) (c1 := 0) (s1 := 0) 7 rfl rfl mf_X9_times rfl rfl ml_X9_107 ms_X9_times rfl (Nat.le_of_ble_eq_true rfl) ⟨Nat.le_of_ble_eq_true rfl, Nat.le_of_ble_eq_true rfl⟩ rfl rfl (ok_X9_times p2 p3 I L h) ?_ ?_
  · intro e9 u9 hx9
    exact hx9.elim
  intro v9 u9 hv9
  obtain ⟨r1690, rfl, rfl, h⟩ := hv9
  refine ⟨fun q => absurd q (Nat.lt_irrefl _), ?_⟩
  show V G Y_X9_isPulse 13 _ (.long r1690 :: _) _ _ _ _ _
  refine v_aload_n (pc' := 14) 8 1 rfl rfl rfl rfl ?_
  refine v_getR (t := 437) (pc' := 17) 9 rfl rfl pf_X9_7 ly_436 (lay_lt ly_436 (by decide)) rt_436_1 ?_
  refine v_bipush (v := 9) (pc' := 19) 10 rfl rfl (by decide) ?_
  refine v_iload (pc' := 21) 11 0 rfl rfl rfl ?_
  refine v_iadd (pc' := 22) 12 rfl rfl ?_
  obtain ⟨hi1691, h⟩ := h
  refine v_lald (i := ((9 : Int32) + (p1 - (I 436 10)))) (j := ((9 : Int32) + (p1 - (I 436 10))).toNatClampNeg) (pc' := 23) 13 rfl rfl ly_437 ln_437 (lay_lt ly_437 (by decide)) hi1691 rfl ?_
  refine v_aload_n (pc' := 24) 14 1 rfl rfl rfl rfl ?_
  refine v_getR (t := 437) (pc' := 27) 15 rfl rfl pf_X9_7 ly_436 (lay_lt ly_436 (by decide)) rt_436_1 ?_
  refine v_bipush (v := 21) (pc' := 29) 16 rfl rfl (by decide) ?_
  refine v_iload (pc' := 31) 17 0 rfl rfl rfl ?_
  refine v_iadd (pc' := 32) 18 rfl rfl ?_
  obtain ⟨hi1692, h⟩ := h
  refine v_lald (i := ((21 : Int32) + (p1 - (I 436 10)))) (j := ((21 : Int32) + (p1 - (I 436 10))).toNatClampNeg) (pc' := 33) 19 rfl rfl ly_437 ln_437 (lay_lt ly_437 (by decide)) hi1692 rfl ?_
  refine v_lor (pc' := 34) 20 rfl rfl ?_
  refine v_ldc2 (v := -1) (pc' := 37) 21 rfl rfl kl_X9_111 ?_
  refine v_lxor (pc' := 38) 22 rfl rfl ?_
  refine v_land (pc' := 39) 23 rfl rfl ?_
  refine nm_J (e := (r1690 &&& (((L 437 (((9 : Int32) + (p1 - (I 436 10))).toNatClampNeg)) ||| (L 437 (((21 : Int32) + (p1 - (I 436 10))).toNatClampNeg))) ^^^ (-1)))) (fun x1693 hx1693 => ?_)
  replace h := h x1693 hx1693
  refine v_lstore (ls' := [(5, .long x1693), (4, .int (p1 - (I 436 10))), (0, .ref 436), (1, .int p1), (2, .int p2), (3, .int p3)]) (pc' := 41) 24 rfl rfl (by decide) rfl ?_
  refine v_iload_n (pc' := 42) 25 4 rfl rfl rfl rfl ?_
  refine v_if_le (tgt := 80) (pc' := 45) 26 rfl rfl (by decide) (fun hc => ?_) (fun hc => ?_)
  · replace h := h.1 hc
    refine v_iconst (v := 0) (pc' := 81) 49 rfl rfl (by decide) ?_
    exact v_bret 50 rfl rfl (by decide) (by decide) (by decide) ⟨_, rfl, rfl, h⟩
  replace h := h.2 hc
  refine v_iload_n (pc' := 46) 27 5 rfl rfl rfl rfl ?_
  refine v_aload_n (pc' := 47) 28 2 rfl rfl rfl rfl ?_
  refine v_getI (pc' := 50) 29 rfl rfl pf_X9_86 ly_436 (lay_lt ly_436 (by decide)) ?_
  refine v_icmp_ge (tgt := 80) (pc' := 53) 30 rfl rfl (by decide) (fun hc => ?_) (fun hc => ?_)
  · replace h := h.1 hc
    refine v_iconst (v := 0) (pc' := 81) 49 rfl rfl (by decide) ?_
    exact v_bret 50 rfl rfl (by decide) (by decide) (by decide) ⟨_, rfl, rfl, h⟩
  replace h := h.2 hc
  refine v_iload_n (pc' := 54) 31 5 rfl rfl rfl rfl ?_
  refine v_iload_n (pc' := 55) 32 4 rfl rfl rfl rfl ?_
  refine v_isub (pc' := 56) 33 rfl rfl ?_
  refine v_iconst (v := 1) (pc' := 57) 34 rfl rfl (by decide) ?_
  refine v_iadd (pc' := 58) 35 rfl rfl ?_
  refine v_i2l (pc' := 59) 36 rfl rfl ?_
  refine v_aload_n (pc' := 60) 37 2 rfl rfl rfl rfl ?_
  refine v_getR (t := 437) (pc' := 63) 38 rfl rfl pf_X9_7 ly_436 (lay_lt ly_436 (by decide)) rt_436_1 ?_
  refine v_iconst (v := 0) (pc' := 64) 39 rfl rfl (by decide) ?_
  refine v_lald (i := 0) (j := 0) (pc' := 65) 40 rfl rfl ly_437 ln_437 (lay_lt ly_437 (by decide)) (vp_lit (by decide)) (by decide) ?_
  refine v_lc_gt (tgt := 80) (pc' := 69) 41 42 rfl rfl rfl (by decide) (fun hc => ?_) (fun hc => ?_)
  · replace h := h.1 hc
    refine v_iconst (v := 0) (pc' := 81) 49 rfl rfl (by decide) ?_
    exact v_bret 50 rfl rfl (by decide) (by decide) (by decide) ⟨_, rfl, rfl, h⟩
  replace h := h.2 hc
  refine v_lload (pc' := 71) 43 0 rfl rfl rfl ?_
  refine v_lconst (v := 0) (pc' := 72) 44 rfl rfl (by decide) ?_
  refine v_lc_eq (tgt := 80) (pc' := 76) 45 46 rfl rfl rfl (by decide) (fun hc => ?_) (fun hc => ?_)
  · replace h := h.1 hc
    refine v_iconst (v := 0) (pc' := 81) 49 rfl rfl (by decide) ?_
    exact v_bret 50 rfl rfl (by decide) (by decide) (by decide) ⟨_, rfl, rfl, h⟩
  replace h := h.2 hc
  refine v_iconst (v := 1) (pc' := 77) 47 rfl rfl (by decide) ?_
  refine v_goto (tgt := 81) 48 rfl (by decide) ?_
  exact v_bret 50 rfl rfl (by decide) (by decide) (by decide) ⟨_, rfl, rfl, h⟩
set_option maxHeartbeats 4000000 in
set_option maxRecDepth 100000 in
theorem b_X9_findsPulse_70 {G : GT} {b d t : Nat} (v1 : Int32) (v2 : Int32) (v4 : Int32) (I : TI) (L : TL)  (Q : Int32 → TI → Prop) (R7 : Int32 → TI → Prop) (hR7 : ∀ (v3 : Int32) (I : TI), R7 v3 I → V G Y_X9_findsPulse 7 [(0, .ref 436), (1, .int v1), (2, .int v2), (3, .int v3)] [] (I, L, RT b d t, 457) 0 0 (fun v9 u9 => ∃ (r9 : Int32) (I9 : TI), v9 = some (.int r9) ∧ u9 = (I9, L, RT b d t, 457) ∧ Q r9 I9) (fun _ _ => False)) (h : B_X9_findsPulse_70 v1 v2 v4 I L Q R7) : V G Y_X9_findsPulse 70 [(0, .ref 436), (1, .int v1), (2, .int v2), (4, .int v4)] [] (I, L, RT b d t, 457) 0 0 (fun v9 u9 => ∃ (r9 : Int32) (I9 : TI), v9 = some (.int r9) ∧ u9 = (I9, L, RT b d t, 457) ∧ Q r9 I9) (fun _ _ => False) := by
  unfold B_X9_findsPulse_70 at h
  refine v_iload (pc' := 72) 41 3 rfl rfl rfl ?_
  refine v_iconst (v := 1) (pc' := 73) 42 rfl rfl (by decide) ?_
  refine v_iadd (pc' := 74) 43 rfl rfl ?_
  refine v_istore_n (ls' := [(3, .int (v4 + 1)), (0, .ref 436), (1, .int v1), (2, .int v2), (4, .int v4)]) (pc' := 75) 44 rfl rfl rfl (by decide) rfl ?_
  refine v_goto (tgt := 7) 45 rfl (by decide) ?_
  refine V.sub [1, 2, 3, 0] rfl ?_
  exact hR7 (v4 + 1) I h
set_option maxHeartbeats 4000000 in
set_option maxRecDepth 100000 in
theorem d_X9_findsPulse_7 {G : GT} {b d t : Nat} (v1 : Int32) (v2 : Int32) (L : TL)  (Q : Int32 → TI → Prop) (R7 : Int32 → TI → Prop)  (hR7 : ∀ (v3 : Int32) (I : TI), R7 v3 I → V G Y_X9_findsPulse 7 [(0, .ref 436), (1, .int v1), (2, .int v2), (3, .int v3)] [] (I, L, RT b d t, 457) 0 0 (fun v9 u9 => ∃ (r9 : Int32) (I9 : TI), v9 = some (.int r9) ∧ u9 = (I9, L, RT b d t, 457) ∧ Q r9 I9) (fun _ _ => False)) (v3 : Int32) (I : TI)  (h : D_X9_findsPulse_7 v1 v2 L Q R7 v3 I) : V G Y_X9_findsPulse 7 [(0, .ref 436), (1, .int v1), (2, .int v2), (3, .int v3)] [] (I, L, RT b d t, 457) 0 0 (fun v9 u9 => ∃ (r9 : Int32) (I9 : TI), v9 = some (.int r9) ∧ u9 = (I9, L, RT b d t, 457) ∧ Q r9 I9) (fun _ _ => False) := by
  unfold D_X9_findsPulse_7 at h
  refine v_iload_n (pc' := 8) 5 3 rfl rfl rfl rfl ?_
  refine v_aload_n (pc' := 9) 6 0 rfl rfl rfl rfl ?_
  refine v_getI (pc' := 12) 7 rfl rfl pf_X9_86 ly_436 (lay_lt ly_436 (by decide)) ?_
  refine v_icmp_gt (tgt := 78) (pc' := 15) 8 rfl rfl (by decide) (fun hc => ?_) (fun hc => ?_)
  · replace h := h.1 hc
    refine v_iconst (v := 0) (pc' := 79) 46 rfl rfl (by decide) ?_
    exact v_bret 47 rfl rfl (by decide) (by decide) (by decide) ⟨_, _, rfl, rfl, h⟩
  replace h := h.2 hc
  refine v_aload_n (pc' := 16) 9 0 rfl rfl rfl rfl ?_
  refine v_aload_n (pc' := 17) 10 0 rfl rfl rfl rfl ?_
  refine v_getR (t := 444) (pc' := 20) 11 rfl rfl pf_X9_32 ly_436 (lay_lt ly_436 (by decide)) rt_436_15 ?_
  refine v_iload_n (pc' := 21) 12 1 rfl rfl rfl rfl ?_
  obtain ⟨hi1700, h⟩ := h
  refine v_lald (i := v1) (j := v1.toNatClampNeg) (pc' := 22) 13 rfl rfl ly_444 ln_444 (lay_lt ly_444 (by decide)) hi1700 rfl ?_
  refine v_iload_n (pc' := 23) 14 3 rfl rfl rfl rfl ?_
  refine v_cV (Y2 := Y_X9_endOf) (As := [.long (L 444 (v1.toNatClampNeg)), .int v3]) (b := 436) (pc' := 26) (c1 := 0) (s1 := 0) 15 rfl rfl mf_X9_endOf rfl rfl ml_X9_144 mi_X9_endOf se_X9_endOf (ci := 8) rfl ly_436 (lay_lt ly_436 (by decide)) rfl (Nat.le_of_ble_eq_true rfl) ⟨Nat.le_of_ble_eq_true rfl, Nat.le_of_ble_eq_true rfl⟩ rfl rfl (ok_X9_endOf (L 444 (v1.toNatClampNeg)) v3 I L h) ?_ ?_
  · intro e9 u9 hx9
    exact hx9.elim
  intro v9 u9 hv9
  obtain ⟨r1701, rfl, rfl, h⟩ := hv9
  refine ⟨fun q => absurd q (Nat.lt_irrefl _), ?_⟩
  show V G Y_X9_findsPulse 26 _ (.int r1701 :: _) _ _ _ _ _
  refine v_istore (ls' := [(4, .int r1701), (0, .ref 436), (1, .int v1), (2, .int v2), (3, .int v3)]) (pc' := 28) 16 rfl rfl (by decide) rfl ?_
  refine v_aload_n (pc' := 29) 17 1 rfl rfl rfl rfl ?_
  refine v_iload_n (pc' := 30) 18 2 rfl rfl rfl rfl ?_
  refine v_iload_n (pc' := 31) 19 4 rfl rfl rfl rfl ?_
  refine v_iload (pc' := 33) 20 0 rfl rfl rfl ?_
  refine v_cV (Y2 := Y_X9_isPulse) (As := [.int v1, .int v3, .int r1701]) (b := 436) (pc' := 36) (c1 := 0) (s1 := 0) 21 rfl rfl mf_X9_isPulse rfl rfl ml_X9_147 mi_X9_isPulse se_X9_isPulse (ci := 8) rfl ly_436 (lay_lt ly_436 (by decide)) rfl (Nat.le_of_ble_eq_true rfl) ⟨Nat.le_of_ble_eq_true rfl, Nat.le_of_ble_eq_true rfl⟩ rfl rfl (ok_X9_isPulse v1 v3 r1701 I L h) ?_ ?_
  · intro e9 u9 hx9
    exact hx9.elim
  intro v9 u9 hv9
  obtain ⟨r1702, rfl, rfl, h⟩ := hv9
  refine ⟨fun q => absurd q (Nat.lt_irrefl _), ?_⟩
  show V G Y_X9_findsPulse 36 _ (.int r1702 :: _) _ _ _ _ _
  refine v_if_eq (tgt := 70) (pc' := 39) 22 rfl rfl (by decide) (fun hc => ?_) (fun hc => ?_)
  · replace h := h.1 hc
    refine V.sub [1, 2, 3, 0] rfl ?_
    exact b_X9_findsPulse_70 v1 v2 r1701 I L Q R7 hR7 h
  replace h := h.2 hc
  refine v_aload_n (pc' := 40) 23 1 rfl rfl rfl rfl ?_
  refine v_iload_n (pc' := 41) 24 4 rfl rfl rfl rfl ?_
  refine v_putI (pc' := 44) 25 rfl rfl pf_X9_151 (fun q => absurd q (by decide)) ly_436 (lay_lt ly_436 (by decide)) ?_
  refine v_aload_n (pc' := 45) 26 1 rfl rfl rfl rfl ?_
  refine v_iload (pc' := 47) 27 0 rfl rfl rfl ?_
  refine v_putI (pc' := 50) 28 rfl rfl pf_X9_154 (fun q => absurd q (by decide)) ly_436 (lay_lt ly_436 (by decide)) ?_
  refine v_aload_n (pc' := 51) 29 1 rfl rfl rfl rfl ?_
  refine v_getI (pc' := 54) 30 rfl rfl pf_X9_141 ly_436 (lay_lt ly_436 (by decide)) ?_
  refine v_iload_n (pc' := 55) 31 3 rfl rfl rfl rfl ?_
  refine v_icmp_ne (tgt := 60) (pc' := 58) 32 rfl rfl (by decide) (fun hc => ?_) (fun hc => ?_)
  · replace h := h.1 hc
    refine v_aload_n (pc' := 61) 35 1 rfl rfl rfl rfl ?_
    refine v_dup (pc' := 62) 36 rfl rfl rfl ?_
    refine v_getI (pc' := 65) 37 rfl rfl pf_X9_141 ly_436 (lay_lt ly_436 (by decide)) ?_
    refine v_iconst (v := 1) (pc' := 66) 38 rfl rfl (by decide) ?_
    refine v_iadd (pc' := 67) 39 rfl rfl ?_
    refine v_putI (pc' := 70) 40 rfl rfl pf_X9_141 (fun q => absurd q (by decide)) ly_436 (lay_lt ly_436 (by decide)) ?_
    refine nm_M (e := (up2 (up2 (up2 I 436 18 v3) 436 19 r1701) 436 20 (((up2 (up2 I 436 18 v3) 436 19 r1701) 436 20) + 1))) (fun I1703 hI1703 => ?_)
    replace h := h I1703 hI1703
    refine V.sub [1, 2, 3, 0] rfl ?_
    exact b_X9_findsPulse_70 v1 v2 r1701 I1703 L Q R7 hR7 h
  replace h := h.2 hc
  refine v_iconst (v := 1) (pc' := 59) 33 rfl rfl (by decide) ?_
  exact v_bret 34 rfl rfl (by decide) (by decide) (by decide) ⟨_, _, rfl, rfl, h⟩
theorem l_X9_findsPulse_7 {G : GT} {b d t : Nat} (v1 : Int32) (v2 : Int32) (L : TL)  (Q : Int32 → TI → Prop)  : ∀ (n9 : Nat) (v3 : Int32) (I : TI), L_X9_findsPulse_7 v1 v2 L Q n9 v3 I → V G Y_X9_findsPulse 7 [(0, .ref 436), (1, .int v1), (2, .int v2), (3, .int v3)] [] (I, L, RT b d t, 457) 0 0 (fun v9 u9 => ∃ (r9 : Int32) (I9 : TI), v9 = some (.int r9) ∧ u9 = (I9, L, RT b d t, 457) ∧ Q r9 I9) (fun _ _ => False)
  | 0, _, _, h => h.elim
  | n9 + 1, v3, I, h => d_X9_findsPulse_7 v1 v2 L Q _ (l_X9_findsPulse_7 v1 v2 L Q n9) v3 I h
set_option maxHeartbeats 4000000 in
set_option maxRecDepth 100000 in
theorem ok_X9_findsPulse {G : GT} {b d t : Nat} (p1 : Int32) (p2 : Int32) (I : TI) (L : TL)  {Q : Int32 → TI → Prop} (h : W_X9_findsPulse p1 p2 I L Q) : MW G Y_X9_findsPulse [.ref 436, .int p1, .int p2] (I, L, RT b d t, 457) (fun v9 u9 => ∃ (r9 : Int32) (I9 : TI), v9 = some (.int r9) ∧ u9 = (I9, L, RT b d t, 457) ∧ Q r9 I9) (fun _ _ => False) := by
  unfold W_X9_findsPulse at h
  refine MW.intro rfl (by decide) is_X9_findsPulse (Nat.le_of_ble_eq_true rfl) ?_
  show V G Y_X9_findsPulse 0 [(0, .ref 436), (1, .int p1), (2, .int p2)] [] (I, L, RT b d t, 457) 0 0 _ _
  refine v_aload_n (pc' := 1) 0 0 rfl rfl rfl rfl ?_
  refine v_iconst (v := 0) (pc' := 2) 1 rfl rfl (by decide) ?_
  refine v_putI (pc' := 5) 2 rfl rfl pf_X9_141 (fun q => absurd q (by decide)) ly_436 (lay_lt ly_436 (by decide)) ?_
  refine v_iconst (v := 0) (pc' := 6) 3 rfl rfl (by decide) ?_
  refine v_istore_n (ls' := [(3, .int 0), (0, .ref 436), (1, .int p1), (2, .int p2)]) (pc' := 7) 4 rfl rfl rfl (by decide) rfl ?_
  refine V.sub [1, 2, 3, 0] rfl ?_
  obtain ⟨n1704, h⟩ := h
  exact l_X9_findsPulse_7 p1 p2 L Q n1704 (0 : Int32) (up2 I 436 20 0) h
set_option maxHeartbeats 4000000 in
set_option maxRecDepth 100000 in
theorem ok_X9_pulsesOf {G : GT} {b d t : Nat} (p1 : Int32) (I : TI) (L : TL)  {Q : Int32 → TI → Prop} (h : W_X9_pulsesOf p1 I L Q) : MW G Y_X9_pulsesOf [.ref 436, .int p1] (I, L, RT b d t, 457) (fun v9 u9 => ∃ (r9 : Int32) (I9 : TI), v9 = some (.int r9) ∧ u9 = (I9, L, RT b d t, 457) ∧ Q r9 I9) (fun _ _ => False) := by
  unfold W_X9_pulsesOf at h
  refine MW.intro rfl (by decide) is_X9_pulsesOf (Nat.le_of_ble_eq_true rfl) ?_
  show V G Y_X9_pulsesOf 0 [(0, .ref 436), (1, .int p1)] [] (I, L, RT b d t, 457) 0 0 _ _
  refine v_aload_n (pc' := 1) 0 0 rfl rfl rfl rfl ?_
  refine v_iload_n (pc' := 2) 1 1 rfl rfl rfl rfl ?_
  refine v_iconst (v := -1) (pc' := 3) 2 rfl rfl (by decide) ?_
  refine v_cV (Y2 := Y_X9_findsPulse) (As := [.int p1, .int (-1)]) (b := 436) (pc' := 6) (c1 := 0) (s1 := 0) 3 rfl rfl mf_X9_findsPulse rfl rfl ml_X9_157 mi_X9_findsPulse se_X9_findsPulse (ci := 8) rfl ly_436 (lay_lt ly_436 (by decide)) rfl (Nat.le_of_ble_eq_true rfl) ⟨Nat.le_of_ble_eq_true rfl, Nat.le_of_ble_eq_true rfl⟩ rfl rfl (ok_X9_findsPulse p1 ((-1) : Int32) I L h) ?_ ?_
  · intro e9 u9 hx9
    exact hx9.elim
  intro v9 u9 hv9
  obtain ⟨r1707, I1708, rfl, rfl, h⟩ := hv9
  refine ⟨fun q => absurd q (Nat.lt_irrefl _), ?_⟩
  show V G Y_X9_pulsesOf 6 _ (.int r1707 :: _) _ _ _ _ _
  refine v_istore_n (ls' := [(2, .int r1707), (0, .ref 436), (1, .int p1)]) (pc' := 7) 4 rfl rfl rfl (by decide) rfl ?_
  refine v_aload_n (pc' := 8) 5 1 rfl rfl rfl rfl ?_
  refine v_getI (pc' := 11) 6 rfl rfl pf_X9_141 ly_436 (lay_lt ly_436 (by decide)) ?_
  exact v_iret 7 rfl rfl (by decide) (by decide) ⟨_, _, rfl, rfl, h⟩
set_option maxHeartbeats 4000000 in
set_option maxRecDepth 100000 in
theorem ok_X9_costOf {G : GT} {b d t : Nat} (p1 : Int32) (p2 : Int32) (p3 : Int32) (I : TI) (L : TL)  {Q : Int32 → Prop} (h : W_X9_costOf p1 p2 p3 I L Q) : MW G Y_X9_costOf [.ref 436, .int p1, .int p2, .int p3] (I, L, RT b d t, 457) (fun v9 u9 => ∃ (r9 : Int32), v9 = some (.int r9) ∧ u9 = (I, L, RT b d t, 457) ∧ Q r9) (fun _ _ => False) := by
  unfold W_X9_costOf at h
  refine MW.intro rfl (by decide) is_X9_costOf (Nat.le_of_ble_eq_true rfl) ?_
  show V G Y_X9_costOf 0 [(0, .ref 436), (1, .int p1), (2, .int p2), (3, .int p3)] [] (I, L, RT b d t, 457) 0 0 _ _
  refine v_aload_n (pc' := 1) 0 0 rfl rfl rfl rfl ?_
  refine v_getI (pc' := 4) 1 rfl rfl pf_X9_89 ly_436 (lay_lt ly_436 (by decide)) ?_
  refine v_iload_n (pc' := 5) 2 3 rfl rfl rfl rfl ?_
  refine v_iload_n (pc' := 6) 3 2 rfl rfl rfl rfl ?_
  refine v_isub (pc' := 7) 4 rfl rfl ?_
  refine v_iconst (v := 1) (pc' := 8) 5 rfl rfl (by decide) ?_
  refine v_iadd (pc' := 9) 6 rfl rfl ?_
  refine v_imul (pc' := 10) 7 rfl rfl ?_
  refine v_aload_n (pc' := 11) 8 0 rfl rfl rfl rfl ?_
  refine v_iload_n (pc' := 12) 9 1 rfl rfl rfl rfl ?_
  refine v_cV (Y2 := Y_X9_dependence) (As := [.int p1]) (b := 436) (pc' := 15) (c1 := 0) (s1 := 0) 10 rfl rfl mf_X9_dependence rfl rfl ml_X9_99 mi_X9_dependence se_X9_dependence (ci := 8) rfl ly_436 (lay_lt ly_436 (by decide)) rfl (Nat.le_of_ble_eq_true rfl) ⟨Nat.le_of_ble_eq_true rfl, Nat.le_of_ble_eq_true rfl⟩ rfl rfl (ok_X9_dependence p1 I L h) ?_ ?_
  · intro e9 u9 hx9
    exact hx9.elim
  intro v9 u9 hv9
  obtain ⟨r1711, rfl, rfl, h⟩ := hv9
  refine ⟨fun q => absurd q (Nat.lt_irrefl _), ?_⟩
  show V G Y_X9_costOf 15 _ (.long r1711 :: _) _ _ _ _ _
  refine v_cS (Y2 := Y_X9_ones) (As := [.long r1711]) (pc' := 18) (c1 := 0) (s1 := 0) 11 rfl rfl mf_X9_ones rfl rfl ml_X9_137 ms_X9_ones rfl (Nat.le_of_ble_eq_true rfl) ⟨Nat.le_of_ble_eq_true rfl, Nat.le_of_ble_eq_true rfl⟩ rfl rfl (ok_X9_ones r1711 I L h) ?_ ?_
  · intro e9 u9 hx9
    exact hx9.elim
  intro v9 u9 hv9
  obtain ⟨r1712, rfl, rfl, h⟩ := hv9
  refine ⟨fun q => absurd q (Nat.lt_irrefl _), ?_⟩
  show V G Y_X9_costOf 18 _ (.int r1712 :: _) _ _ _ _ _
  refine v_imul (pc' := 19) 12 rfl rfl ?_
  exact v_iret 13 rfl rfl (by decide) (by decide) ⟨_, rfl, rfl, h⟩
set_option maxHeartbeats 4000000 in
set_option maxRecDepth 100000 in
theorem b_X9_delayFor_12 {G : GT} {b d t : Nat} (s1 : Int32) (s2 : Int32) (I : TI) (L : TL)  (Q : Int32 → Prop)  (h : B_X9_delayFor_12 s1 s2 I L Q) : V G Y_X9_delayFor 12 [] [.int s2, .int s1, .ref 436] (I, L, RT b d t, 457) 0 0 (fun v9 u9 => ∃ (r9 : Int32), v9 = some (.int r9) ∧ u9 = (I, L, RT b d t, 457) ∧ Q r9) (fun _ _ => False) := by
  unfold B_X9_delayFor_12 at h
  refine v_cV (Y2 := Y_X9_delayOf) (As := [.int s1, .int s2]) (b := 436) (pc' := 15) (c1 := 0) (s1 := 0) 8 rfl rfl mf_X9_delayOf rfl rfl ml_X9_160 mi_X9_delayOf se_X9_delayOf (ci := 8) rfl ly_436 (lay_lt ly_436 (by decide)) rfl (Nat.le_of_ble_eq_true rfl) ⟨Nat.le_of_ble_eq_true rfl, Nat.le_of_ble_eq_true rfl⟩ rfl rfl (ok_X9_delayOf s1 s2 I L h) ?_ ?_
  · intro e9 u9 hx9
    exact hx9.elim
  intro v9 u9 hv9
  obtain ⟨r1715, rfl, rfl, h⟩ := hv9
  refine ⟨fun q => absurd q (Nat.lt_irrefl _), ?_⟩
  show V G Y_X9_delayFor 15 _ (.int r1715 :: _) _ _ _ _ _
  exact v_iret 9 rfl rfl (by decide) (by decide) ⟨_, rfl, rfl, h⟩
set_option maxHeartbeats 4000000 in
set_option maxRecDepth 100000 in
theorem ok_X9_delayFor {G : GT} {b d t : Nat} (p1 : Int32) (p2 : Int32) (I : TI) (L : TL)  {Q : Int32 → Prop} (h : W_X9_delayFor p1 p2 I L Q) : MW G Y_X9_delayFor [.ref 436, .int p1, .int p2] (I, L, RT b d t, 457) (fun v9 u9 => ∃ (r9 : Int32), v9 = some (.int r9) ∧ u9 = (I, L, RT b d t, 457) ∧ Q r9) (fun _ _ => False) := by
  unfold W_X9_delayFor at h
  refine MW.intro rfl (by decide) is_X9_delayFor (Nat.le_of_ble_eq_true rfl) ?_
  show V G Y_X9_delayFor 0 [(0, .ref 436), (1, .int p1), (2, .int p2)] [] (I, L, RT b d t, 457) 0 0 _ _
  refine v_aload_n (pc' := 1) 0 0 rfl rfl rfl rfl ?_
  refine v_iload_n (pc' := 2) 1 1 rfl rfl rfl rfl ?_
  refine v_iload_n (pc' := 3) 2 2 rfl rfl rfl rfl ?_
  refine v_iconst (v := 1) (pc' := 4) 3 rfl rfl (by decide) ?_
  refine v_icmp_ne (tgt := 11) (pc' := 7) 4 rfl rfl (by decide) (fun hc => ?_) (fun hc => ?_)
  · replace h := h.1 hc
    refine v_iconst (v := 1) (pc' := 12) 7 rfl rfl (by decide) ?_
    refine V.sub [] rfl ?_
    exact b_X9_delayFor_12 p1 (1 : Int32) I L Q h
  replace h := h.2 hc
  refine v_iconst (v := 0) (pc' := 8) 5 rfl rfl (by decide) ?_
  refine v_goto (tgt := 12) 6 rfl (by decide) ?_
  refine V.sub [] rfl ?_
  exact b_X9_delayFor_12 p1 (0 : Int32) I L Q h
set_option maxHeartbeats 4000000 in
set_option maxRecDepth 100000 in
theorem d_X9_lays_3 {G : GT} {b d t : Nat} (v1 : Int32) (L : TL)  (Q : TI → Prop) (R3 : Int32 → TI → Prop)  (hR3 : ∀ (v2 : Int32) (I : TI), R3 v2 I → V G Y_X9_lays 3 [(0, .ref 436), (1, .int v1), (2, .int v2)] [] (I, L, RT b d t, 457) 0 0 (fun v9 u9 => ∃ (I9 : TI), v9 = none ∧ u9 = (I9, L, RT b d t, 457) ∧ Q I9) (fun _ _ => False)) (v2 : Int32) (I : TI)  (h : D_X9_lays_3 v1 L Q R3 v2 I) : V G Y_X9_lays 3 [(0, .ref 436), (1, .int v1), (2, .int v2)] [] (I, L, RT b d t, 457) 0 0 (fun v9 u9 => ∃ (I9 : TI), v9 = none ∧ u9 = (I9, L, RT b d t, 457) ∧ Q I9) (fun _ _ => False) := by
  unfold D_X9_lays_3 at h
  refine v_iload_n (pc' := 4) 2 2 rfl rfl rfl rfl ?_
  refine v_if_lt (tgt := 39) (pc' := 7) 3 rfl rfl (by decide) (fun hc => ?_) (fun hc => ?_)
  · replace h := h.1 hc
    exact v_vret 22 rfl rfl (by decide) (by decide) ⟨_, rfl, rfl, h⟩
  replace h := h.2 hc
  refine v_aload_n (pc' := 8) 4 0 rfl rfl rfl rfl ?_
  refine v_getR (t := 447) (pc' := 11) 5 rfl rfl pf_X9_41 ly_436 (lay_lt ly_436 (by decide)) rt_436_21 ?_
  refine v_aload_n (pc' := 12) 6 0 rfl rfl rfl rfl ?_
  refine v_getI (pc' := 15) 7 rfl rfl pf_X9_164 ly_436 (lay_lt ly_436 (by decide)) ?_
  refine v_iload_n (pc' := 16) 8 1 rfl rfl rfl rfl ?_
  refine v_iload_n (pc' := 17) 9 2 rfl rfl rfl rfl ?_
  refine v_ishr (pc' := 18) 10 rfl rfl ?_
  refine v_sipush (v := 255) (pc' := 21) 11 rfl rfl (by decide) ?_
  refine v_iand (pc' := 22) 12 rfl rfl ?_
  obtain ⟨hi1718, h⟩ := h
  refine v_iast (i := (I 436 22)) (j := (I 436 22).toNatClampNeg) (pc' := 23) 13 rfl rfl ly_447 ln_447 (lay_lt ly_447 (by decide)) hi1718 rfl ?_
  refine nm_M (e := (up2 I 447 ((I 436 22).toNatClampNeg) ((v1 >>> (v2 &&& 31)) &&& 255))) (fun I1719 hI1719 => ?_)
  replace h := h I1719 hI1719
  refine v_aload_n (pc' := 24) 14 0 rfl rfl rfl rfl ?_
  refine v_dup (pc' := 25) 15 rfl rfl rfl ?_
  refine v_getI (pc' := 28) 16 rfl rfl pf_X9_164 ly_436 (lay_lt ly_436 (by decide)) ?_
  refine v_iconst (v := 1) (pc' := 29) 17 rfl rfl (by decide) ?_
  refine v_iadd (pc' := 30) 18 rfl rfl ?_
  refine v_putI (pc' := 33) 19 rfl rfl pf_X9_164 (fun q => absurd q (by decide)) ly_436 (lay_lt ly_436 (by decide)) ?_
  refine v_iinc (v := (v2 + (-8))) (ls' := [(2, .int (v2 + (-8))), (0, .ref 436), (1, .int v1)]) (pc' := 36) 20 2 rfl rfl rfl rfl (by decide) rfl ?_
  refine v_goto (tgt := 3) 21 rfl (by decide) ?_
  refine V.sub [1, 2, 0] rfl ?_
  exact hR3 (v2 + (-8)) (up2 I1719 436 22 ((I1719 436 22) + 1)) h
theorem l_X9_lays_3 {G : GT} {b d t : Nat} (v1 : Int32) (L : TL)  (Q : TI → Prop)  : ∀ (n9 : Nat) (v2 : Int32) (I : TI), L_X9_lays_3 v1 L Q n9 v2 I → V G Y_X9_lays 3 [(0, .ref 436), (1, .int v1), (2, .int v2)] [] (I, L, RT b d t, 457) 0 0 (fun v9 u9 => ∃ (I9 : TI), v9 = none ∧ u9 = (I9, L, RT b d t, 457) ∧ Q I9) (fun _ _ => False)
  | 0, _, _, h => h.elim
  | n9 + 1, v2, I, h => d_X9_lays_3 v1 L Q _ (l_X9_lays_3 v1 L Q n9) v2 I h
set_option maxHeartbeats 4000000 in
set_option maxRecDepth 100000 in
theorem ok_X9_lays {G : GT} {b d t : Nat} (p1 : Int32) (I : TI) (L : TL)  {Q : TI → Prop} (h : W_X9_lays p1 I L Q) : MW G Y_X9_lays [.ref 436, .int p1] (I, L, RT b d t, 457) (fun v9 u9 => ∃ (I9 : TI), v9 = none ∧ u9 = (I9, L, RT b d t, 457) ∧ Q I9) (fun _ _ => False) := by
  unfold W_X9_lays at h
  refine MW.intro rfl (by decide) is_X9_lays (Nat.le_of_ble_eq_true rfl) ?_
  show V G Y_X9_lays 0 [(0, .ref 436), (1, .int p1)] [] (I, L, RT b d t, 457) 0 0 _ _
  refine v_bipush (v := 24) (pc' := 2) 0 rfl rfl (by decide) ?_
  refine v_istore_n (ls' := [(2, .int 24), (0, .ref 436), (1, .int p1)]) (pc' := 3) 1 rfl rfl rfl (by decide) rfl ?_
  refine V.sub [1, 2, 0] rfl ?_
  obtain ⟨n1720, h⟩ := h
  exact l_X9_lays_3 p1 L Q n1720 (24 : Int32) I h
set_option maxHeartbeats 4000000 in
set_option maxRecDepth 100000 in
theorem ok_X9_feed {G : GT} {b d t : Nat} (p1 : Int32) (p2 : Int32) (p3 : Int32) (p4 : Int32) (p5 : Int32) (I : TI) (L : TL)  {Q : Int32 → TI → Prop} (h : W_X9_feed p1 p2 p3 p4 p5 I L Q) : MW G Y_X9_feed [.ref 436, .int p1, .int p2, .int p3, .int p4, .int p5] (I, L, RT b d t, 457) (fun v9 u9 => ∃ (r9 : Int32) (I9 : TI), v9 = some (.int r9) ∧ u9 = (I9, L, RT b d t, 457) ∧ Q r9 I9) (fun _ _ => False) := by
  unfold W_X9_feed at h
  refine MW.intro rfl (by decide) is_X9_feed (Nat.le_of_ble_eq_true rfl) ?_
  show V G Y_X9_feed 0 [(0, .ref 436), (1, .int p1), (2, .int p2), (3, .int p3), (4, .int p4), (5, .int p5)] [] (I, L, RT b d t, 457) 0 0 _ _
  refine v_aload_n (pc' := 1) 0 0 rfl rfl rfl rfl ?_
  refine v_iconst (v := 0) (pc' := 2) 1 rfl rfl (by decide) ?_
  refine v_putI (pc' := 5) 2 rfl rfl pf_X9_80 (fun q => absurd q (by decide)) ly_436 (lay_lt ly_436 (by decide)) ?_
  refine v_aload_n (pc' := 6) 3 0 rfl rfl rfl rfl ?_
  refine v_getI (pc' := 9) 4 rfl rfl pf_X9_164 ly_436 (lay_lt ly_436 (by decide)) ?_
  refine v_bipush (v := 20) (pc' := 11) 5 rfl rfl (by decide) ?_
  refine v_iadd (pc' := 12) 6 rfl rfl ?_
  refine v_sipush (v := 600) (pc' := 15) 7 rfl rfl (by decide) ?_
  refine v_icmp_le (tgt := 20) (pc' := 18) 8 rfl rfl (by decide) (fun hc => ?_) (fun hc => ?_)
  · replace h := h.1 hc
    refine v_aload_n (pc' := 21) 11 0 rfl rfl rfl rfl ?_
    refine v_iload_n (pc' := 22) 12 1 rfl rfl rfl rfl ?_
    refine v_cV (Y2 := Y_X9_lays) (As := [.int p1]) (b := 436) (pc' := 25) (c1 := 0) (s1 := 0) 13 rfl rfl mf_X9_lays rfl rfl ml_X9_167 mi_X9_lays se_X9_lays (ci := 8) rfl ly_436 (lay_lt ly_436 (by decide)) rfl (Nat.le_of_ble_eq_true rfl) ⟨Nat.le_of_ble_eq_true rfl, Nat.le_of_ble_eq_true rfl⟩ rfl rfl (ok_X9_lays p1 (up2 I 436 0 0) L h) ?_ ?_
    · intro e9 u9 hx9
      exact hx9.elim
    intro v9 u9 hv9
    obtain ⟨I1726, rfl, rfl, h⟩ := hv9
    refine ⟨fun q => absurd q (Nat.lt_irrefl _), ?_⟩
    show V G Y_X9_feed 25 _ _ _ _ _ _ _
    refine v_aload_n (pc' := 26) 14 0 rfl rfl rfl rfl ?_
    refine v_iload_n (pc' := 27) 15 2 rfl rfl rfl rfl ?_
    refine v_cV (Y2 := Y_X9_lays) (As := [.int p2]) (b := 436) (pc' := 30) (c1 := 0) (s1 := 0) 16 rfl rfl mf_X9_lays rfl rfl ml_X9_167 mi_X9_lays se_X9_lays (ci := 8) rfl ly_436 (lay_lt ly_436 (by decide)) rfl (Nat.le_of_ble_eq_true rfl) ⟨Nat.le_of_ble_eq_true rfl, Nat.le_of_ble_eq_true rfl⟩ rfl rfl (ok_X9_lays p2 I1726 L h) ?_ ?_
    · intro e9 u9 hx9
      exact hx9.elim
    intro v9 u9 hv9
    obtain ⟨I1727, rfl, rfl, h⟩ := hv9
    refine ⟨fun q => absurd q (Nat.lt_irrefl _), ?_⟩
    show V G Y_X9_feed 30 _ _ _ _ _ _ _
    refine v_aload_n (pc' := 31) 17 0 rfl rfl rfl rfl ?_
    refine v_iload_n (pc' := 32) 18 3 rfl rfl rfl rfl ?_
    refine v_cV (Y2 := Y_X9_lays) (As := [.int p3]) (b := 436) (pc' := 35) (c1 := 0) (s1 := 0) 19 rfl rfl mf_X9_lays rfl rfl ml_X9_167 mi_X9_lays se_X9_lays (ci := 8) rfl ly_436 (lay_lt ly_436 (by decide)) rfl (Nat.le_of_ble_eq_true rfl) ⟨Nat.le_of_ble_eq_true rfl, Nat.le_of_ble_eq_true rfl⟩ rfl rfl (ok_X9_lays p3 I1727 L h) ?_ ?_
    · intro e9 u9 hx9
      exact hx9.elim
    intro v9 u9 hv9
    obtain ⟨I1728, rfl, rfl, h⟩ := hv9
    refine ⟨fun q => absurd q (Nat.lt_irrefl _), ?_⟩
    show V G Y_X9_feed 35 _ _ _ _ _ _ _
    refine v_aload_n (pc' := 36) 20 0 rfl rfl rfl rfl ?_
    refine v_iload (pc' := 38) 21 4 rfl rfl rfl ?_
    refine v_cV (Y2 := Y_X9_lays) (As := [.int p4]) (b := 436) (pc' := 41) (c1 := 0) (s1 := 0) 22 rfl rfl mf_X9_lays rfl rfl ml_X9_167 mi_X9_lays se_X9_lays (ci := 8) rfl ly_436 (lay_lt ly_436 (by decide)) rfl (Nat.le_of_ble_eq_true rfl) ⟨Nat.le_of_ble_eq_true rfl, Nat.le_of_ble_eq_true rfl⟩ rfl rfl (ok_X9_lays p4 I1728 L h) ?_ ?_
    · intro e9 u9 hx9
      exact hx9.elim
    intro v9 u9 hv9
    obtain ⟨I1729, rfl, rfl, h⟩ := hv9
    refine ⟨fun q => absurd q (Nat.lt_irrefl _), ?_⟩
    show V G Y_X9_feed 41 _ _ _ _ _ _ _
    refine v_aload_n (pc' := 42) 23 0 rfl rfl rfl rfl ?_
    refine v_iload (pc' := 44) 24 5 rfl rfl rfl ?_
    refine v_cV (Y2 := Y_X9_lays) (As := [.int p5]) (b := 436) (pc' := 47) (c1 := 0) (s1 := 0) 25 rfl rfl mf_X9_lays rfl rfl ml_X9_167 mi_X9_lays se_X9_lays (ci := 8) rfl ly_436 (lay_lt ly_436 (by decide)) rfl (Nat.le_of_ble_eq_true rfl) ⟨Nat.le_of_ble_eq_true rfl, Nat.le_of_ble_eq_true rfl⟩ rfl rfl (ok_X9_lays p5 I1729 L h) ?_ ?_
    · intro e9 u9 hx9
      exact hx9.elim
    intro v9 u9 hv9
    obtain ⟨I1730, rfl, rfl, h⟩ := hv9
    refine ⟨fun q => absurd q (Nat.lt_irrefl _), ?_⟩
    show V G Y_X9_feed 47 _ _ _ _ _ _ _
    refine v_aload_n (pc' := 48) 26 0 rfl rfl rfl rfl ?_
    refine v_getI (pc' := 51) 27 rfl rfl pf_X9_164 ly_436 (lay_lt ly_436 (by decide)) ?_
    exact v_iret 28 rfl rfl (by decide) (by decide) ⟨_, _, rfl, rfl, h⟩
  replace h := h.2 hc
  refine v_iconst (v := -1) (pc' := 19) 9 rfl rfl (by decide) ?_
  exact v_iret 10 rfl rfl (by decide) (by decide) ⟨_, _, rfl, rfl, h⟩
set_option maxHeartbeats 4000000 in
set_option maxRecDepth 100000 in
theorem ok_X9_errorPosition {G : GT} {b d t : Nat} (I : TI) (L : TL)  {Q : Int32 → TI → Prop} (h : W_X9_errorPosition I L Q) : MW G Y_X9_errorPosition [.ref 436] (I, L, RT b d t, 457) (fun v9 u9 => ∃ (r9 : Int32) (I9 : TI), v9 = some (.int r9) ∧ u9 = (I9, L, RT b d t, 457) ∧ Q r9 I9) (fun _ _ => False) := by
  unfold W_X9_errorPosition at h
  refine MW.intro rfl (by decide) is_X9_errorPosition (Nat.le_of_ble_eq_true rfl) ?_
  show V G Y_X9_errorPosition 0 [(0, .ref 436)] [] (I, L, RT b d t, 457) 0 0 _ _
  refine v_aload_n (pc' := 1) 0 0 rfl rfl rfl rfl ?_
  refine v_iconst (v := 0) (pc' := 2) 1 rfl rfl (by decide) ?_
  refine v_putI (pc' := 5) 2 rfl rfl pf_X9_80 (fun q => absurd q (by decide)) ly_436 (lay_lt ly_436 (by decide)) ?_
  refine v_aload_n (pc' := 6) 3 0 rfl rfl rfl rfl ?_
  refine v_getI (pc' := 9) 4 rfl rfl pf_X9_44 ly_436 (lay_lt ly_436 (by decide)) ?_
  exact v_iret 5 rfl rfl (by decide) (by decide) ⟨_, _, rfl, rfl, h⟩
set_option maxHeartbeats 4000000 in
set_option maxRecDepth 100000 in
theorem ok_X9_byteAt {G : GT} {b d t : Nat} (p1 : Int32) (I : TI) (L : TL)  {Q : Int32 → Prop} (h : W_X9_byteAt p1 I L Q) : MW G Y_X9_byteAt [.ref 436, .int p1] (I, L, RT b d t, 457) (fun v9 u9 => ∃ (r9 : Int32), v9 = some (.int r9) ∧ u9 = (I, L, RT b d t, 457) ∧ Q r9) (fun _ _ => False) := by
  unfold W_X9_byteAt at h
  refine MW.intro rfl (by decide) is_X9_byteAt (Nat.le_of_ble_eq_true rfl) ?_
  show V G Y_X9_byteAt 0 [(0, .ref 436), (1, .int p1)] [] (I, L, RT b d t, 457) 0 0 _ _
  refine v_iload_n (pc' := 1) 0 1 rfl rfl rfl rfl ?_
  refine v_aload_n (pc' := 2) 1 0 rfl rfl rfl rfl ?_
  refine v_getI (pc' := 5) 2 rfl rfl pf_X9_171 ly_436 (lay_lt ly_436 (by decide)) ?_
  refine v_icmp_ge (tgt := 17) (pc' := 8) 3 rfl rfl (by decide) (fun hc => ?_) (fun hc => ?_)
  · replace h := h.1 hc
    refine v_iconst (v := -1) (pc' := 18) 9 rfl rfl (by decide) ?_
    exact v_iret 10 rfl rfl (by decide) (by decide) ⟨_, rfl, rfl, h⟩
  replace h := h.2 hc
  refine v_aload_n (pc' := 9) 4 0 rfl rfl rfl rfl ?_
  refine v_getR (t := 447) (pc' := 12) 5 rfl rfl pf_X9_41 ly_436 (lay_lt ly_436 (by decide)) rt_436_21 ?_
  refine v_iload_n (pc' := 13) 6 1 rfl rfl rfl rfl ?_
  obtain ⟨hi1732, h⟩ := h
  refine v_iald (i := p1) (j := p1.toNatClampNeg) (pc' := 14) 7 rfl rfl ly_447 ln_447 (lay_lt ly_447 (by decide)) hi1732 rfl ?_
  refine v_goto (tgt := 18) 8 rfl (by decide) ?_
  exact v_iret 10 rfl rfl (by decide) (by decide) ⟨_, rfl, rfl, h⟩
set_option maxHeartbeats 4000000 in
set_option maxRecDepth 100000 in
theorem ok_X9_isLetter {G : GT} {b d t : Nat} (p0 : Int32) (I : TI) (L : TL)  {Q : Int32 → Prop} (h : W_X9_isLetter p0 I L Q) : MW G Y_X9_isLetter [.int p0] (I, L, RT b d t, 457) (fun v9 u9 => ∃ (r9 : Int32), v9 = some (.int r9) ∧ u9 = (I, L, RT b d t, 457) ∧ Q r9) (fun _ _ => False) := by
  unfold W_X9_isLetter at h
  refine MW.intro rfl (by decide) is_X9_isLetter (Nat.le_of_ble_eq_true rfl) ?_
  show V G Y_X9_isLetter 0 [(0, .int p0)] [] (I, L, RT b d t, 457) 0 0 _ _
  refine v_iload_n (pc' := 1) 0 0 rfl rfl rfl rfl ?_
  refine v_bipush (v := 97) (pc' := 3) 1 rfl rfl (by decide) ?_
  refine v_icmp_lt (tgt := 16) (pc' := 6) 2 rfl rfl (by decide) (fun hc => ?_) (fun hc => ?_)
  · replace h := h.1 hc
    refine v_iconst (v := 0) (pc' := 17) 8 rfl rfl (by decide) ?_
    exact v_bret 9 rfl rfl (by decide) (by decide) (by decide) ⟨_, rfl, rfl, h⟩
  replace h := h.2 hc
  refine v_iload_n (pc' := 7) 3 0 rfl rfl rfl rfl ?_
  refine v_bipush (v := 122) (pc' := 9) 4 rfl rfl (by decide) ?_
  refine v_icmp_gt (tgt := 16) (pc' := 12) 5 rfl rfl (by decide) (fun hc => ?_) (fun hc => ?_)
  · replace h := h.1 hc
    refine v_iconst (v := 0) (pc' := 17) 8 rfl rfl (by decide) ?_
    exact v_bret 9 rfl rfl (by decide) (by decide) (by decide) ⟨_, rfl, rfl, h⟩
  replace h := h.2 hc
  refine v_iconst (v := 1) (pc' := 13) 6 rfl rfl (by decide) ?_
  refine v_goto (tgt := 17) 7 rfl (by decide) ?_
  exact v_bret 9 rfl rfl (by decide) (by decide) (by decide) ⟨_, rfl, rfl, h⟩
set_option maxHeartbeats 4000000 in
set_option maxRecDepth 100000 in
theorem ok_X9_isFigure {G : GT} {b d t : Nat} (p0 : Int32) (I : TI) (L : TL)  {Q : Int32 → Prop} (h : W_X9_isFigure p0 I L Q) : MW G Y_X9_isFigure [.int p0] (I, L, RT b d t, 457) (fun v9 u9 => ∃ (r9 : Int32), v9 = some (.int r9) ∧ u9 = (I, L, RT b d t, 457) ∧ Q r9) (fun _ _ => False) := by
  unfold W_X9_isFigure at h
  refine MW.intro rfl (by decide) is_X9_isFigure (Nat.le_of_ble_eq_true rfl) ?_
  show V G Y_X9_isFigure 0 [(0, .int p0)] [] (I, L, RT b d t, 457) 0 0 _ _
  refine v_iload_n (pc' := 1) 0 0 rfl rfl rfl rfl ?_
  refine v_bipush (v := 48) (pc' := 3) 1 rfl rfl (by decide) ?_
  refine v_icmp_lt (tgt := 16) (pc' := 6) 2 rfl rfl (by decide) (fun hc => ?_) (fun hc => ?_)
  · replace h := h.1 hc
    refine v_iconst (v := 0) (pc' := 17) 8 rfl rfl (by decide) ?_
    exact v_bret 9 rfl rfl (by decide) (by decide) (by decide) ⟨_, rfl, rfl, h⟩
  replace h := h.2 hc
  refine v_iload_n (pc' := 7) 3 0 rfl rfl rfl rfl ?_
  refine v_bipush (v := 57) (pc' := 9) 4 rfl rfl (by decide) ?_
  refine v_icmp_gt (tgt := 16) (pc' := 12) 5 rfl rfl (by decide) (fun hc => ?_) (fun hc => ?_)
  · replace h := h.1 hc
    refine v_iconst (v := 0) (pc' := 17) 8 rfl rfl (by decide) ?_
    exact v_bret 9 rfl rfl (by decide) (by decide) (by decide) ⟨_, rfl, rfl, h⟩
  replace h := h.2 hc
  refine v_iconst (v := 1) (pc' := 13) 6 rfl rfl (by decide) ?_
  refine v_goto (tgt := 17) 7 rfl (by decide) ?_
  exact v_bret 9 rfl rfl (by decide) (by decide) (by decide) ⟨_, rfl, rfl, h⟩
set_option maxHeartbeats 4000000 in
set_option maxRecDepth 100000 in
theorem b_X9_readsWord_60 {G : GT} {b d t : Nat} (I : TI) (L : TL)  (Q : TI → TL → Prop) (R5 : TI → TL → Prop) (hR5 : ∀ (I : TI) (L : TL), R5 I L → V G Y_X9_readsWord 5 [(0, .ref 436)] [] (I, L, RT b d t, 457) 0 0 (fun v9 u9 => ∃ (I9 : TI) (L9 : TL), v9 = none ∧ u9 = (I9, L9, RT b d t, 457) ∧ Q I9 L9) (fun _ _ => False)) (h : B_X9_readsWord_60 I L Q R5) : V G Y_X9_readsWord 60 [(0, .ref 436)] [] (I, L, RT b d t, 457) 0 0 (fun v9 u9 => ∃ (I9 : TI) (L9 : TL), v9 = none ∧ u9 = (I9, L9, RT b d t, 457) ∧ Q I9 L9) (fun _ _ => False) := by
  unfold B_X9_readsWord_60 at h
  refine v_aload_n (pc' := 61) 31 0 rfl rfl rfl rfl ?_
  refine v_dup (pc' := 62) 32 rfl rfl rfl ?_
  refine v_getI (pc' := 65) 33 rfl rfl pf_X9_178 ly_436 (lay_lt ly_436 (by decide)) ?_
  refine v_iconst (v := 1) (pc' := 66) 34 rfl rfl (by decide) ?_
  refine v_iadd (pc' := 67) 35 rfl rfl ?_
  refine v_putI (pc' := 70) 36 rfl rfl pf_X9_178 (fun q => absurd q (by decide)) ly_436 (lay_lt ly_436 (by decide)) ?_
  refine v_goto (tgt := 5) 37 rfl (by decide) ?_
  exact hR5 (up2 I 436 24 ((I 436 24) + 1)) L h
set_option maxHeartbeats 4000000 in
set_option maxRecDepth 100000 in
theorem d_X9_readsWord_5 {G : GT} {b d t : Nat}  (Q : TI → TL → Prop) (R5 : TI → TL → Prop)  (hR5 : ∀ (I : TI) (L : TL), R5 I L → V G Y_X9_readsWord 5 [(0, .ref 436)] [] (I, L, RT b d t, 457) 0 0 (fun v9 u9 => ∃ (I9 : TI) (L9 : TL), v9 = none ∧ u9 = (I9, L9, RT b d t, 457) ∧ Q I9 L9) (fun _ _ => False)) (I : TI) (L : TL)  (h : D_X9_readsWord_5 Q R5 I L) : V G Y_X9_readsWord 5 [(0, .ref 436)] [] (I, L, RT b d t, 457) 0 0 (fun v9 u9 => ∃ (I9 : TI) (L9 : TL), v9 = none ∧ u9 = (I9, L9, RT b d t, 457) ∧ Q I9 L9) (fun _ _ => False) := by
  unfold D_X9_readsWord_5 at h
  refine v_aload_n (pc' := 6) 3 0 rfl rfl rfl rfl ?_
  refine v_aload_n (pc' := 7) 4 0 rfl rfl rfl rfl ?_
  refine v_getI (pc' := 10) 5 rfl rfl pf_X9_178 ly_436 (lay_lt ly_436 (by decide)) ?_
  refine v_cV (Y2 := Y_X9_byteAt) (As := [.int (I 436 24)]) (b := 436) (pc' := 13) (c1 := 0) (s1 := 0) 6 rfl rfl mf_X9_byteAt rfl rfl ml_X9_181 mi_X9_byteAt se_X9_byteAt (ci := 8) rfl ly_436 (lay_lt ly_436 (by decide)) rfl (Nat.le_of_ble_eq_true rfl) ⟨Nat.le_of_ble_eq_true rfl, Nat.le_of_ble_eq_true rfl⟩ rfl rfl (ok_X9_byteAt (I 436 24) I L h) ?_ ?_
  · intro e9 u9 hx9
    exact hx9.elim
  intro v9 u9 hv9
  obtain ⟨r1739, rfl, rfl, h⟩ := hv9
  refine ⟨fun q => absurd q (Nat.lt_irrefl _), ?_⟩
  show V G Y_X9_readsWord 13 _ (.int r1739 :: _) _ _ _ _ _
  refine v_cS (Y2 := Y_X9_isLetter) (As := [.int r1739]) (pc' := 16) (c1 := 0) (s1 := 0) 7 rfl rfl mf_X9_isLetter rfl rfl ml_X9_185 ms_X9_isLetter rfl (Nat.le_of_ble_eq_true rfl) ⟨Nat.le_of_ble_eq_true rfl, Nat.le_of_ble_eq_true rfl⟩ rfl rfl (ok_X9_isLetter r1739 I L h) ?_ ?_
  · intro e9 u9 hx9
    exact hx9.elim
  intro v9 u9 hv9
  obtain ⟨r1740, rfl, rfl, h⟩ := hv9
  refine ⟨fun q => absurd q (Nat.lt_irrefl _), ?_⟩
  show V G Y_X9_readsWord 16 _ (.int r1740 :: _) _ _ _ _ _
  refine v_if_eq (tgt := 73) (pc' := 19) 8 rfl rfl (by decide) (fun hc => ?_) (fun hc => ?_)
  · replace h := h.1 hc
    refine v_aload_n (pc' := 74) 38 0 rfl rfl rfl rfl ?_
    refine v_iconst (v := 1) (pc' := 75) 39 rfl rfl (by decide) ?_
    refine v_putI (pc' := 78) 40 rfl rfl pf_X9_196 (fun q => absurd q (by decide)) ly_436 (lay_lt ly_436 (by decide)) ?_
    exact v_vret 41 rfl rfl (by decide) (by decide) ⟨_, _, rfl, rfl, h⟩
  replace h := h.2 hc
  refine v_aload_n (pc' := 20) 9 0 rfl rfl rfl rfl ?_
  refine v_getI (pc' := 23) 10 rfl rfl pf_X9_178 ly_436 (lay_lt ly_436 (by decide)) ?_
  refine v_aload_n (pc' := 24) 11 0 rfl rfl rfl rfl ?_
  refine v_getI (pc' := 27) 12 rfl rfl pf_X9_189 ly_436 (lay_lt ly_436 (by decide)) ?_
  refine v_isub (pc' := 28) 13 rfl rfl ?_
  refine v_bipush (v := 10) (pc' := 30) 14 rfl rfl (by decide) ?_
  refine v_icmp_ge (tgt := 60) (pc' := 33) 15 rfl rfl (by decide) (fun hc => ?_) (fun hc => ?_)
  · replace h := h.1 hc
    exact b_X9_readsWord_60 I L Q R5 hR5 h
  replace h := h.2 hc
  refine v_aload_n (pc' := 34) 16 0 rfl rfl rfl rfl ?_
  refine v_ldc2 (v := 27) (pc' := 37) 17 rfl rfl kl_X9_192 ?_
  refine v_aload_n (pc' := 38) 18 0 rfl rfl rfl rfl ?_
  refine v_getL (pc' := 41) 19 rfl rfl pf_X9_174 ly_436 (lay_lt ly_436 (by decide)) ?_
  refine v_lmul (pc' := 42) 20 rfl rfl ?_
  refine v_aload_n (pc' := 43) 21 0 rfl rfl rfl rfl ?_
  refine v_getR (t := 447) (pc' := 46) 22 rfl rfl pf_X9_41 ly_436 (lay_lt ly_436 (by decide)) rt_436_21 ?_
  refine v_aload_n (pc' := 47) 23 0 rfl rfl rfl rfl ?_
  refine v_getI (pc' := 50) 24 rfl rfl pf_X9_178 ly_436 (lay_lt ly_436 (by decide)) ?_
  obtain ⟨hi1741, h⟩ := h
  refine v_iald (i := (I 436 24)) (j := (I 436 24).toNatClampNeg) (pc' := 51) 25 rfl rfl ly_447 ln_447 (lay_lt ly_447 (by decide)) hi1741 rfl ?_
  refine v_i2l (pc' := 52) 26 rfl rfl ?_
  refine v_ladd (pc' := 53) 27 rfl rfl ?_
  refine v_ldc2 (v := 96) (pc' := 56) 28 rfl rfl kl_X9_194 ?_
  refine v_lsub (pc' := 57) 29 rfl rfl ?_
  refine v_putL (pc' := 60) 30 rfl rfl pf_X9_174 (fun q => absurd q (by decide)) ly_436 (lay_lt ly_436 (by decide)) ?_
  refine nm_N (e := (up2 L 436 28 ((((27 : Int64) * (L 436 28)) + ((I 447 ((I 436 24).toNatClampNeg)).toInt64)) - 96))) (fun L1742 hL1742 => ?_)
  replace h := h L1742 hL1742
  exact b_X9_readsWord_60 I L1742 Q R5 hR5 h
theorem l_X9_readsWord_5 {G : GT} {b d t : Nat}  (Q : TI → TL → Prop)  : ∀ (n9 : Nat) (I : TI) (L : TL), L_X9_readsWord_5 Q n9 I L → V G Y_X9_readsWord 5 [(0, .ref 436)] [] (I, L, RT b d t, 457) 0 0 (fun v9 u9 => ∃ (I9 : TI) (L9 : TL), v9 = none ∧ u9 = (I9, L9, RT b d t, 457) ∧ Q I9 L9) (fun _ _ => False)
  | 0, _, _, h => h.elim
  | n9 + 1, I, L, h => d_X9_readsWord_5 Q _ (l_X9_readsWord_5 Q n9) I L h
set_option maxHeartbeats 4000000 in
set_option maxRecDepth 100000 in
theorem ok_X9_readsWord {G : GT} {b d t : Nat} (I : TI) (L : TL)  {Q : TI → TL → Prop} (h : W_X9_readsWord I L Q) : MW G Y_X9_readsWord [.ref 436] (I, L, RT b d t, 457) (fun v9 u9 => ∃ (I9 : TI) (L9 : TL), v9 = none ∧ u9 = (I9, L9, RT b d t, 457) ∧ Q I9 L9) (fun _ _ => False) := by
  unfold W_X9_readsWord at h
  refine MW.intro rfl (by decide) is_X9_readsWord (Nat.le_of_ble_eq_true rfl) ?_
  show V G Y_X9_readsWord 0 [(0, .ref 436)] [] (I, L, RT b d t, 457) 0 0 _ _
  refine v_aload_n (pc' := 1) 0 0 rfl rfl rfl rfl ?_
  refine v_lconst (v := 0) (pc' := 2) 1 rfl rfl (by decide) ?_
  refine v_putL (pc' := 5) 2 rfl rfl pf_X9_174 (fun q => absurd q (by decide)) ly_436 (lay_lt ly_436 (by decide)) ?_
  obtain ⟨n1743, h⟩ := h
  exact l_X9_readsWord_5 Q n1743 I (up2 L 436 28 0) h
set_option maxHeartbeats 4000000 in
set_option maxRecDepth 100000 in
theorem b_X9_readsNumber_56 {G : GT} {b d t : Nat} (s1 : Int32) (I : TI) (L : TL)  (Q : TI → Prop) (R5 : TI → Prop) (hR5 : ∀ (I : TI), R5 I → V G Y_X9_readsNumber 5 [(0, .ref 436)] [] (I, L, RT b d t, 457) 0 0 (fun v9 u9 => ∃ (I9 : TI), v9 = none ∧ u9 = (I9, L, RT b d t, 457) ∧ Q I9) (fun _ _ => False)) (h : B_X9_readsNumber_56 s1 I L Q R5) : V G Y_X9_readsNumber 56 [(0, .ref 436)] [.int s1, .ref 436] (I, L, RT b d t, 457) 0 0 (fun v9 u9 => ∃ (I9 : TI), v9 = none ∧ u9 = (I9, L, RT b d t, 457) ∧ Q I9) (fun _ _ => False) := by
  unfold B_X9_readsNumber_56 at h
  refine v_putI (pc' := 59) 29 rfl rfl pf_X9_199 (fun q => absurd q (by decide)) ly_436 (lay_lt ly_436 (by decide)) ?_
  refine v_aload_n (pc' := 60) 30 0 rfl rfl rfl rfl ?_
  refine v_dup (pc' := 61) 31 rfl rfl rfl ?_
  refine v_getI (pc' := 64) 32 rfl rfl pf_X9_178 ly_436 (lay_lt ly_436 (by decide)) ?_
  refine v_iconst (v := 1) (pc' := 65) 33 rfl rfl (by decide) ?_
  refine v_iadd (pc' := 66) 34 rfl rfl ?_
  refine v_putI (pc' := 69) 35 rfl rfl pf_X9_178 (fun q => absurd q (by decide)) ly_436 (lay_lt ly_436 (by decide)) ?_
  refine nm_M (e := (up2 (up2 I 436 27 s1) 436 24 (((up2 I 436 27 s1) 436 24) + 1))) (fun I1750 hI1750 => ?_)
  replace h := h I1750 hI1750
  refine v_goto (tgt := 5) 36 rfl (by decide) ?_
  exact hR5 I1750 h
set_option maxHeartbeats 4000000 in
set_option maxRecDepth 100000 in
theorem d_X9_readsNumber_5 {G : GT} {b d t : Nat} (L : TL)  (Q : TI → Prop) (R5 : TI → Prop)  (hR5 : ∀ (I : TI), R5 I → V G Y_X9_readsNumber 5 [(0, .ref 436)] [] (I, L, RT b d t, 457) 0 0 (fun v9 u9 => ∃ (I9 : TI), v9 = none ∧ u9 = (I9, L, RT b d t, 457) ∧ Q I9) (fun _ _ => False)) (I : TI)  (h : D_X9_readsNumber_5 L Q R5 I) : V G Y_X9_readsNumber 5 [(0, .ref 436)] [] (I, L, RT b d t, 457) 0 0 (fun v9 u9 => ∃ (I9 : TI), v9 = none ∧ u9 = (I9, L, RT b d t, 457) ∧ Q I9) (fun _ _ => False) := by
  unfold D_X9_readsNumber_5 at h
  refine v_aload_n (pc' := 6) 3 0 rfl rfl rfl rfl ?_
  refine v_aload_n (pc' := 7) 4 0 rfl rfl rfl rfl ?_
  refine v_getI (pc' := 10) 5 rfl rfl pf_X9_178 ly_436 (lay_lt ly_436 (by decide)) ?_
  refine v_cV (Y2 := Y_X9_byteAt) (As := [.int (I 436 24)]) (b := 436) (pc' := 13) (c1 := 0) (s1 := 0) 6 rfl rfl mf_X9_byteAt rfl rfl ml_X9_181 mi_X9_byteAt se_X9_byteAt (ci := 8) rfl ly_436 (lay_lt ly_436 (by decide)) rfl (Nat.le_of_ble_eq_true rfl) ⟨Nat.le_of_ble_eq_true rfl, Nat.le_of_ble_eq_true rfl⟩ rfl rfl (ok_X9_byteAt (I 436 24) I L h) ?_ ?_
  · intro e9 u9 hx9
    exact hx9.elim
  intro v9 u9 hv9
  obtain ⟨r1751, rfl, rfl, h⟩ := hv9
  refine ⟨fun q => absurd q (Nat.lt_irrefl _), ?_⟩
  show V G Y_X9_readsNumber 13 _ (.int r1751 :: _) _ _ _ _ _
  refine v_cS (Y2 := Y_X9_isFigure) (As := [.int r1751]) (pc' := 16) (c1 := 0) (s1 := 0) 7 rfl rfl mf_X9_isFigure rfl rfl ml_X9_202 ms_X9_isFigure rfl (Nat.le_of_ble_eq_true rfl) ⟨Nat.le_of_ble_eq_true rfl, Nat.le_of_ble_eq_true rfl⟩ rfl rfl (ok_X9_isFigure r1751 I L h) ?_ ?_
  · intro e9 u9 hx9
    exact hx9.elim
  intro v9 u9 hv9
  obtain ⟨r1752, rfl, rfl, h⟩ := hv9
  refine ⟨fun q => absurd q (Nat.lt_irrefl _), ?_⟩
  show V G Y_X9_readsNumber 16 _ (.int r1752 :: _) _ _ _ _ _
  refine v_if_eq (tgt := 72) (pc' := 19) 8 rfl rfl (by decide) (fun hc => ?_) (fun hc => ?_)
  · replace h := h.1 hc
    refine v_aload_n (pc' := 73) 37 0 rfl rfl rfl rfl ?_
    refine v_iconst (v := 2) (pc' := 74) 38 rfl rfl (by decide) ?_
    refine v_putI (pc' := 77) 39 rfl rfl pf_X9_196 (fun q => absurd q (by decide)) ly_436 (lay_lt ly_436 (by decide)) ?_
    exact v_vret 40 rfl rfl (by decide) (by decide) ⟨_, rfl, rfl, h⟩
  replace h := h.2 hc
  refine v_aload_n (pc' := 20) 9 0 rfl rfl rfl rfl ?_
  refine v_aload_n (pc' := 21) 10 0 rfl rfl rfl rfl ?_
  refine v_getI (pc' := 24) 11 rfl rfl pf_X9_199 ly_436 (lay_lt ly_436 (by decide)) ?_
  refine v_ldc (v := 9999999) (pc' := 26) 12 rfl rfl ki_X9_205 ?_
  refine v_icmp_le (tgt := 36) (pc' := 29) 13 rfl rfl (by decide) (fun hc => ?_) (fun hc => ?_)
  · replace h := h.1 hc
    refine v_bipush (v := 10) (pc' := 38) 17 rfl rfl (by decide) ?_
    refine v_aload_n (pc' := 39) 18 0 rfl rfl rfl rfl ?_
    refine v_getI (pc' := 42) 19 rfl rfl pf_X9_199 ly_436 (lay_lt ly_436 (by decide)) ?_
    refine v_imul (pc' := 43) 20 rfl rfl ?_
    refine v_aload_n (pc' := 44) 21 0 rfl rfl rfl rfl ?_
    refine v_getR (t := 447) (pc' := 47) 22 rfl rfl pf_X9_41 ly_436 (lay_lt ly_436 (by decide)) rt_436_21 ?_
    refine v_aload_n (pc' := 48) 23 0 rfl rfl rfl rfl ?_
    refine v_getI (pc' := 51) 24 rfl rfl pf_X9_178 ly_436 (lay_lt ly_436 (by decide)) ?_
    obtain ⟨hi1753, h⟩ := h
    refine v_iald (i := (I 436 24)) (j := (I 436 24).toNatClampNeg) (pc' := 52) 25 rfl rfl ly_447 ln_447 (lay_lt ly_447 (by decide)) hi1753 rfl ?_
    refine v_iadd (pc' := 53) 26 rfl rfl ?_
    refine v_bipush (v := 48) (pc' := 55) 27 rfl rfl (by decide) ?_
    refine v_isub (pc' := 56) 28 rfl rfl ?_
    exact b_X9_readsNumber_56 ((((10 : Int32) * (I 436 27)) + (I 447 ((I 436 24).toNatClampNeg))) - 48) I L Q R5 hR5 h
  replace h := h.2 hc
  refine v_aload_n (pc' := 30) 14 0 rfl rfl rfl rfl ?_
  refine v_getI (pc' := 33) 15 rfl rfl pf_X9_199 ly_436 (lay_lt ly_436 (by decide)) ?_
  refine v_goto (tgt := 56) 16 rfl (by decide) ?_
  exact b_X9_readsNumber_56 (I 436 27) I L Q R5 hR5 h
theorem l_X9_readsNumber_5 {G : GT} {b d t : Nat} (L : TL)  (Q : TI → Prop)  : ∀ (n9 : Nat) (I : TI), L_X9_readsNumber_5 L Q n9 I → V G Y_X9_readsNumber 5 [(0, .ref 436)] [] (I, L, RT b d t, 457) 0 0 (fun v9 u9 => ∃ (I9 : TI), v9 = none ∧ u9 = (I9, L, RT b d t, 457) ∧ Q I9) (fun _ _ => False)
  | 0, _, h => h.elim
  | n9 + 1, I, h => d_X9_readsNumber_5 L Q _ (l_X9_readsNumber_5 L Q n9) I h
set_option maxHeartbeats 4000000 in
set_option maxRecDepth 100000 in
theorem ok_X9_readsNumber {G : GT} {b d t : Nat} (I : TI) (L : TL)  {Q : TI → Prop} (h : W_X9_readsNumber I L Q) : MW G Y_X9_readsNumber [.ref 436] (I, L, RT b d t, 457) (fun v9 u9 => ∃ (I9 : TI), v9 = none ∧ u9 = (I9, L, RT b d t, 457) ∧ Q I9) (fun _ _ => False) := by
  unfold W_X9_readsNumber at h
  refine MW.intro rfl (by decide) is_X9_readsNumber (Nat.le_of_ble_eq_true rfl) ?_
  show V G Y_X9_readsNumber 0 [(0, .ref 436)] [] (I, L, RT b d t, 457) 0 0 _ _
  refine v_aload_n (pc' := 1) 0 0 rfl rfl rfl rfl ?_
  refine v_iconst (v := 0) (pc' := 2) 1 rfl rfl (by decide) ?_
  refine v_putI (pc' := 5) 2 rfl rfl pf_X9_199 (fun q => absurd q (by decide)) ly_436 (lay_lt ly_436 (by decide)) ?_
  obtain ⟨n1754, h⟩ := h
  exact l_X9_readsNumber_5 L Q n1754 (up2 I 436 27 0) h
set_option maxHeartbeats 4000000 in
set_option maxRecDepth 100000 in
theorem b_X9_next_26 {G : GT} {b d t : Nat} (I : TI) (L : TL)  (Q : TI → TL → Prop) (R0 : TI → Prop) (hR0 : ∀ (I : TI), R0 I → V G Y_X9_next 0 [(0, .ref 436)] [] (I, L, RT b d t, 457) 0 0 (fun v9 u9 => ∃ (I9 : TI) (L9 : TL), v9 = none ∧ u9 = (I9, L9, RT b d t, 457) ∧ Q I9 L9) (fun _ _ => False)) (h : B_X9_next_26 I L Q R0) : V G Y_X9_next 26 [(0, .ref 436)] [] (I, L, RT b d t, 457) 0 0 (fun v9 u9 => ∃ (I9 : TI) (L9 : TL), v9 = none ∧ u9 = (I9, L9, RT b d t, 457) ∧ Q I9 L9) (fun _ _ => False) := by
  unfold B_X9_next_26 at h
  refine v_aload_n (pc' := 27) 12 0 rfl rfl rfl rfl ?_
  refine v_dup (pc' := 28) 13 rfl rfl rfl ?_
  refine v_getI (pc' := 31) 14 rfl rfl pf_X9_178 ly_436 (lay_lt ly_436 (by decide)) ?_
  refine v_iconst (v := 1) (pc' := 32) 15 rfl rfl (by decide) ?_
  refine v_iadd (pc' := 33) 16 rfl rfl ?_
  refine v_putI (pc' := 36) 17 rfl rfl pf_X9_178 (fun q => absurd q (by decide)) ly_436 (lay_lt ly_436 (by decide)) ?_
  refine v_goto (tgt := 0) 18 rfl (by decide) ?_
  exact hR0 (up2 I 436 24 ((I 436 24) + 1)) h
set_option maxHeartbeats 4000000 in
set_option maxRecDepth 100000 in
theorem d_X9_next_0 {G : GT} {b d t : Nat} (L : TL)  (Q : TI → TL → Prop) (R0 : TI → Prop)  (hR0 : ∀ (I : TI), R0 I → V G Y_X9_next 0 [(0, .ref 436)] [] (I, L, RT b d t, 457) 0 0 (fun v9 u9 => ∃ (I9 : TI) (L9 : TL), v9 = none ∧ u9 = (I9, L9, RT b d t, 457) ∧ Q I9 L9) (fun _ _ => False)) (I : TI)  (h : D_X9_next_0 L Q R0 I) : V G Y_X9_next 0 [(0, .ref 436)] [] (I, L, RT b d t, 457) 0 0 (fun v9 u9 => ∃ (I9 : TI) (L9 : TL), v9 = none ∧ u9 = (I9, L9, RT b d t, 457) ∧ Q I9 L9) (fun _ _ => False) := by
  unfold D_X9_next_0 at h
  refine v_aload_n (pc' := 1) 0 0 rfl rfl rfl rfl ?_
  refine v_aload_n (pc' := 2) 1 0 rfl rfl rfl rfl ?_
  refine v_getI (pc' := 5) 2 rfl rfl pf_X9_178 ly_436 (lay_lt ly_436 (by decide)) ?_
  refine v_cV (Y2 := Y_X9_byteAt) (As := [.int (I 436 24)]) (b := 436) (pc' := 8) (c1 := 0) (s1 := 0) 3 rfl rfl mf_X9_byteAt rfl rfl ml_X9_181 mi_X9_byteAt se_X9_byteAt (ci := 8) rfl ly_436 (lay_lt ly_436 (by decide)) rfl (Nat.le_of_ble_eq_true rfl) ⟨Nat.le_of_ble_eq_true rfl, Nat.le_of_ble_eq_true rfl⟩ rfl rfl (ok_X9_byteAt (I 436 24) I L h) ?_ ?_
  · intro e9 u9 hx9
    exact hx9.elim
  intro v9 u9 hv9
  obtain ⟨r1773, rfl, rfl, h⟩ := hv9
  refine ⟨fun q => absurd q (Nat.lt_irrefl _), ?_⟩
  show V G Y_X9_next 8 _ (.int r1773 :: _) _ _ _ _ _
  refine v_bipush (v := 32) (pc' := 10) 4 rfl rfl (by decide) ?_
  refine v_icmp_eq (tgt := 26) (pc' := 13) 5 rfl rfl (by decide) (fun hc => ?_) (fun hc => ?_)
  · replace h := h.1 hc
    exact b_X9_next_26 I L Q R0 hR0 h
  replace h := h.2 hc
  refine v_aload_n (pc' := 14) 6 0 rfl rfl rfl rfl ?_
  refine v_aload_n (pc' := 15) 7 0 rfl rfl rfl rfl ?_
  refine v_getI (pc' := 18) 8 rfl rfl pf_X9_178 ly_436 (lay_lt ly_436 (by decide)) ?_
  refine v_cV (Y2 := Y_X9_byteAt) (As := [.int (I 436 24)]) (b := 436) (pc' := 21) (c1 := 0) (s1 := 0) 9 rfl rfl mf_X9_byteAt rfl rfl ml_X9_181 mi_X9_byteAt se_X9_byteAt (ci := 8) rfl ly_436 (lay_lt ly_436 (by decide)) rfl (Nat.le_of_ble_eq_true rfl) ⟨Nat.le_of_ble_eq_true rfl, Nat.le_of_ble_eq_true rfl⟩ rfl rfl (ok_X9_byteAt (I 436 24) I L h) ?_ ?_
  · intro e9 u9 hx9
    exact hx9.elim
  intro v9 u9 hv9
  obtain ⟨r1774, rfl, rfl, h⟩ := hv9
  refine ⟨fun q => absurd q (Nat.lt_irrefl _), ?_⟩
  show V G Y_X9_next 21 _ (.int r1774 :: _) _ _ _ _ _
  refine v_bipush (v := 10) (pc' := 23) 10 rfl rfl (by decide) ?_
  refine v_icmp_ne (tgt := 39) (pc' := 26) 11 rfl rfl (by decide) (fun hc => ?_) (fun hc => ?_)
  · replace h := h.1 hc
    refine v_aload_n (pc' := 40) 19 0 rfl rfl rfl rfl ?_
    refine v_aload_n (pc' := 41) 20 0 rfl rfl rfl rfl ?_
    refine v_getI (pc' := 44) 21 rfl rfl pf_X9_178 ly_436 (lay_lt ly_436 (by decide)) ?_
    refine v_putI (pc' := 47) 22 rfl rfl pf_X9_189 (fun q => absurd q (by decide)) ly_436 (lay_lt ly_436 (by decide)) ?_
    refine v_aload_n (pc' := 48) 23 0 rfl rfl rfl rfl ?_
    refine v_getI (pc' := 51) 24 rfl rfl pf_X9_178 ly_436 (lay_lt ly_436 (by decide)) ?_
    refine v_aload_n (pc' := 52) 25 0 rfl rfl rfl rfl ?_
    refine v_getI (pc' := 55) 26 rfl rfl pf_X9_171 ly_436 (lay_lt ly_436 (by decide)) ?_
    refine v_icmp_lt (tgt := 66) (pc' := 58) 27 rfl rfl (by decide) (fun hc => ?_) (fun hc => ?_)
    · replace h := h.1 hc
      refine v_aload_n (pc' := 67) 32 0 rfl rfl rfl rfl ?_
      refine v_getR (t := 447) (pc' := 70) 33 rfl rfl pf_X9_41 ly_436 (lay_lt ly_436 (by decide)) rt_436_21 ?_
      refine v_aload_n (pc' := 71) 34 0 rfl rfl rfl rfl ?_
      refine v_getI (pc' := 74) 35 rfl rfl pf_X9_178 ly_436 (lay_lt ly_436 (by decide)) ?_
      obtain ⟨hi1775, h⟩ := h
      refine v_iald (i := ((up2 I 436 25 (I 436 24)) 436 24)) (j := ((up2 I 436 25 (I 436 24)) 436 24).toNatClampNeg) (pc' := 75) 36 rfl rfl ly_447 ln_447 (lay_lt ly_447 (by decide)) hi1775 rfl ?_
      refine v_cS (Y2 := Y_X9_isLetter) (As := [.int ((up2 I 436 25 (I 436 24)) 447 (((up2 I 436 25 (I 436 24)) 436 24).toNatClampNeg))]) (pc' := 78) (c1 := 0) (s1 := 0) 37 rfl rfl mf_X9_isLetter rfl rfl ml_X9_185 ms_X9_isLetter rfl (Nat.le_of_ble_eq_true rfl) ⟨Nat.le_of_ble_eq_true rfl, Nat.le_of_ble_eq_true rfl⟩ rfl rfl (ok_X9_isLetter ((up2 I 436 25 (I 436 24)) 447 (((up2 I 436 25 (I 436 24)) 436 24).toNatClampNeg)) (up2 I 436 25 (I 436 24)) L h) ?_ ?_
      · intro e9 u9 hx9
        exact hx9.elim
      intro v9 u9 hv9
      obtain ⟨r1776, rfl, rfl, h⟩ := hv9
      refine ⟨fun q => absurd q (Nat.lt_irrefl _), ?_⟩
      show V G Y_X9_next 78 _ (.int r1776 :: _) _ _ _ _ _
      refine v_if_eq (tgt := 88) (pc' := 81) 38 rfl rfl (by decide) (fun hc => ?_) (fun hc => ?_)
      · replace h := h.1 hc
        refine v_aload_n (pc' := 89) 42 0 rfl rfl rfl rfl ?_
        refine v_getR (t := 447) (pc' := 92) 43 rfl rfl pf_X9_41 ly_436 (lay_lt ly_436 (by decide)) rt_436_21 ?_
        refine v_aload_n (pc' := 93) 44 0 rfl rfl rfl rfl ?_
        refine v_getI (pc' := 96) 45 rfl rfl pf_X9_178 ly_436 (lay_lt ly_436 (by decide)) ?_
        obtain ⟨hi1777, h⟩ := h
        refine v_iald (i := ((up2 I 436 25 (I 436 24)) 436 24)) (j := ((up2 I 436 25 (I 436 24)) 436 24).toNatClampNeg) (pc' := 97) 46 rfl rfl ly_447 ln_447 (lay_lt ly_447 (by decide)) hi1777 rfl ?_
        refine v_cS (Y2 := Y_X9_isFigure) (As := [.int ((up2 I 436 25 (I 436 24)) 447 (((up2 I 436 25 (I 436 24)) 436 24).toNatClampNeg))]) (pc' := 100) (c1 := 0) (s1 := 0) 47 rfl rfl mf_X9_isFigure rfl rfl ml_X9_202 ms_X9_isFigure rfl (Nat.le_of_ble_eq_true rfl) ⟨Nat.le_of_ble_eq_true rfl, Nat.le_of_ble_eq_true rfl⟩ rfl rfl (ok_X9_isFigure ((up2 I 436 25 (I 436 24)) 447 (((up2 I 436 25 (I 436 24)) 436 24).toNatClampNeg)) (up2 I 436 25 (I 436 24)) L h) ?_ ?_
        · intro e9 u9 hx9
          exact hx9.elim
        intro v9 u9 hv9
        obtain ⟨r1778, rfl, rfl, h⟩ := hv9
        refine ⟨fun q => absurd q (Nat.lt_irrefl _), ?_⟩
        show V G Y_X9_next 100 _ (.int r1778 :: _) _ _ _ _ _
        refine v_if_eq (tgt := 110) (pc' := 103) 48 rfl rfl (by decide) (fun hc => ?_) (fun hc => ?_)
        · replace h := h.1 hc
          refine v_aload_n (pc' := 111) 52 0 rfl rfl rfl rfl ?_
          refine v_iconst (v := 3) (pc' := 112) 53 rfl rfl (by decide) ?_
          refine v_putI (pc' := 115) 54 rfl rfl pf_X9_196 (fun q => absurd q (by decide)) ly_436 (lay_lt ly_436 (by decide)) ?_
          refine v_aload_n (pc' := 116) 55 0 rfl rfl rfl rfl ?_
          refine v_dup (pc' := 117) 56 rfl rfl rfl ?_
          refine v_getI (pc' := 120) 57 rfl rfl pf_X9_178 ly_436 (lay_lt ly_436 (by decide)) ?_
          refine v_iconst (v := 1) (pc' := 121) 58 rfl rfl (by decide) ?_
          refine v_iadd (pc' := 122) 59 rfl rfl ?_
          refine v_putI (pc' := 125) 60 rfl rfl pf_X9_178 (fun q => absurd q (by decide)) ly_436 (lay_lt ly_436 (by decide)) ?_
          refine nm_M (e := (up2 (up2 (up2 I 436 25 (I 436 24)) 436 26 3) 436 24 (((up2 (up2 I 436 25 (I 436 24)) 436 26 3) 436 24) + 1))) (fun I1779 hI1779 => ?_)
          replace h := h I1779 hI1779
          exact v_vret 61 rfl rfl (by decide) (by decide) ⟨_, _, rfl, rfl, h⟩
        replace h := h.2 hc
        refine v_aload_n (pc' := 104) 49 0 rfl rfl rfl rfl ?_
        refine v_cV (Y2 := Y_X9_readsNumber) (As := []) (b := 436) (pc' := 107) (c1 := 0) (s1 := 0) 50 rfl rfl mf_X9_readsNumber rfl rfl ml_X9_209 mi_X9_readsNumber se_X9_readsNumber (ci := 8) rfl ly_436 (lay_lt ly_436 (by decide)) rfl (Nat.le_of_ble_eq_true rfl) ⟨Nat.le_of_ble_eq_true rfl, Nat.le_of_ble_eq_true rfl⟩ rfl rfl (ok_X9_readsNumber (up2 I 436 25 (I 436 24)) L h) ?_ ?_
        · intro e9 u9 hx9
          exact hx9.elim
        intro v9 u9 hv9
        obtain ⟨I1780, rfl, rfl, h⟩ := hv9
        refine ⟨fun q => absurd q (Nat.lt_irrefl _), ?_⟩
        show V G Y_X9_next 107 _ _ _ _ _ _ _
        refine v_goto (tgt := 125) 51 rfl (by decide) ?_
        exact v_vret 61 rfl rfl (by decide) (by decide) ⟨_, _, rfl, rfl, h⟩
      replace h := h.2 hc
      refine v_aload_n (pc' := 82) 39 0 rfl rfl rfl rfl ?_
      refine v_cV (Y2 := Y_X9_readsWord) (As := []) (b := 436) (pc' := 85) (c1 := 0) (s1 := 0) 40 rfl rfl mf_X9_readsWord rfl rfl ml_X9_206 mi_X9_readsWord se_X9_readsWord (ci := 8) rfl ly_436 (lay_lt ly_436 (by decide)) rfl (Nat.le_of_ble_eq_true rfl) ⟨Nat.le_of_ble_eq_true rfl, Nat.le_of_ble_eq_true rfl⟩ rfl rfl (ok_X9_readsWord (up2 I 436 25 (I 436 24)) L h) ?_ ?_
      · intro e9 u9 hx9
        exact hx9.elim
      intro v9 u9 hv9
      obtain ⟨I1781, L1782, rfl, rfl, h⟩ := hv9
      refine ⟨fun q => absurd q (Nat.lt_irrefl _), ?_⟩
      show V G Y_X9_next 85 _ _ _ _ _ _ _
      refine v_goto (tgt := 125) 41 rfl (by decide) ?_
      exact v_vret 61 rfl rfl (by decide) (by decide) ⟨_, _, rfl, rfl, h⟩
    replace h := h.2 hc
    refine v_aload_n (pc' := 59) 28 0 rfl rfl rfl rfl ?_
    refine v_iconst (v := 0) (pc' := 60) 29 rfl rfl (by decide) ?_
    refine v_putI (pc' := 63) 30 rfl rfl pf_X9_196 (fun q => absurd q (by decide)) ly_436 (lay_lt ly_436 (by decide)) ?_
    refine v_goto (tgt := 125) 31 rfl (by decide) ?_
    exact v_vret 61 rfl rfl (by decide) (by decide) ⟨_, _, rfl, rfl, h⟩
  replace h := h.2 hc
  exact b_X9_next_26 I L Q R0 hR0 h
theorem l_X9_next_0 {G : GT} {b d t : Nat} (L : TL)  (Q : TI → TL → Prop)  : ∀ (n9 : Nat) (I : TI), L_X9_next_0 L Q n9 I → V G Y_X9_next 0 [(0, .ref 436)] [] (I, L, RT b d t, 457) 0 0 (fun v9 u9 => ∃ (I9 : TI) (L9 : TL), v9 = none ∧ u9 = (I9, L9, RT b d t, 457) ∧ Q I9 L9) (fun _ _ => False)
  | 0, _, h => h.elim
  | n9 + 1, I, h => d_X9_next_0 L Q _ (l_X9_next_0 L Q n9) I h
set_option maxHeartbeats 4000000 in
set_option maxRecDepth 100000 in
theorem ok_X9_next {G : GT} {b d t : Nat} (I : TI) (L : TL)  {Q : TI → TL → Prop} (h : W_X9_next I L Q) : MW G Y_X9_next [.ref 436] (I, L, RT b d t, 457) (fun v9 u9 => ∃ (I9 : TI) (L9 : TL), v9 = none ∧ u9 = (I9, L9, RT b d t, 457) ∧ Q I9 L9) (fun _ _ => False) := by
  unfold W_X9_next at h
  refine MW.intro rfl (by decide) is_X9_next (Nat.le_of_ble_eq_true rfl) ?_
  show V G Y_X9_next 0 [(0, .ref 436)] [] (I, L, RT b d t, 457) 0 0 _ _
  obtain ⟨n1783, h⟩ := h
  exact l_X9_next_0 L Q n1783 I h
