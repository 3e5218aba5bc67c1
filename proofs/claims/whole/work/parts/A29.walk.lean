set_option maxHeartbeats 4000000 in
set_option maxRecDepth 100000 in
theorem ok_X9_setLimit {G : GT} {b d t : Nat} (p1 : Int32) (I : TI) (L : TL)  {Q : Int32 → TI → TL → Prop} (h : W_X9_setLimit p1 I L Q) : MW G Y_X9_setLimit [.ref 436, .int p1] (I, L, RT b d t, 457) (fun v9 u9 => ∃ (r9 : Int32) (I9 : TI) (L9 : TL), v9 = some (.int r9) ∧ u9 = (I9, L9, RT b d t, 457) ∧ Q r9 I9 L9) (fun _ _ => False) := by
  unfold W_X9_setLimit at h
  refine MW.intro rfl (by decide) is_X9_setLimit (Nat.le_of_ble_eq_true rfl) ?_
  show V G Y_X9_setLimit 0 [(0, .ref 436), (1, .int p1)] [] (I, L, RT b d t, 457) 0 0 _ _
  refine v_aload_n (pc' := 1) 0 0 rfl rfl rfl rfl ?_
  refine v_iconst (v := 0) (pc' := 2) 1 rfl rfl (by decide) ?_
  refine v_putI (pc' := 5) 2 rfl rfl pf_X9_80 (fun q => absurd q (by decide)) ly_436 (lay_lt ly_436 (by decide)) ?_
  refine v_aload_n (pc' := 6) 3 0 rfl rfl rfl rfl ?_
  refine v_iload_n (pc' := 7) 4 1 rfl rfl rfl rfl ?_
  refine v_i2l (pc' := 8) 5 rfl rfl ?_
  refine v_lconst (v := 1) (pc' := 9) 6 rfl rfl (by decide) ?_
  refine v_ldc2 (v := 20) (pc' := 12) 7 rfl rfl kl_X9_373 ?_
  refine v_cS (Y2 := Y_X9_in) (As := [.long (p1.toInt64), .long 1, .long 20]) (pc' := 15) (c1 := 0) (s1 := 0) 8 rfl rfl mf_X9_in rfl rfl ml_X9_232 ms_X9_in rfl (Nat.le_of_ble_eq_true rfl) ⟨Nat.le_of_ble_eq_true rfl, Nat.le_of_ble_eq_true rfl⟩ rfl rfl (ok_X9_in (p1.toInt64) (1 : Int64) (20 : Int64) (up2 I 436 0 0) L h) ?_ ?_
  · intro e9 u9 hx9
    exact hx9.elim
  intro v9 u9 hv9
  obtain ⟨r3277, rfl, rfl, h⟩ := hv9
  refine ⟨fun q => absurd q (Nat.lt_irrefl _), ?_⟩
  show V G Y_X9_setLimit 15 _ (.int r3277 :: _) _ _ _ _ _
  refine v_iconst (v := 1) (pc' := 16) 9 rfl rfl (by decide) ?_
  refine v_cV (Y2 := Y_X9_fails) (As := [.int r3277, .int 1]) (b := 436) (pc' := 19) (c1 := 0) (s1 := 0) 10 rfl rfl mf_X9_fails rfl rfl ml_X9_280 mi_X9_fails se_X9_fails (ci := 8) rfl ly_436 (lay_lt ly_436 (by decide)) rfl (Nat.le_of_ble_eq_true rfl) ⟨Nat.le_of_ble_eq_true rfl, Nat.le_of_ble_eq_true rfl⟩ rfl rfl (ok_X9_fails r3277 (1 : Int32) (up2 I 436 0 0) L h) ?_ ?_
  · intro e9 u9 hx9
    exact hx9.elim
  intro v9 u9 hv9
  obtain ⟨r3278, I3279, rfl, rfl, h⟩ := hv9
  refine ⟨fun q => absurd q (Nat.lt_irrefl _), ?_⟩
  show V G Y_X9_setLimit 19 _ (.int r3278 :: _) _ _ _ _ _
  refine v_if_eq (tgt := 24) (pc' := 22) 11 rfl rfl (by decide) (fun hc => ?_) (fun hc => ?_)
  · replace h := h.1 hc
    refine v_aload_n (pc' := 25) 14 0 rfl rfl rfl rfl ?_
    refine v_cV (Y2 := Y_X9_records) (As := []) (b := 436) (pc' := 28) (c1 := 0) (s1 := 0) 15 rfl rfl mf_X9_records rfl rfl ml_X9_375 mi_X9_records se_X9_records (ci := 8) rfl ly_436 (lay_lt ly_436 (by decide)) rfl (Nat.le_of_ble_eq_true rfl) ⟨Nat.le_of_ble_eq_true rfl, Nat.le_of_ble_eq_true rfl⟩ rfl rfl (ok_X9_records I3279 L h) ?_ ?_
    · intro e9 u9 hx9
      exact hx9.elim
    intro v9 u9 hv9
    obtain ⟨I3280, L3281, rfl, rfl, h⟩ := hv9
    refine ⟨fun q => absurd q (Nat.lt_irrefl _), ?_⟩
    show V G Y_X9_setLimit 28 _ _ _ _ _ _ _
    refine v_aload_n (pc' := 29) 16 0 rfl rfl rfl rfl ?_
    refine v_getR (t := 437) (pc' := 32) 17 rfl rfl pf_X9_7 ly_436 (lay_lt ly_436 (by decide)) rt_436_1 ?_
    refine v_iconst (v := 0) (pc' := 33) 18 rfl rfl (by decide) ?_
    refine v_lald (i := 0) (j := 0) (pc' := 34) 19 rfl rfl ly_437 ln_437 (lay_lt ly_437 (by decide)) (vp_lit (by decide)) (by decide) ?_
    refine v_l2i (pc' := 35) 20 rfl rfl ?_
    refine v_istore_n (ls' := [(2, .int ((L3281 437 0).toInt32)), (0, .ref 436), (1, .int p1)]) (pc' := 36) 21 rfl rfl rfl (by decide) rfl ?_
    refine v_aload_n (pc' := 37) 22 1 rfl rfl rfl rfl ?_
    refine v_getR (t := 437) (pc' := 40) 23 rfl rfl pf_X9_7 ly_436 (lay_lt ly_436 (by decide)) rt_436_1 ?_
    refine v_iconst (v := 0) (pc' := 41) 24 rfl rfl (by decide) ?_
    refine v_iload_n (pc' := 42) 25 2 rfl rfl rfl rfl ?_
    refine v_i2l (pc' := 43) 26 rfl rfl ?_
    refine v_last (i := 0) (j := 0) (pc' := 44) 27 rfl rfl ly_437 ln_437 (lay_lt ly_437 (by decide)) (vp_lit (by decide)) (by decide) ?_
    refine v_iload_n (pc' := 45) 28 0 rfl rfl rfl rfl ?_
    exact v_iret 29 rfl rfl (by decide) (by decide) ⟨_, _, _, rfl, rfl, h⟩
  replace h := h.2 hc
  refine v_iconst (v := 0) (pc' := 23) 12 rfl rfl (by decide) ?_
  exact v_iret 13 rfl rfl (by decide) (by decide) ⟨_, _, _, rfl, rfl, h⟩
set_option maxHeartbeats 4000000 in
set_option maxRecDepth 100000 in
theorem ok_X9_undoCount {G : GT} {b d t : Nat} (I : TI) (L : TL)  {Q : Int32 → TI → Prop} (h : W_X9_undoCount I L Q) : MW G Y_X9_undoCount [.ref 436] (I, L, RT b d t, 457) (fun v9 u9 => ∃ (r9 : Int32) (I9 : TI), v9 = some (.int r9) ∧ u9 = (I9, L, RT b d t, 457) ∧ Q r9 I9) (fun _ _ => False) := by
  unfold W_X9_undoCount at h
  refine MW.intro rfl (by decide) is_X9_undoCount (Nat.le_of_ble_eq_true rfl) ?_
  show V G Y_X9_undoCount 0 [(0, .ref 436)] [] (I, L, RT b d t, 457) 0 0 _ _
  refine v_aload_n (pc' := 1) 0 0 rfl rfl rfl rfl ?_
  refine v_iconst (v := 0) (pc' := 2) 1 rfl rfl (by decide) ?_
  refine v_putI (pc' := 5) 2 rfl rfl pf_X9_80 (fun q => absurd q (by decide)) ly_436 (lay_lt ly_436 (by decide)) ?_
  refine v_aload_n (pc' := 6) 3 0 rfl rfl rfl rfl ?_
  refine v_getI (pc' := 9) 4 rfl rfl pf_X9_290 ly_436 (lay_lt ly_436 (by decide)) ?_
  exact v_iret 5 rfl rfl (by decide) (by decide) ⟨_, _, rfl, rfl, h⟩
set_option maxHeartbeats 4000000 in
set_option maxRecDepth 100000 in
theorem d_X9_undo_26 {G : GT} {b d t : Nat} (I : TI)  (Q : Int32 → TI → TL → Prop) (R26 : Int32 → TL → Prop)  (hR26 : ∀ (v1 : Int32) (L : TL), R26 v1 L → V G Y_X9_undo 26 [(0, .ref 436), (1, .int v1)] [] (I, L, RT b d t, 457) 0 0 (fun v9 u9 => ∃ (r9 : Int32) (I9 : TI) (L9 : TL), v9 = some (.int r9) ∧ u9 = (I9, L9, RT b d t, 457) ∧ Q r9 I9 L9) (fun _ _ => False)) (v1 : Int32) (L : TL)  (h : D_X9_undo_26 I Q R26 v1 L) : V G Y_X9_undo 26 [(0, .ref 436), (1, .int v1)] [] (I, L, RT b d t, 457) 0 0 (fun v9 u9 => ∃ (r9 : Int32) (I9 : TI) (L9 : TL), v9 = some (.int r9) ∧ u9 = (I9, L9, RT b d t, 457) ∧ Q r9 I9 L9) (fun _ _ => False) := by
  unfold D_X9_undo_26 at h
  refine v_iload_n (pc' := 27) 16 1 rfl rfl rfl rfl ?_
  refine v_sipush (v := 241) (pc' := 30) 17 rfl rfl (by decide) ?_
  refine v_icmp_ge (tgt := 60) (pc' := 33) 18 rfl rfl (by decide) (fun hc => ?_) (fun hc => ?_)
  · replace h := h.1 hc
    refine v_aload_n (pc' := 61) 34 0 rfl rfl rfl rfl ?_
    refine v_getI (pc' := 64) 35 rfl rfl pf_X9_290 ly_436 (lay_lt ly_436 (by decide)) ?_
    exact v_iret 36 rfl rfl (by decide) (by decide) ⟨_, _, _, rfl, rfl, h⟩
  replace h := h.2 hc
  refine v_aload_n (pc' := 34) 19 0 rfl rfl rfl rfl ?_
  refine v_getR (t := 437) (pc' := 37) 20 rfl rfl pf_X9_7 ly_436 (lay_lt ly_436 (by decide)) rt_436_1 ?_
  refine v_iload_n (pc' := 38) 21 1 rfl rfl rfl rfl ?_
  refine v_aload_n (pc' := 39) 22 0 rfl rfl rfl rfl ?_
  refine v_getR (t := 440) (pc' := 42) 23 rfl rfl pf_X9_19 ly_436 (lay_lt ly_436 (by decide)) rt_436_4 ?_
  refine v_sipush (v := 241) (pc' := 45) 24 rfl rfl (by decide) ?_
  refine v_aload_n (pc' := 46) 25 0 rfl rfl rfl rfl ?_
  refine v_getI (pc' := 49) 26 rfl rfl pf_X9_290 ly_436 (lay_lt ly_436 (by decide)) ?_
  refine v_imul (pc' := 50) 27 rfl rfl ?_
  refine v_iload_n (pc' := 51) 28 1 rfl rfl rfl rfl ?_
  refine v_iadd (pc' := 52) 29 rfl rfl ?_
  obtain ⟨hi3286, h⟩ := h
  refine v_lald (i := (((241 : Int32) * (I 436 6)) + v1)) (j := (((241 : Int32) * (I 436 6)) + v1).toNatClampNeg) (pc' := 53) 30 rfl rfl ly_440 ln_440 (lay_lt ly_440 (by decide)) hi3286 rfl ?_
  obtain ⟨hi3287, h⟩ := h
  refine v_last (i := v1) (j := v1.toNatClampNeg) (pc' := 54) 31 rfl rfl ly_437 ln_437 (lay_lt ly_437 (by decide)) hi3287 rfl ?_
  refine nm_N (e := (up2 L 437 (v1.toNatClampNeg) (L 440 ((((241 : Int32) * (I 436 6)) + v1).toNatClampNeg)))) (fun L3288 hL3288 => ?_)
  replace h := h L3288 hL3288
  refine v_iinc (v := (v1 + 1)) (ls' := [(1, .int (v1 + 1)), (0, .ref 436)]) (pc' := 57) 32 1 rfl rfl rfl rfl (by decide) rfl ?_
  refine v_goto (tgt := 26) 33 rfl (by decide) ?_
  refine V.sub [1, 0] rfl ?_
  exact hR26 (v1 + 1) L3288 h
theorem l_X9_undo_26 {G : GT} {b d t : Nat} (I : TI)  (Q : Int32 → TI → TL → Prop)  : ∀ (n9 : Nat) (v1 : Int32) (L : TL), L_X9_undo_26 I Q n9 v1 L → V G Y_X9_undo 26 [(0, .ref 436), (1, .int v1)] [] (I, L, RT b d t, 457) 0 0 (fun v9 u9 => ∃ (r9 : Int32) (I9 : TI) (L9 : TL), v9 = some (.int r9) ∧ u9 = (I9, L9, RT b d t, 457) ∧ Q r9 I9 L9) (fun _ _ => False)
  | 0, _, _, h => h.elim
  | n9 + 1, v1, L, h => d_X9_undo_26 I Q _ (l_X9_undo_26 I Q n9) v1 L h
set_option maxHeartbeats 4000000 in
set_option maxRecDepth 100000 in
theorem ok_X9_undo {G : GT} {b d t : Nat} (I : TI) (L : TL)  {Q : Int32 → TI → TL → Prop} (h : W_X9_undo I L Q) : MW G Y_X9_undo [.ref 436] (I, L, RT b d t, 457) (fun v9 u9 => ∃ (r9 : Int32) (I9 : TI) (L9 : TL), v9 = some (.int r9) ∧ u9 = (I9, L9, RT b d t, 457) ∧ Q r9 I9 L9) (fun _ _ => False) := by
  unfold W_X9_undo at h
  refine MW.intro rfl (by decide) is_X9_undo (Nat.le_of_ble_eq_true rfl) ?_
  show V G Y_X9_undo 0 [(0, .ref 436)] [] (I, L, RT b d t, 457) 0 0 _ _
  refine v_aload_n (pc' := 1) 0 0 rfl rfl rfl rfl ?_
  refine v_iconst (v := 0) (pc' := 2) 1 rfl rfl (by decide) ?_
  refine v_putI (pc' := 5) 2 rfl rfl pf_X9_80 (fun q => absurd q (by decide)) ly_436 (lay_lt ly_436 (by decide)) ?_
  refine v_aload_n (pc' := 6) 3 0 rfl rfl rfl rfl ?_
  refine v_getI (pc' := 9) 4 rfl rfl pf_X9_290 ly_436 (lay_lt ly_436 (by decide)) ?_
  refine v_if_ne (tgt := 14) (pc' := 12) 5 rfl rfl (by decide) (fun hc => ?_) (fun hc => ?_)
  · replace h := h.1 hc
    refine v_aload_n (pc' := 15) 8 0 rfl rfl rfl rfl ?_
    refine v_dup (pc' := 16) 9 rfl rfl rfl ?_
    refine v_getI (pc' := 19) 10 rfl rfl pf_X9_290 ly_436 (lay_lt ly_436 (by decide)) ?_
    refine v_iconst (v := 1) (pc' := 20) 11 rfl rfl (by decide) ?_
    refine v_isub (pc' := 21) 12 rfl rfl ?_
    refine v_putI (pc' := 24) 13 rfl rfl pf_X9_290 (fun q => absurd q (by decide)) ly_436 (lay_lt ly_436 (by decide)) ?_
    refine v_iconst (v := 0) (pc' := 25) 14 rfl rfl (by decide) ?_
    refine v_istore_n (ls' := [(1, .int 0), (0, .ref 436)]) (pc' := 26) 15 rfl rfl rfl (by decide) rfl ?_
    refine V.sub [1, 0] rfl ?_
    obtain ⟨n3289, h⟩ := h
    exact l_X9_undo_26 (up2 (up2 I 436 0 0) 436 6 (((up2 I 436 0 0) 436 6) - 1)) Q n3289 (0 : Int32) L h
  replace h := h.2 hc
  refine v_iconst (v := -1) (pc' := 13) 6 rfl rfl (by decide) ?_
  exact v_iret 7 rfl rfl (by decide) (by decide) ⟨_, _, _, rfl, rfl, h⟩
set_option maxHeartbeats 4000000 in
set_option maxRecDepth 100000 in
theorem d_X9_saveSnapshot_7 {G : GT} {b d t : Nat} (I : TI)  (Q : TI → TL → Prop) (R7 : Int32 → TL → Prop)  (hR7 : ∀ (v1 : Int32) (L : TL), R7 v1 L → V G Y_X9_saveSnapshot 7 [(0, .ref 436), (1, .int v1)] [] (I, L, RT b d t, 457) 0 0 (fun v9 u9 => ∃ (I9 : TI) (L9 : TL), v9 = none ∧ u9 = (I9, L9, RT b d t, 457) ∧ Q I9 L9) (fun _ _ => False)) (v1 : Int32) (L : TL)  (h : D_X9_saveSnapshot_7 I Q R7 v1 L) : V G Y_X9_saveSnapshot 7 [(0, .ref 436), (1, .int v1)] [] (I, L, RT b d t, 457) 0 0 (fun v9 u9 => ∃ (I9 : TI) (L9 : TL), v9 = none ∧ u9 = (I9, L9, RT b d t, 457) ∧ Q I9 L9) (fun _ _ => False) := by
  unfold D_X9_saveSnapshot_7 at h
  refine v_iload_n (pc' := 8) 5 1 rfl rfl rfl rfl ?_
  refine v_sipush (v := 241) (pc' := 11) 6 rfl rfl (by decide) ?_
  refine v_icmp_ge (tgt := 32) (pc' := 14) 7 rfl rfl (by decide) (fun hc => ?_) (fun hc => ?_)
  · replace h := h.1 hc
    refine v_aload_n (pc' := 33) 18 0 rfl rfl rfl rfl ?_
    refine v_iconst (v := 1) (pc' := 34) 19 rfl rfl (by decide) ?_
    refine v_putZ (pc' := 37) 20 rfl rfl pf_X9_293 (fun q => absurd q (by decide)) ly_436 (lay_lt ly_436 (by decide)) (by decide) ?_
    exact v_vret 21 rfl rfl (by decide) (by decide) ⟨_, _, rfl, rfl, h⟩
  replace h := h.2 hc
  refine v_aload_n (pc' := 15) 8 0 rfl rfl rfl rfl ?_
  refine v_getR (t := 439) (pc' := 18) 9 rfl rfl pf_X9_16 ly_436 (lay_lt ly_436 (by decide)) rt_436_3 ?_
  refine v_iload_n (pc' := 19) 10 1 rfl rfl rfl rfl ?_
  refine v_aload_n (pc' := 20) 11 0 rfl rfl rfl rfl ?_
  refine v_getR (t := 437) (pc' := 23) 12 rfl rfl pf_X9_7 ly_436 (lay_lt ly_436 (by decide)) rt_436_1 ?_
  refine v_iload_n (pc' := 24) 13 1 rfl rfl rfl rfl ?_
  obtain ⟨hi3294, h⟩ := h
  refine v_lald (i := v1) (j := v1.toNatClampNeg) (pc' := 25) 14 rfl rfl ly_437 ln_437 (lay_lt ly_437 (by decide)) hi3294 rfl ?_
  obtain ⟨hi3295, h⟩ := h
  refine v_last (i := v1) (j := v1.toNatClampNeg) (pc' := 26) 15 rfl rfl ly_439 ln_439 (lay_lt ly_439 (by decide)) hi3295 rfl ?_
  refine v_iinc (v := (v1 + 1)) (ls' := [(1, .int (v1 + 1)), (0, .ref 436)]) (pc' := 29) 16 1 rfl rfl rfl rfl (by decide) rfl ?_
  refine v_goto (tgt := 7) 17 rfl (by decide) ?_
  refine V.sub [1, 0] rfl ?_
  exact hR7 (v1 + 1) (up2 L 439 (v1.toNatClampNeg) (L 437 (v1.toNatClampNeg))) h
theorem l_X9_saveSnapshot_7 {G : GT} {b d t : Nat} (I : TI)  (Q : TI → TL → Prop)  : ∀ (n9 : Nat) (v1 : Int32) (L : TL), L_X9_saveSnapshot_7 I Q n9 v1 L → V G Y_X9_saveSnapshot 7 [(0, .ref 436), (1, .int v1)] [] (I, L, RT b d t, 457) 0 0 (fun v9 u9 => ∃ (I9 : TI) (L9 : TL), v9 = none ∧ u9 = (I9, L9, RT b d t, 457) ∧ Q I9 L9) (fun _ _ => False)
  | 0, _, _, h => h.elim
  | n9 + 1, v1, L, h => d_X9_saveSnapshot_7 I Q _ (l_X9_saveSnapshot_7 I Q n9) v1 L h
set_option maxHeartbeats 4000000 in
set_option maxRecDepth 100000 in
theorem ok_X9_saveSnapshot {G : GT} {b d t : Nat} (I : TI) (L : TL)  {Q : TI → TL → Prop} (h : W_X9_saveSnapshot I L Q) : MW G Y_X9_saveSnapshot [.ref 436] (I, L, RT b d t, 457) (fun v9 u9 => ∃ (I9 : TI) (L9 : TL), v9 = none ∧ u9 = (I9, L9, RT b d t, 457) ∧ Q I9 L9) (fun _ _ => False) := by
  unfold W_X9_saveSnapshot at h
  refine MW.intro rfl (by decide) is_X9_saveSnapshot (Nat.le_of_ble_eq_true rfl) ?_
  show V G Y_X9_saveSnapshot 0 [(0, .ref 436)] [] (I, L, RT b d t, 457) 0 0 _ _
  refine v_aload_n (pc' := 1) 0 0 rfl rfl rfl rfl ?_
  refine v_iconst (v := 0) (pc' := 2) 1 rfl rfl (by decide) ?_
  refine v_putI (pc' := 5) 2 rfl rfl pf_X9_80 (fun q => absurd q (by decide)) ly_436 (lay_lt ly_436 (by decide)) ?_
  refine v_iconst (v := 0) (pc' := 6) 3 rfl rfl (by decide) ?_
  refine v_istore_n (ls' := [(1, .int 0), (0, .ref 436)]) (pc' := 7) 4 rfl rfl rfl (by decide) rfl ?_
  refine V.sub [1, 0] rfl ?_
  obtain ⟨n3296, h⟩ := h
  exact l_X9_saveSnapshot_7 (up2 I 436 0 0) Q n3296 (0 : Int32) L h
set_option maxHeartbeats 4000000 in
set_option maxRecDepth 100000 in
theorem d_X9_restoreSnapshot_16 {G : GT} {b d t : Nat} (I : TI)  (Q : Int32 → TI → TL → Prop) (R16 : Int32 → TL → Prop)  (hR16 : ∀ (v1 : Int32) (L : TL), R16 v1 L → V G Y_X9_restoreSnapshot 16 [(0, .ref 436), (1, .int v1)] [] (I, L, RT b d t, 457) 0 0 (fun v9 u9 => ∃ (r9 : Int32) (I9 : TI) (L9 : TL), v9 = some (.int r9) ∧ u9 = (I9, L9, RT b d t, 457) ∧ Q r9 I9 L9) (fun _ _ => False)) (v1 : Int32) (L : TL)  (h : D_X9_restoreSnapshot_16 I Q R16 v1 L) : V G Y_X9_restoreSnapshot 16 [(0, .ref 436), (1, .int v1)] [] (I, L, RT b d t, 457) 0 0 (fun v9 u9 => ∃ (r9 : Int32) (I9 : TI) (L9 : TL), v9 = some (.int r9) ∧ u9 = (I9, L9, RT b d t, 457) ∧ Q r9 I9 L9) (fun _ _ => False) := by
  unfold D_X9_restoreSnapshot_16 at h
  refine v_iload_n (pc' := 17) 10 1 rfl rfl rfl rfl ?_
  refine v_sipush (v := 241) (pc' := 20) 11 rfl rfl (by decide) ?_
  refine v_icmp_ge (tgt := 41) (pc' := 23) 12 rfl rfl (by decide) (fun hc => ?_) (fun hc => ?_)
  · replace h := h.1 hc
    refine v_aload_n (pc' := 42) 23 0 rfl rfl rfl rfl ?_
    refine v_iconst (v := 0) (pc' := 43) 24 rfl rfl (by decide) ?_
    refine v_putI (pc' := 46) 25 rfl rfl pf_X9_290 (fun q => absurd q (by decide)) ly_436 (lay_lt ly_436 (by decide)) ?_
    refine v_iconst (v := 1) (pc' := 47) 26 rfl rfl (by decide) ?_
    exact v_bret 27 rfl rfl (by decide) (by decide) (by decide) ⟨_, _, _, rfl, rfl, h⟩
  replace h := h.2 hc
  refine v_aload_n (pc' := 24) 13 0 rfl rfl rfl rfl ?_
  refine v_getR (t := 437) (pc' := 27) 14 rfl rfl pf_X9_7 ly_436 (lay_lt ly_436 (by decide)) rt_436_1 ?_
  refine v_iload_n (pc' := 28) 15 1 rfl rfl rfl rfl ?_
  refine v_aload_n (pc' := 29) 16 0 rfl rfl rfl rfl ?_
  refine v_getR (t := 439) (pc' := 32) 17 rfl rfl pf_X9_16 ly_436 (lay_lt ly_436 (by decide)) rt_436_3 ?_
  refine v_iload_n (pc' := 33) 18 1 rfl rfl rfl rfl ?_
  obtain ⟨hi3301, h⟩ := h
  refine v_lald (i := v1) (j := v1.toNatClampNeg) (pc' := 34) 19 rfl rfl ly_439 ln_439 (lay_lt ly_439 (by decide)) hi3301 rfl ?_
  obtain ⟨hi3302, h⟩ := h
  refine v_last (i := v1) (j := v1.toNatClampNeg) (pc' := 35) 20 rfl rfl ly_437 ln_437 (lay_lt ly_437 (by decide)) hi3302 rfl ?_
  refine v_iinc (v := (v1 + 1)) (ls' := [(1, .int (v1 + 1)), (0, .ref 436)]) (pc' := 38) 21 1 rfl rfl rfl rfl (by decide) rfl ?_
  refine v_goto (tgt := 16) 22 rfl (by decide) ?_
  refine V.sub [1, 0] rfl ?_
  exact hR16 (v1 + 1) (up2 L 437 (v1.toNatClampNeg) (L 439 (v1.toNatClampNeg))) h
theorem l_X9_restoreSnapshot_16 {G : GT} {b d t : Nat} (I : TI)  (Q : Int32 → TI → TL → Prop)  : ∀ (n9 : Nat) (v1 : Int32) (L : TL), L_X9_restoreSnapshot_16 I Q n9 v1 L → V G Y_X9_restoreSnapshot 16 [(0, .ref 436), (1, .int v1)] [] (I, L, RT b d t, 457) 0 0 (fun v9 u9 => ∃ (r9 : Int32) (I9 : TI) (L9 : TL), v9 = some (.int r9) ∧ u9 = (I9, L9, RT b d t, 457) ∧ Q r9 I9 L9) (fun _ _ => False)
  | 0, _, _, h => h.elim
  | n9 + 1, v1, L, h => d_X9_restoreSnapshot_16 I Q _ (l_X9_restoreSnapshot_16 I Q n9) v1 L h
set_option maxHeartbeats 4000000 in
set_option maxRecDepth 100000 in
theorem ok_X9_restoreSnapshot {G : GT} {b d t : Nat} (I : TI) (L : TL)  {Q : Int32 → TI → TL → Prop} (h : W_X9_restoreSnapshot I L Q) : MW G Y_X9_restoreSnapshot [.ref 436] (I, L, RT b d t, 457) (fun v9 u9 => ∃ (r9 : Int32) (I9 : TI) (L9 : TL), v9 = some (.int r9) ∧ u9 = (I9, L9, RT b d t, 457) ∧ Q r9 I9 L9) (fun _ _ => False) := by
  unfold W_X9_restoreSnapshot at h
  refine MW.intro rfl (by decide) is_X9_restoreSnapshot (Nat.le_of_ble_eq_true rfl) ?_
  show V G Y_X9_restoreSnapshot 0 [(0, .ref 436)] [] (I, L, RT b d t, 457) 0 0 _ _
  refine v_aload_n (pc' := 1) 0 0 rfl rfl rfl rfl ?_
  refine v_iconst (v := 0) (pc' := 2) 1 rfl rfl (by decide) ?_
  refine v_putI (pc' := 5) 2 rfl rfl pf_X9_80 (fun q => absurd q (by decide)) ly_436 (lay_lt ly_436 (by decide)) ?_
  refine v_aload_n (pc' := 6) 3 0 rfl rfl rfl rfl ?_
  refine v_getZ (pc' := 9) 4 rfl rfl pf_X9_293 ly_436 (lay_lt ly_436 (by decide)) ?_
  refine v_if_ne (tgt := 14) (pc' := 12) 5 rfl rfl (by decide) (fun hc => ?_) (fun hc => ?_)
  · replace h := h.1 hc
    refine v_iconst (v := 0) (pc' := 15) 8 rfl rfl (by decide) ?_
    refine v_istore_n (ls' := [(1, .int 0), (0, .ref 436)]) (pc' := 16) 9 rfl rfl rfl (by decide) rfl ?_
    refine V.sub [1, 0] rfl ?_
    obtain ⟨n3303, h⟩ := h
    exact l_X9_restoreSnapshot_16 (up2 I 436 0 0) Q n3303 (0 : Int32) L h
  replace h := h.2 hc
  refine v_iconst (v := 0) (pc' := 13) 6 rfl rfl (by decide) ?_
  exact v_bret 7 rfl rfl (by decide) (by decide) (by decide) ⟨_, _, _, rfl, rfl, h⟩
set_option maxHeartbeats 4000000 in
set_option maxRecDepth 100000 in
theorem ok_X9_signOf {G : GT} {b d t : Nat} (p1 : Int32) (p2 : Int32) (p3 : Int32) (I : TI) (L : TL)  {Q : Int32 → Prop} (h : W_X9_signOf p1 p2 p3 I L Q) : MW G Y_X9_signOf [.ref 436, .int p1, .int p2, .int p3] (I, L, RT b d t, 457) (fun v9 u9 => ∃ (r9 : Int32), v9 = some (.int r9) ∧ u9 = (I, L, RT b d t, 457) ∧ Q r9) (fun _ _ => False) := by
  unfold W_X9_signOf at h
  refine MW.intro rfl (by decide) is_X9_signOf (Nat.le_of_ble_eq_true rfl) ?_
  show V G Y_X9_signOf 0 [(0, .ref 436), (1, .int p1), (2, .int p2), (3, .int p3)] [] (I, L, RT b d t, 457) 0 0 _ _
  refine v_aload_n (pc' := 1) 0 0 rfl rfl rfl rfl ?_
  refine v_iload_n (pc' := 2) 1 1 rfl rfl rfl rfl ?_
  refine v_iload_n (pc' := 3) 2 2 rfl rfl rfl rfl ?_
  refine v_cV (Y2 := Y_X9_waveOf) (As := [.int p1, .int p2]) (b := 436) (pc' := 6) (c1 := 0) (s1 := 0) 3 rfl rfl mf_X9_waveOf rfl rfl ml_X9_313 mi_X9_waveOf se_X9_waveOf (ci := 8) rfl ly_436 (lay_lt ly_436 (by decide)) rfl (Nat.le_of_ble_eq_true rfl) ⟨Nat.le_of_ble_eq_true rfl, Nat.le_of_ble_eq_true rfl⟩ rfl rfl (ok_X9_waveOf p1 p2 I L h) ?_ ?_
  · intro e9 u9 hx9
    exact hx9.elim
  intro v9 u9 hv9
  obtain ⟨r3310, rfl, rfl, h⟩ := hv9
  refine ⟨fun q => absurd q (Nat.lt_irrefl _), ?_⟩
  show V G Y_X9_signOf 6 _ (.long r3310 :: _) _ _ _ _ _
  refine v_iload_n (pc' := 7) 4 3 rfl rfl rfl rfl ?_
  refine v_cS (Y2 := Y_X9_bit) (As := [.long r3310, .int p3]) (pc' := 10) (c1 := 0) (s1 := 0) 5 rfl rfl mf_X9_bit rfl rfl ml_X9_113 ms_X9_bit rfl (Nat.le_of_ble_eq_true rfl) ⟨Nat.le_of_ble_eq_true rfl, Nat.le_of_ble_eq_true rfl⟩ rfl rfl (ok_X9_bit r3310 p3 I L h) ?_ ?_
  · intro e9 u9 hx9
    exact hx9.elim
  intro v9 u9 hv9
  obtain ⟨r3311, rfl, rfl, h⟩ := hv9
  refine ⟨fun q => absurd q (Nat.lt_irrefl _), ?_⟩
  show V G Y_X9_signOf 10 _ (.int r3311 :: _) _ _ _ _ _
  refine v_istore (ls' := [(4, .int r3311), (0, .ref 436), (1, .int p1), (2, .int p2), (3, .int p3)]) (pc' := 12) 6 rfl rfl (by decide) rfl ?_
  refine v_iload_n (pc' := 13) 7 2 rfl rfl rfl rfl ?_
  refine v_aload_n (pc' := 14) 8 1 rfl rfl rfl rfl ?_
  refine v_getI (pc' := 17) 9 rfl rfl pf_X9_77 ly_436 (lay_lt ly_436 (by decide)) ?_
  refine v_isub (pc' := 18) 10 rfl rfl ?_
  refine v_istore (ls' := [(5, .int (p1 - (I 436 10))), (4, .int r3311), (0, .ref 436), (1, .int p1), (2, .int p2), (3, .int p3)]) (pc' := 20) 11 rfl rfl (by decide) rfl ?_
  refine v_iload_n (pc' := 21) 12 4 rfl rfl rfl rfl ?_
  refine v_if_gt (tgt := 29) (pc' := 24) 13 rfl rfl (by decide) (fun hc => ?_) (fun hc => ?_)
  · replace h := h.1 hc
    refine v_bipush (v := 48) (pc' := 31) 16 rfl rfl (by decide) ?_
    refine v_iload (pc' := 33) 17 1 rfl rfl rfl ?_
    refine v_iadd (pc' := 34) 18 rfl rfl ?_
    exact v_iret 19 rfl rfl (by decide) (by decide) ⟨_, rfl, rfl, h⟩
  replace h := h.2 hc
  refine v_iload (pc' := 26) 14 0 rfl rfl rfl ?_
  refine v_if_ge (tgt := 35) (pc' := 29) 15 rfl rfl (by decide) (fun hc => ?_) (fun hc => ?_)
  · replace h := h.1 hc
    refine v_aload_n (pc' := 36) 20 2 rfl rfl rfl rfl ?_
    refine v_getR (t := 437) (pc' := 39) 21 rfl rfl pf_X9_7 ly_436 (lay_lt ly_436 (by decide)) rt_436_1 ?_
    refine v_bipush (v := 9) (pc' := 41) 22 rfl rfl (by decide) ?_
    refine v_iload (pc' := 43) 23 0 rfl rfl rfl ?_
    refine v_iadd (pc' := 44) 24 rfl rfl ?_
    obtain ⟨hi3312, h⟩ := h
    refine v_lald (i := ((9 : Int32) + (p1 - (I 436 10)))) (j := ((9 : Int32) + (p1 - (I 436 10))).toNatClampNeg) (pc' := 45) 25 rfl rfl ly_437 ln_437 (lay_lt ly_437 (by decide)) hi3312 rfl ?_
    refine v_iload_n (pc' := 46) 26 5 rfl rfl rfl rfl ?_
    refine v_cS (Y2 := Y_X9_bit) (As := [.long (L 437 (((9 : Int32) + (p1 - (I 436 10))).toNatClampNeg)), .int p3]) (pc' := 49) (c1 := 0) (s1 := 0) 27 rfl rfl mf_X9_bit rfl rfl ml_X9_113 ms_X9_bit rfl (Nat.le_of_ble_eq_true rfl) ⟨Nat.le_of_ble_eq_true rfl, Nat.le_of_ble_eq_true rfl⟩ rfl rfl (ok_X9_bit (L 437 (((9 : Int32) + (p1 - (I 436 10))).toNatClampNeg)) p3 I L h) ?_ ?_
    · intro e9 u9 hx9
      exact hx9.elim
    intro v9 u9 hv9
    obtain ⟨r3313, rfl, rfl, h⟩ := hv9
    refine ⟨fun q => absurd q (Nat.lt_irrefl _), ?_⟩
    show V G Y_X9_signOf 49 _ (.int r3313 :: _) _ _ _ _ _
    refine v_iconst (v := 1) (pc' := 50) 28 rfl rfl (by decide) ?_
    refine v_icmp_ne (tgt := 67) (pc' := 53) 29 rfl rfl (by decide) (fun hc => ?_) (fun hc => ?_)
    · replace h := h.1 hc
      refine v_aload_n (pc' := 68) 37 2 rfl rfl rfl rfl ?_
      refine v_getR (t := 437) (pc' := 71) 38 rfl rfl pf_X9_7 ly_436 (lay_lt ly_436 (by decide)) rt_436_1 ?_
      refine v_bipush (v := 21) (pc' := 73) 39 rfl rfl (by decide) ?_
      refine v_iload (pc' := 75) 40 0 rfl rfl rfl ?_
      refine v_iadd (pc' := 76) 41 rfl rfl ?_
      obtain ⟨hi3314, h⟩ := h
      refine v_lald (i := ((21 : Int32) + (p1 - (I 436 10)))) (j := ((21 : Int32) + (p1 - (I 436 10))).toNatClampNeg) (pc' := 77) 42 rfl rfl ly_437 ln_437 (lay_lt ly_437 (by decide)) hi3314 rfl ?_
      refine v_iload_n (pc' := 78) 43 5 rfl rfl rfl rfl ?_
      refine v_cS (Y2 := Y_X9_bit) (As := [.long (L 437 (((21 : Int32) + (p1 - (I 436 10))).toNatClampNeg)), .int p3]) (pc' := 81) (c1 := 0) (s1 := 0) 44 rfl rfl mf_X9_bit rfl rfl ml_X9_113 ms_X9_bit rfl (Nat.le_of_ble_eq_true rfl) ⟨Nat.le_of_ble_eq_true rfl, Nat.le_of_ble_eq_true rfl⟩ rfl rfl (ok_X9_bit (L 437 (((21 : Int32) + (p1 - (I 436 10))).toNatClampNeg)) p3 I L h) ?_ ?_
      · intro e9 u9 hx9
        exact hx9.elim
      intro v9 u9 hv9
      obtain ⟨r3315, rfl, rfl, h⟩ := hv9
      refine ⟨fun q => absurd q (Nat.lt_irrefl _), ?_⟩
      show V G Y_X9_signOf 81 _ (.int r3315 :: _) _ _ _ _ _
      refine v_iconst (v := 1) (pc' := 82) 45 rfl rfl (by decide) ?_
      refine v_icmp_ne (tgt := 99) (pc' := 85) 46 rfl rfl (by decide) (fun hc => ?_) (fun hc => ?_)
      · replace h := h.1 hc
        refine v_bipush (v := 48) (pc' := 101) 54 rfl rfl (by decide) ?_
        refine v_iload (pc' := 103) 55 1 rfl rfl rfl ?_
        refine v_iadd (pc' := 104) 56 rfl rfl ?_
        exact v_iret 57 rfl rfl (by decide) (by decide) ⟨_, rfl, rfl, h⟩
      replace h := h.2 hc
      refine v_iload (pc' := 87) 47 1 rfl rfl rfl ?_
      refine v_iconst (v := 1) (pc' := 88) 48 rfl rfl (by decide) ?_
      refine v_icmp_ne (tgt := 96) (pc' := 91) 49 rfl rfl (by decide) (fun hc => ?_) (fun hc => ?_)
      · replace h := h.1 hc
        refine v_bipush (v := 108) (pc' := 98) 52 rfl rfl (by decide) ?_
        exact v_iret 53 rfl rfl (by decide) (by decide) ⟨_, rfl, rfl, h⟩
      replace h := h.2 hc
      refine v_bipush (v := 104) (pc' := 93) 50 rfl rfl (by decide) ?_
      refine v_goto (tgt := 98) 51 rfl (by decide) ?_
      exact v_iret 53 rfl rfl (by decide) (by decide) ⟨_, rfl, rfl, h⟩
    replace h := h.2 hc
    refine v_iload (pc' := 55) 30 1 rfl rfl rfl ?_
    refine v_iconst (v := 1) (pc' := 56) 31 rfl rfl (by decide) ?_
    refine v_icmp_ne (tgt := 64) (pc' := 59) 32 rfl rfl (by decide) (fun hc => ?_) (fun hc => ?_)
    · replace h := h.1 hc
      refine v_bipush (v := 76) (pc' := 66) 35 rfl rfl (by decide) ?_
      exact v_iret 36 rfl rfl (by decide) (by decide) ⟨_, rfl, rfl, h⟩
    replace h := h.2 hc
    refine v_bipush (v := 72) (pc' := 61) 33 rfl rfl (by decide) ?_
    refine v_goto (tgt := 66) 34 rfl (by decide) ?_
    exact v_iret 36 rfl rfl (by decide) (by decide) ⟨_, rfl, rfl, h⟩
  replace h := h.2 hc
  refine v_bipush (v := 48) (pc' := 31) 16 rfl rfl (by decide) ?_
  refine v_iload (pc' := 33) 17 1 rfl rfl rfl ?_
  refine v_iadd (pc' := 34) 18 rfl rfl ?_
  exact v_iret 19 rfl rfl (by decide) (by decide) ⟨_, rfl, rfl, h⟩
set_option maxHeartbeats 4000000 in
set_option maxRecDepth 100000 in
theorem d_X9_format_23 {G : GT} {b d t : Nat} (v1 : Int32) (v2 : Int32) (L : TL)  (Q : Int32 → TI → TL → Prop) (R23 : Int32 → TI → Prop)  (hR23 : ∀ (v3 : Int32) (I : TI), R23 v3 I → V G Y_X9_format 23 [(0, .ref 436), (1, .int v1), (2, .int v2), (3, .int v3)] [] (I, L, RT b d t, 457) 0 0 (fun v9 u9 => ∃ (r9 : Int32) (I9 : TI) (L9 : TL), v9 = some (.int r9) ∧ u9 = (I9, L9, RT b d t, 457) ∧ Q r9 I9 L9) (fun _ _ => False)) (v3 : Int32) (I : TI)  (h : D_X9_format_23 v1 v2 L Q R23 v3 I) : V G Y_X9_format 23 [(0, .ref 436), (1, .int v1), (2, .int v2), (3, .int v3)] [] (I, L, RT b d t, 457) 0 0 (fun v9 u9 => ∃ (r9 : Int32) (I9 : TI) (L9 : TL), v9 = some (.int r9) ∧ u9 = (I9, L9, RT b d t, 457) ∧ Q r9 I9 L9) (fun _ _ => False) := by
  unfold D_X9_format_23 at h
  refine v_iload_n (pc' := 24) 15 3 rfl rfl rfl rfl ?_
  refine v_aload_n (pc' := 25) 16 0 rfl rfl rfl rfl ?_
  refine v_getI (pc' := 28) 17 rfl rfl pf_X9_86 ly_436 (lay_lt ly_436 (by decide)) ?_
  refine v_icmp_gt (tgt := 51) (pc' := 31) 18 rfl rfl (by decide) (fun hc => ?_) (fun hc => ?_)
  · replace h := h.1 hc
    refine v_aload_n (pc' := 52) 31 0 rfl rfl rfl rfl ?_
    refine v_getI (pc' := 55) 32 rfl rfl pf_X9_393 ly_436 (lay_lt ly_436 (by decide)) ?_
    exact v_iret 33 rfl rfl (by decide) (by decide) ⟨_, _, _, rfl, rfl, h⟩
  replace h := h.2 hc
  refine v_aload_n (pc' := 32) 19 0 rfl rfl rfl rfl ?_
  refine v_getR (t := 452) (pc' := 35) 20 rfl rfl pf_X9_60 ly_436 (lay_lt ly_436 (by decide)) rt_436_35 ?_
  refine v_iload_n (pc' := 36) 21 3 rfl rfl rfl rfl ?_
  refine v_aload_n (pc' := 37) 22 0 rfl rfl rfl rfl ?_
  refine v_iload_n (pc' := 38) 23 1 rfl rfl rfl rfl ?_
  refine v_iload_n (pc' := 39) 24 2 rfl rfl rfl rfl ?_
  refine v_iload_n (pc' := 40) 25 3 rfl rfl rfl rfl ?_
  refine v_cV (Y2 := Y_X9_signOf) (As := [.int v1, .int v2, .int v3]) (b := 436) (pc' := 43) (c1 := 0) (s1 := 0) 26 rfl rfl mf_X9_signOf rfl rfl ml_X9_396 mi_X9_signOf se_X9_signOf (ci := 8) rfl ly_436 (lay_lt ly_436 (by decide)) rfl (Nat.le_of_ble_eq_true rfl) ⟨Nat.le_of_ble_eq_true rfl, Nat.le_of_ble_eq_true rfl⟩ rfl rfl (ok_X9_signOf v1 v2 v3 I L h) ?_ ?_
  · intro e9 u9 hx9
    exact hx9.elim
  intro v9 u9 hv9
  obtain ⟨r3326, rfl, rfl, h⟩ := hv9
  refine ⟨fun q => absurd q (Nat.lt_irrefl _), ?_⟩
  show V G Y_X9_format 43 _ (.int r3326 :: _) _ _ _ _ _
  refine v_i2b (pc' := 44) 27 rfl rfl ?_
  obtain ⟨hi3327, h⟩ := h
  refine v_bast (i := v3) (j := v3.toNatClampNeg) (pc' := 45) 28 rfl rfl ly_452 ln_452 (lay_lt ly_452 (by decide)) hi3327 rfl ?_
  refine nm_M (e := (up2 I 452 (v3.toNatClampNeg) (r3326.toInt8.toInt32).toInt8.toInt32)) (fun I3328 hI3328 => ?_)
  replace h := h I3328 hI3328
  refine v_iinc (v := (v3 + 1)) (ls' := [(3, .int (v3 + 1)), (0, .ref 436), (1, .int v1), (2, .int v2)]) (pc' := 48) 29 3 rfl rfl rfl rfl (by decide) rfl ?_
  refine v_goto (tgt := 23) 30 rfl (by decide) ?_
  refine V.sub [1, 2, 3, 0] rfl ?_
  exact hR23 (v3 + 1) I3328 h
theorem l_X9_format_23 {G : GT} {b d t : Nat} (v1 : Int32) (v2 : Int32) (L : TL)  (Q : Int32 → TI → TL → Prop)  : ∀ (n9 : Nat) (v3 : Int32) (I : TI), L_X9_format_23 v1 v2 L Q n9 v3 I → V G Y_X9_format 23 [(0, .ref 436), (1, .int v1), (2, .int v2), (3, .int v3)] [] (I, L, RT b d t, 457) 0 0 (fun v9 u9 => ∃ (r9 : Int32) (I9 : TI) (L9 : TL), v9 = some (.int r9) ∧ u9 = (I9, L9, RT b d t, 457) ∧ Q r9 I9 L9) (fun _ _ => False)
  | 0, _, _, h => h.elim
  | n9 + 1, v3, I, h => d_X9_format_23 v1 v2 L Q _ (l_X9_format_23 v1 v2 L Q n9) v3 I h
set_option maxHeartbeats 4000000 in
set_option maxRecDepth 100000 in
theorem ok_X9_format {G : GT} {b d t : Nat} (p1 : Int32) (p2 : Int32) (I : TI) (L : TL)  {Q : Int32 → TI → TL → Prop} (h : W_X9_format p1 p2 I L Q) : MW G Y_X9_format [.ref 436, .int p1, .int p2] (I, L, RT b d t, 457) (fun v9 u9 => ∃ (r9 : Int32) (I9 : TI) (L9 : TL), v9 = some (.int r9) ∧ u9 = (I9, L9, RT b d t, 457) ∧ Q r9 I9 L9) (fun _ _ => False) := by
  unfold W_X9_format at h
  refine MW.intro rfl (by decide) is_X9_format (Nat.le_of_ble_eq_true rfl) ?_
  show V G Y_X9_format 0 [(0, .ref 436), (1, .int p1), (2, .int p2)] [] (I, L, RT b d t, 457) 0 0 _ _
  refine v_aload_n (pc' := 1) 0 0 rfl rfl rfl rfl ?_
  refine v_iload_n (pc' := 2) 1 1 rfl rfl rfl rfl ?_
  refine v_iload_n (pc' := 3) 2 2 rfl rfl rfl rfl ?_
  refine v_cV (Y2 := Y_X9_noWave) (As := [.int p1, .int p2]) (b := 436) (pc' := 6) (c1 := 0) (s1 := 0) 3 rfl rfl mf_X9_noWave rfl rfl ml_X9_316 mi_X9_noWave se_X9_noWave (ci := 8) rfl ly_436 (lay_lt ly_436 (by decide)) rfl (Nat.le_of_ble_eq_true rfl) ⟨Nat.le_of_ble_eq_true rfl, Nat.le_of_ble_eq_true rfl⟩ rfl rfl (ok_X9_noWave p1 p2 I L h) ?_ ?_
  · intro e9 u9 hx9
    exact hx9.elim
  intro v9 u9 hv9
  obtain ⟨r3329, I3330, L3331, rfl, rfl, h⟩ := hv9
  refine ⟨fun q => absurd q (Nat.lt_irrefl _), ?_⟩
  show V G Y_X9_format 6 _ (.int r3329 :: _) _ _ _ _ _
  refine v_if_eq (tgt := 11) (pc' := 9) 4 rfl rfl (by decide) (fun hc => ?_) (fun hc => ?_)
  · replace h := h.1 hc
    refine v_aload_n (pc' := 12) 7 0 rfl rfl rfl rfl ?_
    refine v_aload_n (pc' := 13) 8 0 rfl rfl rfl rfl ?_
    refine v_getI (pc' := 16) 9 rfl rfl pf_X9_86 ly_436 (lay_lt ly_436 (by decide)) ?_
    refine v_iconst (v := 1) (pc' := 17) 10 rfl rfl (by decide) ?_
    refine v_iadd (pc' := 18) 11 rfl rfl ?_
    refine v_putI (pc' := 21) 12 rfl rfl pf_X9_393 (fun q => absurd q (by decide)) ly_436 (lay_lt ly_436 (by decide)) ?_
    refine v_iconst (v := 0) (pc' := 22) 13 rfl rfl (by decide) ?_
    refine v_istore_n (ls' := [(3, .int 0), (0, .ref 436), (1, .int p1), (2, .int p2)]) (pc' := 23) 14 rfl rfl rfl (by decide) rfl ?_
    refine V.sub [1, 2, 3, 0] rfl ?_
    obtain ⟨n3332, h⟩ := h
    exact l_X9_format_23 p1 p2 L3331 Q n3332 (0 : Int32) (up2 I3330 436 36 ((I3330 436 7) + 1)) h
  replace h := h.2 hc
  refine v_iconst (v := 0) (pc' := 10) 5 rfl rfl (by decide) ?_
  exact v_iret 6 rfl rfl (by decide) (by decide) ⟨_, _, _, rfl, rfl, h⟩
set_option maxHeartbeats 4000000 in
set_option maxRecDepth 100000 in
theorem ok_X9_formattedByte {G : GT} {b d t : Nat} (p1 : Int32) (I : TI) (L : TL)  {Q : Int32 → TI → Prop} (h : W_X9_formattedByte p1 I L Q) : MW G Y_X9_formattedByte [.ref 436, .int p1] (I, L, RT b d t, 457) (fun v9 u9 => ∃ (r9 : Int32) (I9 : TI), v9 = some (.int r9) ∧ u9 = (I9, L, RT b d t, 457) ∧ Q r9 I9) (fun _ _ => False) := by
  unfold W_X9_formattedByte at h
  refine MW.intro rfl (by decide) is_X9_formattedByte (Nat.le_of_ble_eq_true rfl) ?_
  show V G Y_X9_formattedByte 0 [(0, .ref 436), (1, .int p1)] [] (I, L, RT b d t, 457) 0 0 _ _
  refine v_aload_n (pc' := 1) 0 0 rfl rfl rfl rfl ?_
  refine v_iconst (v := 0) (pc' := 2) 1 rfl rfl (by decide) ?_
  refine v_putI (pc' := 5) 2 rfl rfl pf_X9_80 (fun q => absurd q (by decide)) ly_436 (lay_lt ly_436 (by decide)) ?_
  refine v_iload_n (pc' := 6) 3 1 rfl rfl rfl rfl ?_
  refine v_i2l (pc' := 7) 4 rfl rfl ?_
  refine v_lconst (v := 0) (pc' := 8) 5 rfl rfl (by decide) ?_
  refine v_aload_n (pc' := 9) 6 0 rfl rfl rfl rfl ?_
  refine v_getI (pc' := 12) 7 rfl rfl pf_X9_393 ly_436 (lay_lt ly_436 (by decide)) ?_
  refine v_iconst (v := 1) (pc' := 13) 8 rfl rfl (by decide) ?_
  refine v_isub (pc' := 14) 9 rfl rfl ?_
  refine v_i2l (pc' := 15) 10 rfl rfl ?_
  refine v_cS (Y2 := Y_X9_in) (As := [.long (p1.toInt64), .long 0, .long ((((up2 I 436 0 0) 436 36) - 1).toInt64)]) (pc' := 18) (c1 := 0) (s1 := 0) 11 rfl rfl mf_X9_in rfl rfl ml_X9_232 ms_X9_in rfl (Nat.le_of_ble_eq_true rfl) ⟨Nat.le_of_ble_eq_true rfl, Nat.le_of_ble_eq_true rfl⟩ rfl rfl (ok_X9_in (p1.toInt64) (0 : Int64) ((((up2 I 436 0 0) 436 36) - 1).toInt64) (up2 I 436 0 0) L h) ?_ ?_
  · intro e9 u9 hx9
    exact hx9.elim
  intro v9 u9 hv9
  obtain ⟨r3335, rfl, rfl, h⟩ := hv9
  refine ⟨fun q => absurd q (Nat.lt_irrefl _), ?_⟩
  show V G Y_X9_formattedByte 18 _ (.int r3335 :: _) _ _ _ _ _
  refine v_if_eq (tgt := 30) (pc' := 21) 12 rfl rfl (by decide) (fun hc => ?_) (fun hc => ?_)
  · replace h := h.1 hc
    refine v_iconst (v := -1) (pc' := 31) 18 rfl rfl (by decide) ?_
    exact v_iret 19 rfl rfl (by decide) (by decide) ⟨_, _, rfl, rfl, h⟩
  replace h := h.2 hc
  refine v_aload_n (pc' := 22) 13 0 rfl rfl rfl rfl ?_
  refine v_getR (t := 452) (pc' := 25) 14 rfl rfl pf_X9_60 ly_436 (lay_lt ly_436 (by decide)) rt_436_35 ?_
  refine v_iload_n (pc' := 26) 15 1 rfl rfl rfl rfl ?_
  obtain ⟨hi3336, h⟩ := h
  refine v_bald (i := p1) (j := p1.toNatClampNeg) (pc' := 27) 16 rfl rfl ly_452 ln_452 (lay_lt ly_452 (by decide)) hi3336 rfl ?_
  refine v_goto (tgt := 31) 17 rfl (by decide) ?_
  exact v_iret 19 rfl rfl (by decide) (by decide) ⟨_, _, rfl, rfl, h⟩
set_option maxHeartbeats 4000000 in
set_option maxRecDepth 100000 in
theorem ok_X9_adds {G : GT} {b d t : Nat} (p1 : Int32) (I : TI) (L : TL)  {Q : TI → Prop} (h : W_X9_adds p1 I L Q) : MW G Y_X9_adds [.ref 436, .int p1] (I, L, RT b d t, 457) (fun v9 u9 => ∃ (I9 : TI), v9 = none ∧ u9 = (I9, L, RT b d t, 457) ∧ Q I9) (fun _ _ => False) := by
  unfold W_X9_adds at h
  refine MW.intro rfl (by decide) is_X9_adds (Nat.le_of_ble_eq_true rfl) ?_
  show V G Y_X9_adds 0 [(0, .ref 436), (1, .int p1)] [] (I, L, RT b d t, 457) 0 0 _ _
  refine v_aload_n (pc' := 1) 0 0 rfl rfl rfl rfl ?_
  refine v_getR (t := 453) (pc' := 4) 1 rfl rfl pf_X9_64 ly_436 (lay_lt ly_436 (by decide)) rt_436_37 ?_
  refine v_aload_n (pc' := 5) 2 0 rfl rfl rfl rfl ?_
  refine v_getI (pc' := 8) 3 rfl rfl pf_X9_399 ly_436 (lay_lt ly_436 (by decide)) ?_
  refine v_iload_n (pc' := 9) 4 1 rfl rfl rfl rfl ?_
  obtain ⟨hi3338, h⟩ := h
  refine v_iast (i := (I 436 40)) (j := (I 436 40).toNatClampNeg) (pc' := 10) 5 rfl rfl ly_453 ln_453 (lay_lt ly_453 (by decide)) hi3338 rfl ?_
  refine v_aload_n (pc' := 11) 6 0 rfl rfl rfl rfl ?_
  refine v_dup (pc' := 12) 7 rfl rfl rfl ?_
  refine v_getI (pc' := 15) 8 rfl rfl pf_X9_399 ly_436 (lay_lt ly_436 (by decide)) ?_
  refine v_iconst (v := 1) (pc' := 16) 9 rfl rfl (by decide) ?_
  refine v_iadd (pc' := 17) 10 rfl rfl ?_
  refine v_putI (pc' := 20) 11 rfl rfl pf_X9_399 (fun q => absurd q (by decide)) ly_436 (lay_lt ly_436 (by decide)) ?_
  refine nm_M (e := (up2 (up2 I 453 ((I 436 40).toNatClampNeg) p1) 436 40 (((up2 I 453 ((I 436 40).toNatClampNeg) p1) 436 40) + 1))) (fun I3339 hI3339 => ?_)
  replace h := h I3339 hI3339
  exact v_vret 12 rfl rfl (by decide) (by decide) ⟨_, rfl, rfl, h⟩
set_option maxHeartbeats 4000000 in
set_option maxRecDepth 100000 in
theorem ok_X9_propertyHere {G : GT} {b d t : Nat} (I : TI) (L : TL)  {Q : Int32 → Prop} (h : W_X9_propertyHere I L Q) : MW G Y_X9_propertyHere [.ref 436] (I, L, RT b d t, 457) (fun v9 u9 => ∃ (r9 : Int32), v9 = some (.int r9) ∧ u9 = (I, L, RT b d t, 457) ∧ Q r9) (fun _ _ => False) := by
  unfold W_X9_propertyHere at h
  refine MW.intro rfl (by decide) is_X9_propertyHere (Nat.le_of_ble_eq_true rfl) ?_
  show V G Y_X9_propertyHere 0 [(0, .ref 436)] [] (I, L, RT b d t, 457) 0 0 _ _
  refine v_aload_n (pc' := 1) 0 0 rfl rfl rfl rfl ?_
  refine v_ldc2 (v := 10361) (pc' := 4) 1 rfl rfl kl_X9_402 ?_
  refine v_cV (Y2 := Y_X9_isWord) (As := [.long 10361]) (b := 436) (pc' := 7) (c1 := 0) (s1 := 0) 2 rfl rfl mf_X9_isWord rfl rfl ml_X9_222 mi_X9_isWord se_X9_isWord (ci := 8) rfl ly_436 (lay_lt ly_436 (by decide)) rfl (Nat.le_of_ble_eq_true rfl) ⟨Nat.le_of_ble_eq_true rfl, Nat.le_of_ble_eq_true rfl⟩ rfl rfl (ok_X9_isWord (10361 : Int64) I L h) ?_ ?_
  · intro e9 u9 hx9
    exact hx9.elim
  intro v9 u9 hv9
  obtain ⟨r3349, rfl, rfl, h⟩ := hv9
  refine ⟨fun q => absurd q (Nat.lt_irrefl _), ?_⟩
  show V G Y_X9_propertyHere 7 _ (.int r3349 :: _) _ _ _ _ _
  refine v_if_eq (tgt := 12) (pc' := 10) 3 rfl rfl (by decide) (fun hc => ?_) (fun hc => ?_)
  · replace h := h.1 hc
    refine v_aload_n (pc' := 13) 6 0 rfl rfl rfl rfl ?_
    refine v_ldc2 (v := 223456) (pc' := 16) 7 rfl rfl kl_X9_404 ?_
    refine v_cV (Y2 := Y_X9_isWord) (As := [.long 223456]) (b := 436) (pc' := 19) (c1 := 0) (s1 := 0) 8 rfl rfl mf_X9_isWord rfl rfl ml_X9_222 mi_X9_isWord se_X9_isWord (ci := 8) rfl ly_436 (lay_lt ly_436 (by decide)) rfl (Nat.le_of_ble_eq_true rfl) ⟨Nat.le_of_ble_eq_true rfl, Nat.le_of_ble_eq_true rfl⟩ rfl rfl (ok_X9_isWord (223456 : Int64) I L h) ?_ ?_
    · intro e9 u9 hx9
      exact hx9.elim
    intro v9 u9 hv9
    obtain ⟨r3350, rfl, rfl, h⟩ := hv9
    refine ⟨fun q => absurd q (Nat.lt_irrefl _), ?_⟩
    show V G Y_X9_propertyHere 19 _ (.int r3350 :: _) _ _ _ _ _
    refine v_if_eq (tgt := 24) (pc' := 22) 9 rfl rfl (by decide) (fun hc => ?_) (fun hc => ?_)
    · replace h := h.1 hc
      refine v_aload_n (pc' := 25) 12 0 rfl rfl rfl rfl ?_
      refine v_ldc2 (v := 70367) (pc' := 28) 13 rfl rfl kl_X9_406 ?_
      refine v_cV (Y2 := Y_X9_isWord) (As := [.long 70367]) (b := 436) (pc' := 31) (c1 := 0) (s1 := 0) 14 rfl rfl mf_X9_isWord rfl rfl ml_X9_222 mi_X9_isWord se_X9_isWord (ci := 8) rfl ly_436 (lay_lt ly_436 (by decide)) rfl (Nat.le_of_ble_eq_true rfl) ⟨Nat.le_of_ble_eq_true rfl, Nat.le_of_ble_eq_true rfl⟩ rfl rfl (ok_X9_isWord (70367 : Int64) I L h) ?_ ?_
      · intro e9 u9 hx9
        exact hx9.elim
      intro v9 u9 hv9
      obtain ⟨r3351, rfl, rfl, h⟩ := hv9
      refine ⟨fun q => absurd q (Nat.lt_irrefl _), ?_⟩
      show V G Y_X9_propertyHere 31 _ (.int r3351 :: _) _ _ _ _ _
      refine v_if_eq (tgt := 36) (pc' := 34) 15 rfl rfl (by decide) (fun hc => ?_) (fun hc => ?_)
      · replace h := h.1 hc
        refine v_aload_n (pc' := 37) 18 0 rfl rfl rfl rfl ?_
        refine v_ldc2 (v := 1277864983) (pc' := 40) 19 rfl rfl kl_X9_408 ?_
        refine v_cV (Y2 := Y_X9_isWord) (As := [.long 1277864983]) (b := 436) (pc' := 43) (c1 := 0) (s1 := 0) 20 rfl rfl mf_X9_isWord rfl rfl ml_X9_222 mi_X9_isWord se_X9_isWord (ci := 8) rfl ly_436 (lay_lt ly_436 (by decide)) rfl (Nat.le_of_ble_eq_true rfl) ⟨Nat.le_of_ble_eq_true rfl, Nat.le_of_ble_eq_true rfl⟩ rfl rfl (ok_X9_isWord (1277864983 : Int64) I L h) ?_ ?_
        · intro e9 u9 hx9
          exact hx9.elim
        intro v9 u9 hv9
        obtain ⟨r3352, rfl, rfl, h⟩ := hv9
        refine ⟨fun q => absurd q (Nat.lt_irrefl _), ?_⟩
        show V G Y_X9_propertyHere 43 _ (.int r3352 :: _) _ _ _ _ _
        refine v_if_eq (tgt := 48) (pc' := 46) 21 rfl rfl (by decide) (fun hc => ?_) (fun hc => ?_)
        · replace h := h.1 hc
          refine v_aload_n (pc' := 49) 24 0 rfl rfl rfl rfl ?_
          refine v_ldc2 (v := 12588757) (pc' := 52) 25 rfl rfl kl_X9_410 ?_
          refine v_cV (Y2 := Y_X9_isWord) (As := [.long 12588757]) (b := 436) (pc' := 55) (c1 := 0) (s1 := 0) 26 rfl rfl mf_X9_isWord rfl rfl ml_X9_222 mi_X9_isWord se_X9_isWord (ci := 8) rfl ly_436 (lay_lt ly_436 (by decide)) rfl (Nat.le_of_ble_eq_true rfl) ⟨Nat.le_of_ble_eq_true rfl, Nat.le_of_ble_eq_true rfl⟩ rfl rfl (ok_X9_isWord (12588757 : Int64) I L h) ?_ ?_
          · intro e9 u9 hx9
            exact hx9.elim
          intro v9 u9 hv9
          obtain ⟨r3353, rfl, rfl, h⟩ := hv9
          refine ⟨fun q => absurd q (Nat.lt_irrefl _), ?_⟩
          show V G Y_X9_propertyHere 55 _ (.int r3353 :: _) _ _ _ _ _
          refine v_if_eq (tgt := 60) (pc' := 58) 27 rfl rfl (by decide) (fun hc => ?_) (fun hc => ?_)
          · replace h := h.1 hc
            refine v_aload_n (pc' := 61) 30 0 rfl rfl rfl rfl ?_
            refine v_ldc2 (v := 7443765193) (pc' := 64) 31 rfl rfl kl_X9_412 ?_
            refine v_cV (Y2 := Y_X9_isWord) (As := [.long 7443765193]) (b := 436) (pc' := 67) (c1 := 0) (s1 := 0) 32 rfl rfl mf_X9_isWord rfl rfl ml_X9_222 mi_X9_isWord se_X9_isWord (ci := 8) rfl ly_436 (lay_lt ly_436 (by decide)) rfl (Nat.le_of_ble_eq_true rfl) ⟨Nat.le_of_ble_eq_true rfl, Nat.le_of_ble_eq_true rfl⟩ rfl rfl (ok_X9_isWord (7443765193 : Int64) I L h) ?_ ?_
            · intro e9 u9 hx9
              exact hx9.elim
            intro v9 u9 hv9
            obtain ⟨r3354, rfl, rfl, h⟩ := hv9
            refine ⟨fun q => absurd q (Nat.lt_irrefl _), ?_⟩
            show V G Y_X9_propertyHere 67 _ (.int r3354 :: _) _ _ _ _ _
            refine v_if_eq (tgt := 72) (pc' := 70) 33 rfl rfl (by decide) (fun hc => ?_) (fun hc => ?_)
            · replace h := h.1 hc
              refine v_aload_n (pc' := 73) 36 0 rfl rfl rfl rfl ?_
              refine v_ldc2 (v := 9988168) (pc' := 76) 37 rfl rfl kl_X9_414 ?_
              refine v_cV (Y2 := Y_X9_isWord) (As := [.long 9988168]) (b := 436) (pc' := 79) (c1 := 0) (s1 := 0) 38 rfl rfl mf_X9_isWord rfl rfl ml_X9_222 mi_X9_isWord se_X9_isWord (ci := 8) rfl ly_436 (lay_lt ly_436 (by decide)) rfl (Nat.le_of_ble_eq_true rfl) ⟨Nat.le_of_ble_eq_true rfl, Nat.le_of_ble_eq_true rfl⟩ rfl rfl (ok_X9_isWord (9988168 : Int64) I L h) ?_ ?_
              · intro e9 u9 hx9
                exact hx9.elim
              intro v9 u9 hv9
              obtain ⟨r3355, rfl, rfl, h⟩ := hv9
              refine ⟨fun q => absurd q (Nat.lt_irrefl _), ?_⟩
              show V G Y_X9_propertyHere 79 _ (.int r3355 :: _) _ _ _ _ _
              refine v_if_eq (tgt := 85) (pc' := 82) 39 rfl rfl (by decide) (fun hc => ?_) (fun hc => ?_)
              · replace h := h.1 hc
                refine v_aload_n (pc' := 86) 42 0 rfl rfl rfl rfl ?_
                refine v_ldc2 (v := 240992974) (pc' := 89) 43 rfl rfl kl_X9_416 ?_
                refine v_cV (Y2 := Y_X9_isWord) (As := [.long 240992974]) (b := 436) (pc' := 92) (c1 := 0) (s1 := 0) 44 rfl rfl mf_X9_isWord rfl rfl ml_X9_222 mi_X9_isWord se_X9_isWord (ci := 8) rfl ly_436 (lay_lt ly_436 (by decide)) rfl (Nat.le_of_ble_eq_true rfl) ⟨Nat.le_of_ble_eq_true rfl, Nat.le_of_ble_eq_true rfl⟩ rfl rfl (ok_X9_isWord (240992974 : Int64) I L h) ?_ ?_
                · intro e9 u9 hx9
                  exact hx9.elim
                intro v9 u9 hv9
                obtain ⟨r3356, rfl, rfl, h⟩ := hv9
                refine ⟨fun q => absurd q (Nat.lt_irrefl _), ?_⟩
                show V G Y_X9_propertyHere 92 _ (.int r3356 :: _) _ _ _ _ _
                refine v_if_eq (tgt := 98) (pc' := 95) 45 rfl rfl (by decide) (fun hc => ?_) (fun hc => ?_)
                · replace h := h.1 hc
                  refine v_aload_n (pc' := 99) 48 0 rfl rfl rfl rfl ?_
                  refine v_ldc2 (v := 237458) (pc' := 102) 49 rfl rfl kl_X9_418 ?_
                  refine v_cV (Y2 := Y_X9_isWord) (As := [.long 237458]) (b := 436) (pc' := 105) (c1 := 0) (s1 := 0) 50 rfl rfl mf_X9_isWord rfl rfl ml_X9_222 mi_X9_isWord se_X9_isWord (ci := 8) rfl ly_436 (lay_lt ly_436 (by decide)) rfl (Nat.le_of_ble_eq_true rfl) ⟨Nat.le_of_ble_eq_true rfl, Nat.le_of_ble_eq_true rfl⟩ rfl rfl (ok_X9_isWord (237458 : Int64) I L h) ?_ ?_
                  · intro e9 u9 hx9
                    exact hx9.elim
                  intro v9 u9 hv9
                  obtain ⟨r3357, rfl, rfl, h⟩ := hv9
                  refine ⟨fun q => absurd q (Nat.lt_irrefl _), ?_⟩
                  show V G Y_X9_propertyHere 105 _ (.int r3357 :: _) _ _ _ _ _
                  refine v_if_eq (tgt := 113) (pc' := 108) 51 rfl rfl (by decide) (fun hc => ?_) (fun hc => ?_)
                  · replace h := h.1 hc
                    refine v_iconst (v := -1) (pc' := 114) 54 rfl rfl (by decide) ?_
                    exact v_iret 55 rfl rfl (by decide) (by decide) ⟨_, rfl, rfl, h⟩
                  replace h := h.2 hc
                  refine v_bipush (v := 8) (pc' := 110) 52 rfl rfl (by decide) ?_
                  refine v_goto (tgt := 114) 53 rfl (by decide) ?_
                  exact v_iret 55 rfl rfl (by decide) (by decide) ⟨_, rfl, rfl, h⟩
                replace h := h.2 hc
                refine v_bipush (v := 7) (pc' := 97) 46 rfl rfl (by decide) ?_
                exact v_iret 47 rfl rfl (by decide) (by decide) ⟨_, rfl, rfl, h⟩
              replace h := h.2 hc
              refine v_bipush (v := 6) (pc' := 84) 40 rfl rfl (by decide) ?_
              exact v_iret 41 rfl rfl (by decide) (by decide) ⟨_, rfl, rfl, h⟩
            replace h := h.2 hc
            refine v_iconst (v := 5) (pc' := 71) 34 rfl rfl (by decide) ?_
            exact v_iret 35 rfl rfl (by decide) (by decide) ⟨_, rfl, rfl, h⟩
          replace h := h.2 hc
          refine v_iconst (v := 4) (pc' := 59) 28 rfl rfl (by decide) ?_
          exact v_iret 29 rfl rfl (by decide) (by decide) ⟨_, rfl, rfl, h⟩
        replace h := h.2 hc
        refine v_iconst (v := 3) (pc' := 47) 22 rfl rfl (by decide) ?_
        exact v_iret 23 rfl rfl (by decide) (by decide) ⟨_, rfl, rfl, h⟩
      replace h := h.2 hc
      refine v_iconst (v := 2) (pc' := 35) 16 rfl rfl (by decide) ?_
      exact v_iret 17 rfl rfl (by decide) (by decide) ⟨_, rfl, rfl, h⟩
    replace h := h.2 hc
    refine v_iconst (v := 1) (pc' := 23) 10 rfl rfl (by decide) ?_
    exact v_iret 11 rfl rfl (by decide) (by decide) ⟨_, rfl, rfl, h⟩
  replace h := h.2 hc
  refine v_iconst (v := 0) (pc' := 11) 4 rfl rfl (by decide) ?_
  exact v_iret 5 rfl rfl (by decide) (by decide) ⟨_, rfl, rfl, h⟩
set_option maxHeartbeats 4000000 in
set_option maxRecDepth 100000 in
theorem ok_X9_valueRead {G : GT} {b d t : Nat} (I : TI) (L : TL)  {Q : TI → TL → Prop} (h : W_X9_valueRead I L Q) : MW G Y_X9_valueRead [.ref 436] (I, L, RT b d t, 457) (fun v9 u9 => ∃ (I9 : TI) (L9 : TL), v9 = none ∧ u9 = (I9, L9, RT b d t, 457) ∧ Q I9 L9) (fun _ _ => False) := by
  unfold W_X9_valueRead at h
  refine MW.intro rfl (by decide) is_X9_valueRead (Nat.le_of_ble_eq_true rfl) ?_
  show V G Y_X9_valueRead 0 [(0, .ref 436)] [] (I, L, RT b d t, 457) 0 0 _ _
  refine v_aload_n (pc' := 1) 0 0 rfl rfl rfl rfl ?_
  refine v_cV (Y2 := Y_X9_isGood) (As := []) (b := 436) (pc' := 4) (c1 := 0) (s1 := 0) 1 rfl rfl mf_X9_isGood rfl rfl ml_X9_218 mi_X9_isGood se_X9_isGood (ci := 8) rfl ly_436 (lay_lt ly_436 (by decide)) rfl (Nat.le_of_ble_eq_true rfl) ⟨Nat.le_of_ble_eq_true rfl, Nat.le_of_ble_eq_true rfl⟩ rfl rfl (ok_X9_isGood I L h) ?_ ?_
  · intro e9 u9 hx9
    exact hx9.elim
  intro v9 u9 hv9
  obtain ⟨r3369, rfl, rfl, h⟩ := hv9
  refine ⟨fun q => absurd q (Nat.lt_irrefl _), ?_⟩
  show V G Y_X9_valueRead 4 _ (.int r3369 :: _) _ _ _ _ _
  refine v_if_ne (tgt := 8) (pc' := 7) 2 rfl rfl (by decide) (fun hc => ?_) (fun hc => ?_)
  · replace h := h.1 hc
    refine v_aload_n (pc' := 9) 4 0 rfl rfl rfl rfl ?_
    refine v_getI (pc' := 12) 5 rfl rfl pf_X9_196 ly_436 (lay_lt ly_436 (by decide)) ?_
    refine v_iconst (v := 2) (pc' := 13) 6 rfl rfl (by decide) ?_
    refine v_icmp_ne (tgt := 34) (pc' := 16) 7 rfl rfl (by decide) (fun hc => ?_) (fun hc => ?_)
    · replace h := h.1 hc
      refine v_aload_n (pc' := 35) 19 0 rfl rfl rfl rfl ?_
      refine v_cV (Y2 := Y_X9_propertyHere) (As := []) (b := 436) (pc' := 38) (c1 := 0) (s1 := 0) 20 rfl rfl mf_X9_propertyHere rfl rfl ml_X9_423 mi_X9_propertyHere se_X9_propertyHere (ci := 8) rfl ly_436 (lay_lt ly_436 (by decide)) rfl (Nat.le_of_ble_eq_true rfl) ⟨Nat.le_of_ble_eq_true rfl, Nat.le_of_ble_eq_true rfl⟩ rfl rfl (ok_X9_propertyHere I L h) ?_ ?_
      · intro e9 u9 hx9
        exact hx9.elim
      intro v9 u9 hv9
      obtain ⟨r3370, rfl, rfl, h⟩ := hv9
      refine ⟨fun q => absurd q (Nat.lt_irrefl _), ?_⟩
      show V G Y_X9_valueRead 38 _ (.int r3370 :: _) _ _ _ _ _
      refine v_istore_n (ls' := [(1, .int r3370), (0, .ref 436)]) (pc' := 39) 21 rfl rfl rfl (by decide) rfl ?_
      refine v_iload_n (pc' := 40) 22 0 rfl rfl rfl rfl ?_
      refine v_iconst (v := -1) (pc' := 41) 23 rfl rfl (by decide) ?_
      refine v_icmp_ne (tgt := 51) (pc' := 44) 24 rfl rfl (by decide) (fun hc => ?_) (fun hc => ?_)
      · replace h := h.1 hc
        refine v_aload_n (pc' := 52) 30 1 rfl rfl rfl rfl ?_
        refine v_iload_n (pc' := 53) 31 0 rfl rfl rfl rfl ?_
        refine v_cV (Y2 := Y_X9_adds) (As := [.int r3370]) (b := 436) (pc' := 56) (c1 := 0) (s1 := 0) 32 rfl rfl mf_X9_adds rfl rfl ml_X9_420 mi_X9_adds se_X9_adds (ci := 8) rfl ly_436 (lay_lt ly_436 (by decide)) rfl (Nat.le_of_ble_eq_true rfl) ⟨Nat.le_of_ble_eq_true rfl, Nat.le_of_ble_eq_true rfl⟩ rfl rfl (ok_X9_adds r3370 I L h) ?_ ?_
        · intro e9 u9 hx9
          exact hx9.elim
        intro v9 u9 hv9
        obtain ⟨I3371, rfl, rfl, h⟩ := hv9
        refine ⟨fun q => absurd q (Nat.lt_irrefl _), ?_⟩
        show V G Y_X9_valueRead 56 _ _ _ _ _ _ _
        refine v_aload_n (pc' := 57) 33 1 rfl rfl rfl rfl ?_
        refine v_cV (Y2 := Y_X9_next) (As := []) (b := 436) (pc' := 60) (c1 := 0) (s1 := 0) 34 rfl rfl mf_X9_next rfl rfl ml_X9_215 mi_X9_next se_X9_next (ci := 8) rfl ly_436 (lay_lt ly_436 (by decide)) rfl (Nat.le_of_ble_eq_true rfl) ⟨Nat.le_of_ble_eq_true rfl, Nat.le_of_ble_eq_true rfl⟩ rfl rfl (ok_X9_next I3371 L h) ?_ ?_
        · intro e9 u9 hx9
          exact hx9.elim
        intro v9 u9 hv9
        obtain ⟨I3372, L3373, rfl, rfl, h⟩ := hv9
        refine ⟨fun q => absurd q (Nat.lt_irrefl _), ?_⟩
        show V G Y_X9_valueRead 60 _ _ _ _ _ _ _
        exact v_vret 35 rfl rfl (by decide) (by decide) ⟨_, _, rfl, rfl, h⟩
      replace h := h.2 hc
      refine v_aload_n (pc' := 45) 25 1 rfl rfl rfl rfl ?_
      refine v_iconst (v := 1) (pc' := 46) 26 rfl rfl (by decide) ?_
      refine v_cV (Y2 := Y_X9_faults) (As := [.int 1]) (b := 436) (pc' := 49) (c1 := 0) (s1 := 0) 27 rfl rfl mf_X9_faults rfl rfl ml_X9_229 mi_X9_faults se_X9_faults (ci := 8) rfl ly_436 (lay_lt ly_436 (by decide)) rfl (Nat.le_of_ble_eq_true rfl) ⟨Nat.le_of_ble_eq_true rfl, Nat.le_of_ble_eq_true rfl⟩ rfl rfl (ok_X9_faults (1 : Int32) I L h) ?_ ?_
      · intro e9 u9 hx9
        exact hx9.elim
      intro v9 u9 hv9
      obtain ⟨r3374, I3375, rfl, rfl, h⟩ := hv9
      refine ⟨fun q => absurd q (Nat.lt_irrefl _), ?_⟩
      show V G Y_X9_valueRead 49 _ (.int r3374 :: _) _ _ _ _ _
      refine v_pop (pc' := 50) 28 rfl rfl rfl ?_
      exact v_vret 29 rfl rfl (by decide) (by decide) ⟨_, _, rfl, rfl, h⟩
    replace h := h.2 hc
    refine v_aload_n (pc' := 17) 8 0 rfl rfl rfl rfl ?_
    refine v_iconst (v := 0) (pc' := 18) 9 rfl rfl (by decide) ?_
    refine v_sipush (v := 9999) (pc' := 21) 10 rfl rfl (by decide) ?_
    refine v_cV (Y2 := Y_X9_number) (As := [.int 0, .int 9999]) (b := 436) (pc' := 24) (c1 := 0) (s1 := 0) 11 rfl rfl mf_X9_number rfl rfl ml_X9_241 mi_X9_number se_X9_number (ci := 8) rfl ly_436 (lay_lt ly_436 (by decide)) rfl (Nat.le_of_ble_eq_true rfl) ⟨Nat.le_of_ble_eq_true rfl, Nat.le_of_ble_eq_true rfl⟩ rfl rfl (ok_X9_number (0 : Int32) (9999 : Int32) I L h) ?_ ?_
    · intro e9 u9 hx9
      exact hx9.elim
    intro v9 u9 hv9
    obtain ⟨r3376, I3377, L3378, rfl, rfl, h⟩ := hv9
    refine ⟨fun q => absurd q (Nat.lt_irrefl _), ?_⟩
    show V G Y_X9_valueRead 24 _ (.int r3376 :: _) _ _ _ _ _
    refine v_istore_n (ls' := [(1, .int r3376), (0, .ref 436)]) (pc' := 25) 12 rfl rfl rfl (by decide) rfl ?_
    refine v_aload_n (pc' := 26) 13 1 rfl rfl rfl rfl ?_
    refine v_bipush (v := 100) (pc' := 28) 14 rfl rfl (by decide) ?_
    refine v_iload_n (pc' := 29) 15 0 rfl rfl rfl rfl ?_
    refine v_iadd (pc' := 30) 16 rfl rfl ?_
    refine v_cV (Y2 := Y_X9_adds) (As := [.int ((100 : Int32) + r3376)]) (b := 436) (pc' := 33) (c1 := 0) (s1 := 0) 17 rfl rfl mf_X9_adds rfl rfl ml_X9_420 mi_X9_adds se_X9_adds (ci := 8) rfl ly_436 (lay_lt ly_436 (by decide)) rfl (Nat.le_of_ble_eq_true rfl) ⟨Nat.le_of_ble_eq_true rfl, Nat.le_of_ble_eq_true rfl⟩ rfl rfl (ok_X9_adds ((100 : Int32) + r3376) I3377 L3378 h) ?_ ?_
    · intro e9 u9 hx9
      exact hx9.elim
    intro v9 u9 hv9
    obtain ⟨I3379, rfl, rfl, h⟩ := hv9
    refine ⟨fun q => absurd q (Nat.lt_irrefl _), ?_⟩
    show V G Y_X9_valueRead 33 _ _ _ _ _ _ _
    exact v_vret 18 rfl rfl (by decide) (by decide) ⟨_, _, rfl, rfl, h⟩
  replace h := h.2 hc
  exact v_vret 3 rfl rfl (by decide) (by decide) ⟨_, _, rfl, rfl, h⟩
set_option maxHeartbeats 4000000 in
set_option maxRecDepth 100000 in
theorem ok_X9_goesIn {G : GT} {b d t : Nat} (p1 : Int32) (I : TI) (L : TL)  {Q : Int32 → TI → TL → Prop} (h : W_X9_goesIn p1 I L Q) : MW G Y_X9_goesIn [.ref 436, .int p1] (I, L, RT b d t, 457) (fun v9 u9 => ∃ (r9 : Int32) (I9 : TI) (L9 : TL), v9 = some (.int r9) ∧ u9 = (I9, L9, RT b d t, 457) ∧ Q r9 I9 L9) (fun _ _ => False) := by
  unfold W_X9_goesIn at h
  refine MW.intro rfl (by decide) is_X9_goesIn (Nat.le_of_ble_eq_true rfl) ?_
  show V G Y_X9_goesIn 0 [(0, .ref 436), (1, .int p1)] [] (I, L, RT b d t, 457) 0 0 _ _
  refine v_aload_n (pc' := 1) 0 0 rfl rfl rfl rfl ?_
  refine v_getI (pc' := 4) 1 rfl rfl pf_X9_426 ly_436 (lay_lt ly_436 (by decide)) ?_
  refine v_bipush (v := 6) (pc' := 6) 2 rfl rfl (by decide) ?_
  refine v_icmp_ne (tgt := 15) (pc' := 9) 3 rfl rfl (by decide) (fun hc => ?_) (fun hc => ?_)
  · replace h := h.1 hc
    refine v_aload_n (pc' := 16) 8 0 rfl rfl rfl rfl ?_
    refine v_dup (pc' := 17) 9 rfl rfl rfl ?_
    refine v_getI (pc' := 20) 10 rfl rfl pf_X9_426 ly_436 (lay_lt ly_436 (by decide)) ?_
    refine v_iconst (v := 1) (pc' := 21) 11 rfl rfl (by decide) ?_
    refine v_iadd (pc' := 22) 12 rfl rfl ?_
    refine v_putI (pc' := 25) 13 rfl rfl pf_X9_426 (fun q => absurd q (by decide)) ly_436 (lay_lt ly_436 (by decide)) ?_
    refine v_aload_n (pc' := 26) 14 0 rfl rfl rfl rfl ?_
    refine v_getR (t := 454) (pc' := 29) 15 rfl rfl pf_X9_67 ly_436 (lay_lt ly_436 (by decide)) rt_436_38 ?_
    refine v_aload_n (pc' := 30) 16 0 rfl rfl rfl rfl ?_
    refine v_getI (pc' := 33) 17 rfl rfl pf_X9_429 ly_436 (lay_lt ly_436 (by decide)) ?_
    refine v_iload_n (pc' := 34) 18 1 rfl rfl rfl rfl ?_
    obtain ⟨hi3386, h⟩ := h
    refine v_iast (i := ((up2 I 436 42 ((I 436 42) + 1)) 436 41)) (j := ((up2 I 436 42 ((I 436 42) + 1)) 436 41).toNatClampNeg) (pc' := 35) 19 rfl rfl ly_454 ln_454 (lay_lt ly_454 (by decide)) hi3386 rfl ?_
    refine nm_M (e := (up2 (up2 I 436 42 ((I 436 42) + 1)) 454 (((up2 I 436 42 ((I 436 42) + 1)) 436 41).toNatClampNeg) p1)) (fun I3387 hI3387 => ?_)
    replace h := h I3387 hI3387
    refine v_aload_n (pc' := 36) 20 0 rfl rfl rfl rfl ?_
    refine v_dup (pc' := 37) 21 rfl rfl rfl ?_
    refine v_getI (pc' := 40) 22 rfl rfl pf_X9_429 ly_436 (lay_lt ly_436 (by decide)) ?_
    refine v_iconst (v := 1) (pc' := 41) 23 rfl rfl (by decide) ?_
    refine v_iadd (pc' := 42) 24 rfl rfl ?_
    refine v_putI (pc' := 45) 25 rfl rfl pf_X9_429 (fun q => absurd q (by decide)) ly_436 (lay_lt ly_436 (by decide)) ?_
    refine v_aload_n (pc' := 46) 26 0 rfl rfl rfl rfl ?_
    refine v_cV (Y2 := Y_X9_next) (As := []) (b := 436) (pc' := 49) (c1 := 0) (s1 := 0) 27 rfl rfl mf_X9_next rfl rfl ml_X9_215 mi_X9_next se_X9_next (ci := 8) rfl ly_436 (lay_lt ly_436 (by decide)) rfl (Nat.le_of_ble_eq_true rfl) ⟨Nat.le_of_ble_eq_true rfl, Nat.le_of_ble_eq_true rfl⟩ rfl rfl (ok_X9_next (up2 I3387 436 41 ((I3387 436 41) + 1)) L h) ?_ ?_
    · intro e9 u9 hx9
      exact hx9.elim
    intro v9 u9 hv9
    obtain ⟨I3388, L3389, rfl, rfl, h⟩ := hv9
    refine ⟨fun q => absurd q (Nat.lt_irrefl _), ?_⟩
    show V G Y_X9_goesIn 49 _ _ _ _ _ _ _
    refine v_iconst (v := 1) (pc' := 50) 28 rfl rfl (by decide) ?_
    exact v_bret 29 rfl rfl (by decide) (by decide) (by decide) ⟨_, _, _, rfl, rfl, h⟩
  replace h := h.2 hc
  refine v_aload_n (pc' := 10) 4 0 rfl rfl rfl rfl ?_
  refine v_iconst (v := 3) (pc' := 11) 5 rfl rfl (by decide) ?_
  refine v_cV (Y2 := Y_X9_faults) (As := [.int 3]) (b := 436) (pc' := 14) (c1 := 0) (s1 := 0) 6 rfl rfl mf_X9_faults rfl rfl ml_X9_229 mi_X9_faults se_X9_faults (ci := 8) rfl ly_436 (lay_lt ly_436 (by decide)) rfl (Nat.le_of_ble_eq_true rfl) ⟨Nat.le_of_ble_eq_true rfl, Nat.le_of_ble_eq_true rfl⟩ rfl rfl (ok_X9_faults (3 : Int32) I L h) ?_ ?_
  · intro e9 u9 hx9
    exact hx9.elim
  intro v9 u9 hv9
  obtain ⟨r3390, I3391, rfl, rfl, h⟩ := hv9
  refine ⟨fun q => absurd q (Nat.lt_irrefl _), ?_⟩
  show V G Y_X9_goesIn 14 _ (.int r3390 :: _) _ _ _ _ _
  obtain ⟨hz3392, h⟩ := h
  exact v_bret 7 rfl rfl hz3392 (by decide) (by decide) ⟨_, _, _, rfl, rfl, h⟩
set_option maxHeartbeats 4000000 in
set_option maxRecDepth 100000 in
theorem ok_X9_strength {G : GT} {b d t : Nat} (p0 : Int32) (I : TI) (L : TL)  {Q : Int32 → Prop} (h : W_X9_strength p0 I L Q) : MW G Y_X9_strength [.int p0] (I, L, RT b d t, 457) (fun v9 u9 => ∃ (r9 : Int32), v9 = some (.int r9) ∧ u9 = (I, L, RT b d t, 457) ∧ Q r9) (fun _ _ => False) := by
  unfold W_X9_strength at h
  refine MW.intro rfl (by decide) is_X9_strength (Nat.le_of_ble_eq_true rfl) ?_
  show V G Y_X9_strength 0 [(0, .int p0)] [] (I, L, RT b d t, 457) 0 0 _ _
  refine v_iload_n (pc' := 1) 0 0 rfl rfl rfl rfl ?_
  refine v_bipush (v := 25) (pc' := 3) 1 rfl rfl (by decide) ?_
  refine v_icmp_ne (tgt := 10) (pc' := 6) 2 rfl rfl (by decide) (fun hc => ?_) (fun hc => ?_)
  · replace h := h.1 hc
    refine v_iload_n (pc' := 11) 5 0 rfl rfl rfl rfl ?_
    refine v_bipush (v := 24) (pc' := 13) 6 rfl rfl (by decide) ?_
    refine v_icmp_ne (tgt := 20) (pc' := 16) 7 rfl rfl (by decide) (fun hc => ?_) (fun hc => ?_)
    · replace h := h.1 hc
      refine v_iload_n (pc' := 21) 10 0 rfl rfl rfl rfl ?_
      refine v_bipush (v := 23) (pc' := 23) 11 rfl rfl (by decide) ?_
      refine v_icmp_ne (tgt := 30) (pc' := 26) 12 rfl rfl (by decide) (fun hc => ?_) (fun hc => ?_)
      · replace h := h.1 hc
        refine v_iconst (v := 0) (pc' := 31) 15 rfl rfl (by decide) ?_
        exact v_iret 16 rfl rfl (by decide) (by decide) ⟨_, rfl, rfl, h⟩
      replace h := h.2 hc
      refine v_iconst (v := 3) (pc' := 27) 13 rfl rfl (by decide) ?_
      refine v_goto (tgt := 31) 14 rfl (by decide) ?_
      exact v_iret 16 rfl rfl (by decide) (by decide) ⟨_, rfl, rfl, h⟩
    replace h := h.2 hc
    refine v_iconst (v := 2) (pc' := 17) 8 rfl rfl (by decide) ?_
    refine v_goto (tgt := 31) 9 rfl (by decide) ?_
    exact v_iret 16 rfl rfl (by decide) (by decide) ⟨_, rfl, rfl, h⟩
  replace h := h.2 hc
  refine v_iconst (v := 1) (pc' := 7) 3 rfl rfl (by decide) ?_
  refine v_goto (tgt := 31) 4 rfl (by decide) ?_
  exact v_iret 16 rfl rfl (by decide) (by decide) ⟨_, rfl, rfl, h⟩
set_option maxHeartbeats 4000000 in
set_option maxRecDepth 100000 in
theorem d_X9_settles_0 {G : GT} {b d t : Nat} (v1 : Int32) (L : TL)  (Q : TI → Prop) (R0 : TI → Prop)  (hR0 : ∀ (I : TI), R0 I → V G Y_X9_settles 0 [(0, .ref 436), (1, .int v1)] [] (I, L, RT b d t, 457) 0 0 (fun v9 u9 => ∃ (I9 : TI), v9 = none ∧ u9 = (I9, L, RT b d t, 457) ∧ Q I9) (fun _ _ => False)) (I : TI)  (h : D_X9_settles_0 v1 L Q R0 I) : V G Y_X9_settles 0 [(0, .ref 436), (1, .int v1)] [] (I, L, RT b d t, 457) 0 0 (fun v9 u9 => ∃ (I9 : TI), v9 = none ∧ u9 = (I9, L, RT b d t, 457) ∧ Q I9) (fun _ _ => False) := by
  unfold D_X9_settles_0 at h
  refine v_aload_n (pc' := 1) 0 0 rfl rfl rfl rfl ?_
  refine v_cV (Y2 := Y_X9_isGood) (As := []) (b := 436) (pc' := 4) (c1 := 0) (s1 := 0) 1 rfl rfl mf_X9_isGood rfl rfl ml_X9_218 mi_X9_isGood se_X9_isGood (ci := 8) rfl ly_436 (lay_lt ly_436 (by decide)) rfl (Nat.le_of_ble_eq_true rfl) ⟨Nat.le_of_ble_eq_true rfl, Nat.le_of_ble_eq_true rfl⟩ rfl rfl (ok_X9_isGood I L h) ?_ ?_
  · intro e9 u9 hx9
    exact hx9.elim
  intro v9 u9 hv9
  obtain ⟨r3399, rfl, rfl, h⟩ := hv9
  refine ⟨fun q => absurd q (Nat.lt_irrefl _), ?_⟩
  show V G Y_X9_settles 4 _ (.int r3399 :: _) _ _ _ _ _
  refine v_if_eq (tgt := 82) (pc' := 7) 2 rfl rfl (by decide) (fun hc => ?_) (fun hc => ?_)
  · replace h := h.1 hc
    exact v_vret 43 rfl rfl (by decide) (by decide) ⟨_, rfl, rfl, h⟩
  replace h := h.2 hc
  refine v_aload_n (pc' := 8) 3 0 rfl rfl rfl rfl ?_
  refine v_getI (pc' := 11) 4 rfl rfl pf_X9_429 ly_436 (lay_lt ly_436 (by decide)) ?_
  refine v_if_le (tgt := 82) (pc' := 14) 5 rfl rfl (by decide) (fun hc => ?_) (fun hc => ?_)
  · replace h := h.1 hc
    exact v_vret 43 rfl rfl (by decide) (by decide) ⟨_, rfl, rfl, h⟩
  replace h := h.2 hc
  refine v_aload_n (pc' := 15) 6 0 rfl rfl rfl rfl ?_
  refine v_getR (t := 454) (pc' := 18) 7 rfl rfl pf_X9_67 ly_436 (lay_lt ly_436 (by decide)) rt_436_38 ?_
  refine v_aload_n (pc' := 19) 8 0 rfl rfl rfl rfl ?_
  refine v_getI (pc' := 22) 9 rfl rfl pf_X9_429 ly_436 (lay_lt ly_436 (by decide)) ?_
  refine v_iconst (v := 1) (pc' := 23) 10 rfl rfl (by decide) ?_
  refine v_isub (pc' := 24) 11 rfl rfl ?_
  obtain ⟨hi3400, h⟩ := h
  refine v_iald (i := ((I 436 41) - 1)) (j := ((I 436 41) - 1).toNatClampNeg) (pc' := 25) 12 rfl rfl ly_454 ln_454 (lay_lt ly_454 (by decide)) hi3400 rfl ?_
  refine v_cS (Y2 := Y_X9_strength) (As := [.int (I 454 (((I 436 41) - 1).toNatClampNeg))]) (pc' := 28) (c1 := 0) (s1 := 0) 13 rfl rfl mf_X9_strength rfl rfl ml_X9_432 ms_X9_strength rfl (Nat.le_of_ble_eq_true rfl) ⟨Nat.le_of_ble_eq_true rfl, Nat.le_of_ble_eq_true rfl⟩ rfl rfl (ok_X9_strength (I 454 (((I 436 41) - 1).toNatClampNeg)) I L h) ?_ ?_
  · intro e9 u9 hx9
    exact hx9.elim
  intro v9 u9 hv9
  obtain ⟨r3401, rfl, rfl, h⟩ := hv9
  refine ⟨fun q => absurd q (Nat.lt_irrefl _), ?_⟩
  show V G Y_X9_settles 28 _ (.int r3401 :: _) _ _ _ _ _
  refine v_iload_n (pc' := 29) 14 1 rfl rfl rfl rfl ?_
  refine v_icmp_lt (tgt := 82) (pc' := 32) 15 rfl rfl (by decide) (fun hc => ?_) (fun hc => ?_)
  · replace h := h.1 hc
    exact v_vret 43 rfl rfl (by decide) (by decide) ⟨_, rfl, rfl, h⟩
  replace h := h.2 hc
  refine v_aload_n (pc' := 33) 16 0 rfl rfl rfl rfl ?_
  refine v_dup (pc' := 34) 17 rfl rfl rfl ?_
  refine v_getI (pc' := 37) 18 rfl rfl pf_X9_429 ly_436 (lay_lt ly_436 (by decide)) ?_
  refine v_iconst (v := 1) (pc' := 38) 19 rfl rfl (by decide) ?_
  refine v_isub (pc' := 39) 20 rfl rfl ?_
  refine v_putI (pc' := 42) 21 rfl rfl pf_X9_429 (fun q => absurd q (by decide)) ly_436 (lay_lt ly_436 (by decide)) ?_
  refine v_aload_n (pc' := 43) 22 0 rfl rfl rfl rfl ?_
  refine v_aload_n (pc' := 44) 23 0 rfl rfl rfl rfl ?_
  refine v_getR (t := 454) (pc' := 47) 24 rfl rfl pf_X9_67 ly_436 (lay_lt ly_436 (by decide)) rt_436_38 ?_
  refine v_aload_n (pc' := 48) 25 0 rfl rfl rfl rfl ?_
  refine v_getI (pc' := 51) 26 rfl rfl pf_X9_429 ly_436 (lay_lt ly_436 (by decide)) ?_
  obtain ⟨hi3402, h⟩ := h
  refine v_iald (i := ((up2 I 436 41 ((I 436 41) - 1)) 436 41)) (j := ((up2 I 436 41 ((I 436 41) - 1)) 436 41).toNatClampNeg) (pc' := 52) 27 rfl rfl ly_454 ln_454 (lay_lt ly_454 (by decide)) hi3402 rfl ?_
  refine v_cV (Y2 := Y_X9_adds) (As := [.int ((up2 I 436 41 ((I 436 41) - 1)) 454 (((up2 I 436 41 ((I 436 41) - 1)) 436 41).toNatClampNeg))]) (b := 436) (pc' := 55) (c1 := 0) (s1 := 0) 28 rfl rfl mf_X9_adds rfl rfl ml_X9_420 mi_X9_adds se_X9_adds (ci := 8) rfl ly_436 (lay_lt ly_436 (by decide)) rfl (Nat.le_of_ble_eq_true rfl) ⟨Nat.le_of_ble_eq_true rfl, Nat.le_of_ble_eq_true rfl⟩ rfl rfl (ok_X9_adds ((up2 I 436 41 ((I 436 41) - 1)) 454 (((up2 I 436 41 ((I 436 41) - 1)) 436 41).toNatClampNeg)) (up2 I 436 41 ((I 436 41) - 1)) L h) ?_ ?_
  · intro e9 u9 hx9
    exact hx9.elim
  intro v9 u9 hv9
  obtain ⟨I3403, rfl, rfl, h⟩ := hv9
  refine ⟨fun q => absurd q (Nat.lt_irrefl _), ?_⟩
  show V G Y_X9_settles 55 _ _ _ _ _ _ _
  refine v_aload_n (pc' := 56) 29 0 rfl rfl rfl rfl ?_
  refine v_getR (t := 454) (pc' := 59) 30 rfl rfl pf_X9_67 ly_436 (lay_lt ly_436 (by decide)) rt_436_38 ?_
  refine v_aload_n (pc' := 60) 31 0 rfl rfl rfl rfl ?_
  refine v_getI (pc' := 63) 32 rfl rfl pf_X9_429 ly_436 (lay_lt ly_436 (by decide)) ?_
  obtain ⟨hi3404, h⟩ := h
  refine v_iald (i := (I3403 436 41)) (j := (I3403 436 41).toNatClampNeg) (pc' := 64) 33 rfl rfl ly_454 ln_454 (lay_lt ly_454 (by decide)) hi3404 rfl ?_
  refine v_bipush (v := 23) (pc' := 66) 34 rfl rfl (by decide) ?_
  refine v_icmp_ne (tgt := 0) (pc' := 69) 35 rfl rfl (by decide) (fun hc => ?_) (fun hc => ?_)
  · replace h := h.1 hc
    exact hR0 I3403 h
  replace h := h.2 hc
  refine v_aload_n (pc' := 70) 36 0 rfl rfl rfl rfl ?_
  refine v_dup (pc' := 71) 37 rfl rfl rfl ?_
  refine v_getI (pc' := 74) 38 rfl rfl pf_X9_426 ly_436 (lay_lt ly_436 (by decide)) ?_
  refine v_iconst (v := 1) (pc' := 75) 39 rfl rfl (by decide) ?_
  refine v_isub (pc' := 76) 40 rfl rfl ?_
  refine v_putI (pc' := 79) 41 rfl rfl pf_X9_426 (fun q => absurd q (by decide)) ly_436 (lay_lt ly_436 (by decide)) ?_
  refine v_goto (tgt := 0) 42 rfl (by decide) ?_
  exact hR0 (up2 I3403 436 42 ((I3403 436 42) - 1)) h
theorem l_X9_settles_0 {G : GT} {b d t : Nat} (v1 : Int32) (L : TL)  (Q : TI → Prop)  : ∀ (n9 : Nat) (I : TI), L_X9_settles_0 v1 L Q n9 I → V G Y_X9_settles 0 [(0, .ref 436), (1, .int v1)] [] (I, L, RT b d t, 457) 0 0 (fun v9 u9 => ∃ (I9 : TI), v9 = none ∧ u9 = (I9, L, RT b d t, 457) ∧ Q I9) (fun _ _ => False)
  | 0, _, h => h.elim
  | n9 + 1, I, h => d_X9_settles_0 v1 L Q _ (l_X9_settles_0 v1 L Q n9) I h
set_option maxHeartbeats 4000000 in
set_option maxRecDepth 100000 in
theorem ok_X9_settles {G : GT} {b d t : Nat} (p1 : Int32) (I : TI) (L : TL)  {Q : TI → Prop} (h : W_X9_settles p1 I L Q) : MW G Y_X9_settles [.ref 436, .int p1] (I, L, RT b d t, 457) (fun v9 u9 => ∃ (I9 : TI), v9 = none ∧ u9 = (I9, L, RT b d t, 457) ∧ Q I9) (fun _ _ => False) := by
  unfold W_X9_settles at h
  refine MW.intro rfl (by decide) is_X9_settles (Nat.le_of_ble_eq_true rfl) ?_
  show V G Y_X9_settles 0 [(0, .ref 436), (1, .int p1)] [] (I, L, RT b d t, 457) 0 0 _ _
  obtain ⟨n3405, h⟩ := h
  exact l_X9_settles_0 p1 L Q n3405 I h
set_option maxHeartbeats 4000000 in
set_option maxRecDepth 100000 in
theorem d_X9_isInside_2 {G : GT} {b d t : Nat} (I : TI) (L : TL)  (Q : Int32 → Prop) (R2 : Int32 → Prop)  (hR2 : ∀ (v1 : Int32), R2 v1 → V G Y_X9_isInside 2 [(0, .ref 436), (1, .int v1)] [] (I, L, RT b d t, 457) 0 0 (fun v9 u9 => ∃ (r9 : Int32), v9 = some (.int r9) ∧ u9 = (I, L, RT b d t, 457) ∧ Q r9) (fun _ _ => False)) (v1 : Int32)  (h : D_X9_isInside_2 I L Q R2 v1) : V G Y_X9_isInside 2 [(0, .ref 436), (1, .int v1)] [] (I, L, RT b d t, 457) 0 0 (fun v9 u9 => ∃ (r9 : Int32), v9 = some (.int r9) ∧ u9 = (I, L, RT b d t, 457) ∧ Q r9) (fun _ _ => False) := by
  unfold D_X9_isInside_2 at h
  refine v_iload_n (pc' := 3) 2 1 rfl rfl rfl rfl ?_
  refine v_aload_n (pc' := 4) 3 0 rfl rfl rfl rfl ?_
  refine v_getI (pc' := 7) 4 rfl rfl pf_X9_429 ly_436 (lay_lt ly_436 (by decide)) ?_
  refine v_icmp_ge (tgt := 28) (pc' := 10) 5 rfl rfl (by decide) (fun hc => ?_) (fun hc => ?_)
  · replace h := h.1 hc
    refine v_iconst (v := 0) (pc' := 29) 16 rfl rfl (by decide) ?_
    exact v_bret 17 rfl rfl (by decide) (by decide) (by decide) ⟨_, rfl, rfl, h⟩
  replace h := h.2 hc
  refine v_aload_n (pc' := 11) 6 0 rfl rfl rfl rfl ?_
  refine v_getR (t := 454) (pc' := 14) 7 rfl rfl pf_X9_67 ly_436 (lay_lt ly_436 (by decide)) rt_436_38 ?_
  refine v_iload_n (pc' := 15) 8 1 rfl rfl rfl rfl ?_
  obtain ⟨hi3408, h⟩ := h
  refine v_iald (i := v1) (j := v1.toNatClampNeg) (pc' := 16) 9 rfl rfl ly_454 ln_454 (lay_lt ly_454 (by decide)) hi3408 rfl ?_
  refine v_iconst (v := 1) (pc' := 17) 10 rfl rfl (by decide) ?_
  refine v_icmp_ne (tgt := 22) (pc' := 20) 11 rfl rfl (by decide) (fun hc => ?_) (fun hc => ?_)
  · replace h := h.1 hc
    refine v_iinc (v := (v1 + 1)) (ls' := [(1, .int (v1 + 1)), (0, .ref 436)]) (pc' := 25) 14 1 rfl rfl rfl rfl (by decide) rfl ?_
    refine v_goto (tgt := 2) 15 rfl (by decide) ?_
    refine V.sub [1, 0] rfl ?_
    exact hR2 (v1 + 1) h
  replace h := h.2 hc
  refine v_iconst (v := 1) (pc' := 21) 12 rfl rfl (by decide) ?_
  exact v_bret 13 rfl rfl (by decide) (by decide) (by decide) ⟨_, rfl, rfl, h⟩
theorem l_X9_isInside_2 {G : GT} {b d t : Nat} (I : TI) (L : TL)  (Q : Int32 → Prop)  : ∀ (n9 : Nat) (v1 : Int32), L_X9_isInside_2 I L Q n9 v1 → V G Y_X9_isInside 2 [(0, .ref 436), (1, .int v1)] [] (I, L, RT b d t, 457) 0 0 (fun v9 u9 => ∃ (r9 : Int32), v9 = some (.int r9) ∧ u9 = (I, L, RT b d t, 457) ∧ Q r9) (fun _ _ => False)
  | 0, _, h => h.elim
  | n9 + 1, v1, h => d_X9_isInside_2 I L Q _ (l_X9_isInside_2 I L Q n9) v1 h
set_option maxHeartbeats 4000000 in
set_option maxRecDepth 100000 in
theorem ok_X9_isInside {G : GT} {b d t : Nat} (I : TI) (L : TL)  {Q : Int32 → Prop} (h : W_X9_isInside I L Q) : MW G Y_X9_isInside [.ref 436] (I, L, RT b d t, 457) (fun v9 u9 => ∃ (r9 : Int32), v9 = some (.int r9) ∧ u9 = (I, L, RT b d t, 457) ∧ Q r9) (fun _ _ => False) := by
  unfold W_X9_isInside at h
  refine MW.intro rfl (by decide) is_X9_isInside (Nat.le_of_ble_eq_true rfl) ?_
  show V G Y_X9_isInside 0 [(0, .ref 436)] [] (I, L, RT b d t, 457) 0 0 _ _
  refine v_iconst (v := 0) (pc' := 1) 0 rfl rfl (by decide) ?_
  refine v_istore_n (ls' := [(1, .int 0), (0, .ref 436)]) (pc' := 2) 1 rfl rfl rfl (by decide) rfl ?_
  refine V.sub [1, 0] rfl ?_
  obtain ⟨n3409, h⟩ := h
  exact l_X9_isInside_2 I L Q n3409 (0 : Int32) h
set_option maxHeartbeats 4000000 in
set_option maxRecDepth 100000 in
theorem b_X9_comparisonRead_99 {G : GT} {b d t : Nat} (v1 : Int32) (I : TI) (L : TL)  (Q : TI → TL → Prop)  (h : B_X9_comparisonRead_99 v1 I L Q) : V G Y_X9_comparisonRead 99 [(0, .ref 436), (1, .int v1)] [] (I, L, RT b d t, 457) 0 0 (fun v9 u9 => ∃ (I9 : TI) (L9 : TL), v9 = none ∧ u9 = (I9, L9, RT b d t, 457) ∧ Q I9 L9) (fun _ _ => False) := by
  unfold B_X9_comparisonRead_99 at h
  refine v_aload_n (pc' := 100) 46 0 rfl rfl rfl rfl ?_
  refine v_cV (Y2 := Y_X9_isGood) (As := []) (b := 436) (pc' := 103) (c1 := 0) (s1 := 0) 47 rfl rfl mf_X9_isGood rfl rfl ml_X9_218 mi_X9_isGood se_X9_isGood (ci := 8) rfl ly_436 (lay_lt ly_436 (by decide)) rfl (Nat.le_of_ble_eq_true rfl) ⟨Nat.le_of_ble_eq_true rfl, Nat.le_of_ble_eq_true rfl⟩ rfl rfl (ok_X9_isGood I L h) ?_ ?_
  · intro e9 u9 hx9
    exact hx9.elim
  intro v9 u9 hv9
  obtain ⟨r3446, rfl, rfl, h⟩ := hv9
  refine ⟨fun q => absurd q (Nat.lt_irrefl _), ?_⟩
  show V G Y_X9_comparisonRead 103 _ (.int r3446 :: _) _ _ _ _ _
  refine v_if_ne (tgt := 107) (pc' := 106) 48 rfl rfl (by decide) (fun hc => ?_) (fun hc => ?_)
  · replace h := h.1 hc
    refine v_aload_n (pc' := 108) 50 0 rfl rfl rfl rfl ?_
    refine v_cV (Y2 := Y_X9_next) (As := []) (b := 436) (pc' := 111) (c1 := 0) (s1 := 0) 51 rfl rfl mf_X9_next rfl rfl ml_X9_215 mi_X9_next se_X9_next (ci := 8) rfl ly_436 (lay_lt ly_436 (by decide)) rfl (Nat.le_of_ble_eq_true rfl) ⟨Nat.le_of_ble_eq_true rfl, Nat.le_of_ble_eq_true rfl⟩ rfl rfl (ok_X9_next I L h) ?_ ?_
    · intro e9 u9 hx9
      exact hx9.elim
    intro v9 u9 hv9
    obtain ⟨I3447, L3448, rfl, rfl, h⟩ := hv9
    refine ⟨fun q => absurd q (Nat.lt_irrefl _), ?_⟩
    show V G Y_X9_comparisonRead 111 _ _ _ _ _ _ _
    refine v_aload_n (pc' := 112) 52 0 rfl rfl rfl rfl ?_
    refine v_cV (Y2 := Y_X9_valueRead) (As := []) (b := 436) (pc' := 115) (c1 := 0) (s1 := 0) 53 rfl rfl mf_X9_valueRead rfl rfl ml_X9_438 mi_X9_valueRead se_X9_valueRead (ci := 8) rfl ly_436 (lay_lt ly_436 (by decide)) rfl (Nat.le_of_ble_eq_true rfl) ⟨Nat.le_of_ble_eq_true rfl, Nat.le_of_ble_eq_true rfl⟩ rfl rfl (ok_X9_valueRead I3447 L3448 h) ?_ ?_
    · intro e9 u9 hx9
      exact hx9.elim
    intro v9 u9 hv9
    obtain ⟨I3449, L3450, rfl, rfl, h⟩ := hv9
    refine ⟨fun q => absurd q (Nat.lt_irrefl _), ?_⟩
    show V G Y_X9_comparisonRead 115 _ _ _ _ _ _ _
    refine v_aload_n (pc' := 116) 54 0 rfl rfl rfl rfl ?_
    refine v_cV (Y2 := Y_X9_isGood) (As := []) (b := 436) (pc' := 119) (c1 := 0) (s1 := 0) 55 rfl rfl mf_X9_isGood rfl rfl ml_X9_218 mi_X9_isGood se_X9_isGood (ci := 8) rfl ly_436 (lay_lt ly_436 (by decide)) rfl (Nat.le_of_ble_eq_true rfl) ⟨Nat.le_of_ble_eq_true rfl, Nat.le_of_ble_eq_true rfl⟩ rfl rfl (ok_X9_isGood I3449 L3450 h) ?_ ?_
    · intro e9 u9 hx9
      exact hx9.elim
    intro v9 u9 hv9
    obtain ⟨r3451, rfl, rfl, h⟩ := hv9
    refine ⟨fun q => absurd q (Nat.lt_irrefl _), ?_⟩
    show V G Y_X9_comparisonRead 119 _ (.int r3451 :: _) _ _ _ _ _
    refine v_if_eq (tgt := 127) (pc' := 122) 56 rfl rfl (by decide) (fun hc => ?_) (fun hc => ?_)
    · replace h := h.1 hc
      exact v_vret 60 rfl rfl (by decide) (by decide) ⟨_, _, rfl, rfl, h⟩
    replace h := h.2 hc
    refine v_aload_n (pc' := 123) 57 0 rfl rfl rfl rfl ?_
    refine v_iload_n (pc' := 124) 58 1 rfl rfl rfl rfl ?_
    refine v_cV (Y2 := Y_X9_adds) (As := [.int v1]) (b := 436) (pc' := 127) (c1 := 0) (s1 := 0) 59 rfl rfl mf_X9_adds rfl rfl ml_X9_420 mi_X9_adds se_X9_adds (ci := 8) rfl ly_436 (lay_lt ly_436 (by decide)) rfl (Nat.le_of_ble_eq_true rfl) ⟨Nat.le_of_ble_eq_true rfl, Nat.le_of_ble_eq_true rfl⟩ rfl rfl (ok_X9_adds v1 I3449 L3450 h) ?_ ?_
    · intro e9 u9 hx9
      exact hx9.elim
    intro v9 u9 hv9
    obtain ⟨I3452, rfl, rfl, h⟩ := hv9
    refine ⟨fun q => absurd q (Nat.lt_irrefl _), ?_⟩
    show V G Y_X9_comparisonRead 127 _ _ _ _ _ _ _
    exact v_vret 60 rfl rfl (by decide) (by decide) ⟨_, _, rfl, rfl, h⟩
  replace h := h.2 hc
  exact v_vret 49 rfl rfl (by decide) (by decide) ⟨_, _, rfl, rfl, h⟩
set_option maxHeartbeats 4000000 in
set_option maxRecDepth 100000 in
theorem b_X9_comparisonRead_77 {G : GT} {b d t : Nat} (s0 : Int32) (I : TI) (L : TL)  (Q : TI → TL → Prop)  (h : B_X9_comparisonRead_77 s0 I L Q) : V G Y_X9_comparisonRead 77 [(0, .ref 436)] [.int s0] (I, L, RT b d t, 457) 0 0 (fun v9 u9 => ∃ (I9 : TI) (L9 : TL), v9 = none ∧ u9 = (I9, L9, RT b d t, 457) ∧ Q I9 L9) (fun _ _ => False) := by
  unfold B_X9_comparisonRead_77 at h
  refine v_istore_n (ls' := [(1, .int s0), (0, .ref 436)]) (pc' := 78) 34 rfl rfl rfl (by decide) rfl ?_
  refine v_iload_n (pc' := 79) 35 0 rfl rfl rfl rfl ?_
  refine v_bipush (v := 21) (pc' := 81) 36 rfl rfl (by decide) ?_
  refine v_icmp_ne (tgt := 99) (pc' := 84) 37 rfl rfl (by decide) (fun hc => ?_) (fun hc => ?_)
  · replace h := h.1 hc
    refine V.sub [1, 0] rfl ?_
    exact b_X9_comparisonRead_99 s0 I L Q h
  replace h := h.2 hc
  refine v_aload_n (pc' := 85) 38 1 rfl rfl rfl rfl ?_
  refine v_bipush (v := 61) (pc' := 87) 39 rfl rfl (by decide) ?_
  refine v_cV (Y2 := Y_X9_isByte) (As := [.int 61]) (b := 436) (pc' := 90) (c1 := 0) (s1 := 0) 40 rfl rfl mf_X9_isByte rfl rfl ml_X9_226 mi_X9_isByte se_X9_isByte (ci := 8) rfl ly_436 (lay_lt ly_436 (by decide)) rfl (Nat.le_of_ble_eq_true rfl) ⟨Nat.le_of_ble_eq_true rfl, Nat.le_of_ble_eq_true rfl⟩ rfl rfl (ok_X9_isByte (61 : Int32) I L h) ?_ ?_
  · intro e9 u9 hx9
    exact hx9.elim
  intro v9 u9 hv9
  obtain ⟨r3453, rfl, rfl, h⟩ := hv9
  refine ⟨fun q => absurd q (Nat.lt_irrefl _), ?_⟩
  show V G Y_X9_comparisonRead 90 _ (.int r3453 :: _) _ _ _ _ _
  refine v_if_ne (tgt := 99) (pc' := 93) 41 rfl rfl (by decide) (fun hc => ?_) (fun hc => ?_)
  · replace h := h.1 hc
    refine V.sub [1, 0] rfl ?_
    exact b_X9_comparisonRead_99 s0 I L Q h
  replace h := h.2 hc
  refine v_aload_n (pc' := 94) 42 1 rfl rfl rfl rfl ?_
  refine v_iconst (v := 1) (pc' := 95) 43 rfl rfl (by decide) ?_
  refine v_cV (Y2 := Y_X9_faults) (As := [.int 1]) (b := 436) (pc' := 98) (c1 := 0) (s1 := 0) 44 rfl rfl mf_X9_faults rfl rfl ml_X9_229 mi_X9_faults se_X9_faults (ci := 8) rfl ly_436 (lay_lt ly_436 (by decide)) rfl (Nat.le_of_ble_eq_true rfl) ⟨Nat.le_of_ble_eq_true rfl, Nat.le_of_ble_eq_true rfl⟩ rfl rfl (ok_X9_faults (1 : Int32) I L h) ?_ ?_
  · intro e9 u9 hx9
    exact hx9.elim
  intro v9 u9 hv9
  obtain ⟨r3454, I3455, rfl, rfl, h⟩ := hv9
  refine ⟨fun q => absurd q (Nat.lt_irrefl _), ?_⟩
  show V G Y_X9_comparisonRead 98 _ (.int r3454 :: _) _ _ _ _ _
  refine v_pop (pc' := 99) 45 rfl rfl rfl ?_
  refine V.sub [1, 0] rfl ?_
  exact b_X9_comparisonRead_99 s0 I3455 L Q h
set_option maxHeartbeats 4000000 in
set_option maxRecDepth 100000 in
theorem b_X9_comparisonRead_36 {G : GT} {b d t : Nat} (s1 : Int32) (I : TI) (L : TL)  (Q : TI → TL → Prop) (R0 : TI → TL → Prop) (hR0 : ∀ (I : TI) (L : TL), R0 I L → V G Y_X9_comparisonRead 0 [(0, .ref 436)] [] (I, L, RT b d t, 457) 0 0 (fun v9 u9 => ∃ (I9 : TI) (L9 : TL), v9 = none ∧ u9 = (I9, L9, RT b d t, 457) ∧ Q I9 L9) (fun _ _ => False)) (h : B_X9_comparisonRead_36 s1 I L Q R0) : V G Y_X9_comparisonRead 36 [(0, .ref 436)] [.int s1, .ref 436] (I, L, RT b d t, 457) 0 0 (fun v9 u9 => ∃ (I9 : TI) (L9 : TL), v9 = none ∧ u9 = (I9, L9, RT b d t, 457) ∧ Q I9 L9) (fun _ _ => False) := by
  unfold B_X9_comparisonRead_36 at h
  refine v_cV (Y2 := Y_X9_goesIn) (As := [.int s1]) (b := 436) (pc' := 39) (c1 := 0) (s1 := 0) 16 rfl rfl mf_X9_goesIn rfl rfl ml_X9_435 mi_X9_goesIn se_X9_goesIn (ci := 8) rfl ly_436 (lay_lt ly_436 (by decide)) rfl (Nat.le_of_ble_eq_true rfl) ⟨Nat.le_of_ble_eq_true rfl, Nat.le_of_ble_eq_true rfl⟩ rfl rfl (ok_X9_goesIn s1 I L h) ?_ ?_
  · intro e9 u9 hx9
    exact hx9.elim
  intro v9 u9 hv9
  obtain ⟨r3456, I3457, L3458, rfl, rfl, h⟩ := hv9
  refine ⟨fun q => absurd q (Nat.lt_irrefl _), ?_⟩
  show V G Y_X9_comparisonRead 39 _ (.int r3456 :: _) _ _ _ _ _
  refine v_if_ne (tgt := 0) (pc' := 42) 17 rfl rfl (by decide) (fun hc => ?_) (fun hc => ?_)
  · replace h := h.1 hc
    exact hR0 I3457 L3458 h
  replace h := h.2 hc
  exact v_vret 18 rfl rfl (by decide) (by decide) ⟨_, _, rfl, rfl, h⟩
set_option maxHeartbeats 4000000 in
set_option maxRecDepth 100000 in
theorem b_X9_comparisonRead_19 {G : GT} {b d t : Nat} (I : TI) (L : TL)  (Q : TI → TL → Prop) (R0 : TI → TL → Prop) (hR0 : ∀ (I : TI) (L : TL), R0 I L → V G Y_X9_comparisonRead 0 [(0, .ref 436)] [] (I, L, RT b d t, 457) 0 0 (fun v9 u9 => ∃ (I9 : TI) (L9 : TL), v9 = none ∧ u9 = (I9, L9, RT b d t, 457) ∧ Q I9 L9) (fun _ _ => False)) (h : B_X9_comparisonRead_19 I L Q R0) : V G Y_X9_comparisonRead 19 [(0, .ref 436)] [] (I, L, RT b d t, 457) 0 0 (fun v9 u9 => ∃ (I9 : TI) (L9 : TL), v9 = none ∧ u9 = (I9, L9, RT b d t, 457) ∧ Q I9 L9) (fun _ _ => False) := by
  unfold B_X9_comparisonRead_19 at h
  refine v_aload_n (pc' := 20) 8 0 rfl rfl rfl rfl ?_
  refine v_aload_n (pc' := 21) 9 0 rfl rfl rfl rfl ?_
  refine v_ldc2 (v := 10631) (pc' := 24) 10 rfl rfl kl_X9_257 ?_
  refine v_cV (Y2 := Y_X9_isWord) (As := [.long 10631]) (b := 436) (pc' := 27) (c1 := 0) (s1 := 0) 11 rfl rfl mf_X9_isWord rfl rfl ml_X9_222 mi_X9_isWord se_X9_isWord (ci := 8) rfl ly_436 (lay_lt ly_436 (by decide)) rfl (Nat.le_of_ble_eq_true rfl) ⟨Nat.le_of_ble_eq_true rfl, Nat.le_of_ble_eq_true rfl⟩ rfl rfl (ok_X9_isWord (10631 : Int64) I L h) ?_ ?_
  · intro e9 u9 hx9
    exact hx9.elim
  intro v9 u9 hv9
  obtain ⟨r3459, rfl, rfl, h⟩ := hv9
  refine ⟨fun q => absurd q (Nat.lt_irrefl _), ?_⟩
  show V G Y_X9_comparisonRead 27 _ (.int r3459 :: _) _ _ _ _ _
  refine v_if_eq (tgt := 35) (pc' := 30) 12 rfl rfl (by decide) (fun hc => ?_) (fun hc => ?_)
  · replace h := h.1 hc
    refine v_iconst (v := 1) (pc' := 36) 15 rfl rfl (by decide) ?_
    exact b_X9_comparisonRead_36 (1 : Int32) I L Q R0 hR0 h
  replace h := h.2 hc
  refine v_bipush (v := 23) (pc' := 32) 13 rfl rfl (by decide) ?_
  refine v_goto (tgt := 36) 14 rfl (by decide) ?_
  exact b_X9_comparisonRead_36 (23 : Int32) I L Q R0 hR0 h
set_option maxHeartbeats 4000000 in
set_option maxRecDepth 100000 in
theorem d_X9_comparisonRead_0 {G : GT} {b d t : Nat}  (Q : TI → TL → Prop) (R0 : TI → TL → Prop)  (hR0 : ∀ (I : TI) (L : TL), R0 I L → V G Y_X9_comparisonRead 0 [(0, .ref 436)] [] (I, L, RT b d t, 457) 0 0 (fun v9 u9 => ∃ (I9 : TI) (L9 : TL), v9 = none ∧ u9 = (I9, L9, RT b d t, 457) ∧ Q I9 L9) (fun _ _ => False)) (I : TI) (L : TL)  (h : D_X9_comparisonRead_0 Q R0 I L) : V G Y_X9_comparisonRead 0 [(0, .ref 436)] [] (I, L, RT b d t, 457) 0 0 (fun v9 u9 => ∃ (I9 : TI) (L9 : TL), v9 = none ∧ u9 = (I9, L9, RT b d t, 457) ∧ Q I9 L9) (fun _ _ => False) := by
  unfold D_X9_comparisonRead_0 at h
  refine v_aload_n (pc' := 1) 0 0 rfl rfl rfl rfl ?_
  refine v_ldc2 (v := 10631) (pc' := 4) 1 rfl rfl kl_X9_257 ?_
  refine v_cV (Y2 := Y_X9_isWord) (As := [.long 10631]) (b := 436) (pc' := 7) (c1 := 0) (s1 := 0) 2 rfl rfl mf_X9_isWord rfl rfl ml_X9_222 mi_X9_isWord se_X9_isWord (ci := 8) rfl ly_436 (lay_lt ly_436 (by decide)) rfl (Nat.le_of_ble_eq_true rfl) ⟨Nat.le_of_ble_eq_true rfl, Nat.le_of_ble_eq_true rfl⟩ rfl rfl (ok_X9_isWord (10631 : Int64) I L h) ?_ ?_
  · intro e9 u9 hx9
    exact hx9.elim
  intro v9 u9 hv9
  obtain ⟨r3460, rfl, rfl, h⟩ := hv9
  refine ⟨fun q => absurd q (Nat.lt_irrefl _), ?_⟩
  show V G Y_X9_comparisonRead 7 _ (.int r3460 :: _) _ _ _ _ _
  refine v_if_ne (tgt := 19) (pc' := 10) 3 rfl rfl (by decide) (fun hc => ?_) (fun hc => ?_)
  · replace h := h.1 hc
    exact b_X9_comparisonRead_19 I L Q R0 hR0 h
  replace h := h.2 hc
  refine v_aload_n (pc' := 11) 4 0 rfl rfl rfl rfl ?_
  refine v_bipush (v := 40) (pc' := 13) 5 rfl rfl (by decide) ?_
  refine v_cV (Y2 := Y_X9_isByte) (As := [.int 40]) (b := 436) (pc' := 16) (c1 := 0) (s1 := 0) 6 rfl rfl mf_X9_isByte rfl rfl ml_X9_226 mi_X9_isByte se_X9_isByte (ci := 8) rfl ly_436 (lay_lt ly_436 (by decide)) rfl (Nat.le_of_ble_eq_true rfl) ⟨Nat.le_of_ble_eq_true rfl, Nat.le_of_ble_eq_true rfl⟩ rfl rfl (ok_X9_isByte (40 : Int32) I L h) ?_ ?_
  · intro e9 u9 hx9
    exact hx9.elim
  intro v9 u9 hv9
  obtain ⟨r3461, rfl, rfl, h⟩ := hv9
  refine ⟨fun q => absurd q (Nat.lt_irrefl _), ?_⟩
  show V G Y_X9_comparisonRead 16 _ (.int r3461 :: _) _ _ _ _ _
  refine v_if_eq (tgt := 43) (pc' := 19) 7 rfl rfl (by decide) (fun hc => ?_) (fun hc => ?_)
  · replace h := h.1 hc
    refine v_aload_n (pc' := 44) 19 0 rfl rfl rfl rfl ?_
    refine v_cV (Y2 := Y_X9_valueRead) (As := []) (b := 436) (pc' := 47) (c1 := 0) (s1 := 0) 20 rfl rfl mf_X9_valueRead rfl rfl ml_X9_438 mi_X9_valueRead se_X9_valueRead (ci := 8) rfl ly_436 (lay_lt ly_436 (by decide)) rfl (Nat.le_of_ble_eq_true rfl) ⟨Nat.le_of_ble_eq_true rfl, Nat.le_of_ble_eq_true rfl⟩ rfl rfl (ok_X9_valueRead I L h) ?_ ?_
    · intro e9 u9 hx9
      exact hx9.elim
    intro v9 u9 hv9
    obtain ⟨I3462, L3463, rfl, rfl, h⟩ := hv9
    refine ⟨fun q => absurd q (Nat.lt_irrefl _), ?_⟩
    show V G Y_X9_comparisonRead 47 _ _ _ _ _ _ _
    refine v_aload_n (pc' := 48) 21 0 rfl rfl rfl rfl ?_
    refine v_bipush (v := 60) (pc' := 50) 22 rfl rfl (by decide) ?_
    refine v_cV (Y2 := Y_X9_isByte) (As := [.int 60]) (b := 436) (pc' := 53) (c1 := 0) (s1 := 0) 23 rfl rfl mf_X9_isByte rfl rfl ml_X9_226 mi_X9_isByte se_X9_isByte (ci := 8) rfl ly_436 (lay_lt ly_436 (by decide)) rfl (Nat.le_of_ble_eq_true rfl) ⟨Nat.le_of_ble_eq_true rfl, Nat.le_of_ble_eq_true rfl⟩ rfl rfl (ok_X9_isByte (60 : Int32) I3462 L3463 h) ?_ ?_
    · intro e9 u9 hx9
      exact hx9.elim
    intro v9 u9 hv9
    obtain ⟨r3464, rfl, rfl, h⟩ := hv9
    refine ⟨fun q => absurd q (Nat.lt_irrefl _), ?_⟩
    show V G Y_X9_comparisonRead 53 _ (.int r3464 :: _) _ _ _ _ _
    refine v_if_eq (tgt := 61) (pc' := 56) 24 rfl rfl (by decide) (fun hc => ?_) (fun hc => ?_)
    · replace h := h.1 hc
      refine v_aload_n (pc' := 62) 27 0 rfl rfl rfl rfl ?_
      refine v_bipush (v := 62) (pc' := 64) 28 rfl rfl (by decide) ?_
      refine v_cV (Y2 := Y_X9_isByte) (As := [.int 62]) (b := 436) (pc' := 67) (c1 := 0) (s1 := 0) 29 rfl rfl mf_X9_isByte rfl rfl ml_X9_226 mi_X9_isByte se_X9_isByte (ci := 8) rfl ly_436 (lay_lt ly_436 (by decide)) rfl (Nat.le_of_ble_eq_true rfl) ⟨Nat.le_of_ble_eq_true rfl, Nat.le_of_ble_eq_true rfl⟩ rfl rfl (ok_X9_isByte (62 : Int32) I3462 L3463 h) ?_ ?_
      · intro e9 u9 hx9
        exact hx9.elim
      intro v9 u9 hv9
      obtain ⟨r3465, rfl, rfl, h⟩ := hv9
      refine ⟨fun q => absurd q (Nat.lt_irrefl _), ?_⟩
      show V G Y_X9_comparisonRead 67 _ (.int r3465 :: _) _ _ _ _ _
      refine v_if_eq (tgt := 75) (pc' := 70) 30 rfl rfl (by decide) (fun hc => ?_) (fun hc => ?_)
      · replace h := h.1 hc
        refine v_bipush (v := 21) (pc' := 77) 33 rfl rfl (by decide) ?_
        exact b_X9_comparisonRead_77 (21 : Int32) I3462 L3463 Q h
      replace h := h.2 hc
      refine v_bipush (v := 22) (pc' := 72) 31 rfl rfl (by decide) ?_
      refine v_goto (tgt := 77) 32 rfl (by decide) ?_
      exact b_X9_comparisonRead_77 (22 : Int32) I3462 L3463 Q h
    replace h := h.2 hc
    refine v_bipush (v := 20) (pc' := 58) 25 rfl rfl (by decide) ?_
    refine v_goto (tgt := 77) 26 rfl (by decide) ?_
    exact b_X9_comparisonRead_77 (20 : Int32) I3462 L3463 Q h
  replace h := h.2 hc
  exact b_X9_comparisonRead_19 I L Q R0 hR0 h
theorem l_X9_comparisonRead_0 {G : GT} {b d t : Nat}  (Q : TI → TL → Prop)  : ∀ (n9 : Nat) (I : TI) (L : TL), L_X9_comparisonRead_0 Q n9 I L → V G Y_X9_comparisonRead 0 [(0, .ref 436)] [] (I, L, RT b d t, 457) 0 0 (fun v9 u9 => ∃ (I9 : TI) (L9 : TL), v9 = none ∧ u9 = (I9, L9, RT b d t, 457) ∧ Q I9 L9) (fun _ _ => False)
  | 0, _, _, h => h.elim
  | n9 + 1, I, L, h => d_X9_comparisonRead_0 Q _ (l_X9_comparisonRead_0 Q n9) I L h
set_option maxHeartbeats 4000000 in
set_option maxRecDepth 100000 in
theorem ok_X9_comparisonRead {G : GT} {b d t : Nat} (I : TI) (L : TL)  {Q : TI → TL → Prop} (h : W_X9_comparisonRead I L Q) : MW G Y_X9_comparisonRead [.ref 436] (I, L, RT b d t, 457) (fun v9 u9 => ∃ (I9 : TI) (L9 : TL), v9 = none ∧ u9 = (I9, L9, RT b d t, 457) ∧ Q I9 L9) (fun _ _ => False) := by
  unfold W_X9_comparisonRead at h
  refine MW.intro rfl (by decide) is_X9_comparisonRead (Nat.le_of_ble_eq_true rfl) ?_
  show V G Y_X9_comparisonRead 0 [(0, .ref 436)] [] (I, L, RT b d t, 457) 0 0 _ _
  obtain ⟨n3466, h⟩ := h
  exact l_X9_comparisonRead_0 Q n3466 I L h
set_option maxHeartbeats 4000000 in
set_option maxRecDepth 100000 in
theorem d_X9_closes_5 {G : GT} {b d t : Nat}  (Q : TI → TL → Prop) (R5 : TI → TL → Prop)  (hR5 : ∀ (I : TI) (L : TL), R5 I L → V G Y_X9_closes 5 [(0, .ref 436)] [] (I, L, RT b d t, 457) 0 0 (fun v9 u9 => ∃ (I9 : TI) (L9 : TL), v9 = none ∧ u9 = (I9, L9, RT b d t, 457) ∧ Q I9 L9) (fun _ _ => False)) (I : TI) (L : TL)  (h : D_X9_closes_5 Q R5 I L) : V G Y_X9_closes 5 [(0, .ref 436)] [] (I, L, RT b d t, 457) 0 0 (fun v9 u9 => ∃ (I9 : TI) (L9 : TL), v9 = none ∧ u9 = (I9, L9, RT b d t, 457) ∧ Q I9 L9) (fun _ _ => False) := by
  unfold D_X9_closes_5 at h
  refine v_aload_n (pc' := 6) 3 0 rfl rfl rfl rfl ?_
  refine v_bipush (v := 41) (pc' := 8) 4 rfl rfl (by decide) ?_
  refine v_cV (Y2 := Y_X9_isByte) (As := [.int 41]) (b := 436) (pc' := 11) (c1 := 0) (s1 := 0) 5 rfl rfl mf_X9_isByte rfl rfl ml_X9_226 mi_X9_isByte se_X9_isByte (ci := 8) rfl ly_436 (lay_lt ly_436 (by decide)) rfl (Nat.le_of_ble_eq_true rfl) ⟨Nat.le_of_ble_eq_true rfl, Nat.le_of_ble_eq_true rfl⟩ rfl rfl (ok_X9_isByte (41 : Int32) I L h) ?_ ?_
  · intro e9 u9 hx9
    exact hx9.elim
  intro v9 u9 hv9
  obtain ⟨r3481, rfl, rfl, h⟩ := hv9
  refine ⟨fun q => absurd q (Nat.lt_irrefl _), ?_⟩
  show V G Y_X9_closes 11 _ (.int r3481 :: _) _ _ _ _ _
  refine v_if_eq (tgt := 58) (pc' := 14) 6 rfl rfl (by decide) (fun hc => ?_) (fun hc => ?_)
  · replace h := h.1 hc
    exact v_vret 31 rfl rfl (by decide) (by decide) ⟨_, _, rfl, rfl, h⟩
  replace h := h.2 hc
  refine v_aload_n (pc' := 15) 7 0 rfl rfl rfl rfl ?_
  refine v_cV (Y2 := Y_X9_isInside) (As := []) (b := 436) (pc' := 18) (c1 := 0) (s1 := 0) 8 rfl rfl mf_X9_isInside rfl rfl ml_X9_444 mi_X9_isInside se_X9_isInside (ci := 8) rfl ly_436 (lay_lt ly_436 (by decide)) rfl (Nat.le_of_ble_eq_true rfl) ⟨Nat.le_of_ble_eq_true rfl, Nat.le_of_ble_eq_true rfl⟩ rfl rfl (ok_X9_isInside I L h) ?_ ?_
  · intro e9 u9 hx9
    exact hx9.elim
  intro v9 u9 hv9
  obtain ⟨r3482, rfl, rfl, h⟩ := hv9
  refine ⟨fun q => absurd q (Nat.lt_irrefl _), ?_⟩
  show V G Y_X9_closes 18 _ (.int r3482 :: _) _ _ _ _ _
  refine v_if_eq (tgt := 58) (pc' := 21) 9 rfl rfl (by decide) (fun hc => ?_) (fun hc => ?_)
  · replace h := h.1 hc
    exact v_vret 31 rfl rfl (by decide) (by decide) ⟨_, _, rfl, rfl, h⟩
  replace h := h.2 hc
  refine v_aload_n (pc' := 22) 10 0 rfl rfl rfl rfl ?_
  refine v_iconst (v := 1) (pc' := 23) 11 rfl rfl (by decide) ?_
  refine v_cV (Y2 := Y_X9_settles) (As := [.int 1]) (b := 436) (pc' := 26) (c1 := 0) (s1 := 0) 12 rfl rfl mf_X9_settles rfl rfl ml_X9_441 mi_X9_settles se_X9_settles (ci := 8) rfl ly_436 (lay_lt ly_436 (by decide)) rfl (Nat.le_of_ble_eq_true rfl) ⟨Nat.le_of_ble_eq_true rfl, Nat.le_of_ble_eq_true rfl⟩ rfl rfl (ok_X9_settles (1 : Int32) I L h) ?_ ?_
  · intro e9 u9 hx9
    exact hx9.elim
  intro v9 u9 hv9
  obtain ⟨I3483, rfl, rfl, h⟩ := hv9
  refine ⟨fun q => absurd q (Nat.lt_irrefl _), ?_⟩
  show V G Y_X9_closes 26 _ _ _ _ _ _ _
  refine v_aload_n (pc' := 27) 13 0 rfl rfl rfl rfl ?_
  refine v_dup (pc' := 28) 14 rfl rfl rfl ?_
  refine v_getI (pc' := 31) 15 rfl rfl pf_X9_429 ly_436 (lay_lt ly_436 (by decide)) ?_
  refine v_iconst (v := 1) (pc' := 32) 16 rfl rfl (by decide) ?_
  refine v_isub (pc' := 33) 17 rfl rfl ?_
  refine v_putI (pc' := 36) 18 rfl rfl pf_X9_429 (fun q => absurd q (by decide)) ly_436 (lay_lt ly_436 (by decide)) ?_
  refine v_aload_n (pc' := 37) 19 0 rfl rfl rfl rfl ?_
  refine v_dup (pc' := 38) 20 rfl rfl rfl ?_
  refine v_getI (pc' := 41) 21 rfl rfl pf_X9_426 ly_436 (lay_lt ly_436 (by decide)) ?_
  refine v_iconst (v := 1) (pc' := 42) 22 rfl rfl (by decide) ?_
  refine v_isub (pc' := 43) 23 rfl rfl ?_
  refine v_putI (pc' := 46) 24 rfl rfl pf_X9_426 (fun q => absurd q (by decide)) ly_436 (lay_lt ly_436 (by decide)) ?_
  refine nm_M (e := (up2 (up2 I3483 436 41 ((I3483 436 41) - 1)) 436 42 (((up2 I3483 436 41 ((I3483 436 41) - 1)) 436 42) - 1))) (fun I3484 hI3484 => ?_)
  replace h := h I3484 hI3484
  refine v_aload_n (pc' := 47) 25 0 rfl rfl rfl rfl ?_
  refine v_cV (Y2 := Y_X9_next) (As := []) (b := 436) (pc' := 50) (c1 := 0) (s1 := 0) 26 rfl rfl mf_X9_next rfl rfl ml_X9_215 mi_X9_next se_X9_next (ci := 8) rfl ly_436 (lay_lt ly_436 (by decide)) rfl (Nat.le_of_ble_eq_true rfl) ⟨Nat.le_of_ble_eq_true rfl, Nat.le_of_ble_eq_true rfl⟩ rfl rfl (ok_X9_next I3484 L h) ?_ ?_
  · intro e9 u9 hx9
    exact hx9.elim
  intro v9 u9 hv9
  obtain ⟨I3485, L3486, rfl, rfl, h⟩ := hv9
  refine ⟨fun q => absurd q (Nat.lt_irrefl _), ?_⟩
  show V G Y_X9_closes 50 _ _ _ _ _ _ _
  refine v_aload_n (pc' := 51) 27 0 rfl rfl rfl rfl ?_
  refine v_iconst (v := 3) (pc' := 52) 28 rfl rfl (by decide) ?_
  refine v_cV (Y2 := Y_X9_settles) (As := [.int 3]) (b := 436) (pc' := 55) (c1 := 0) (s1 := 0) 29 rfl rfl mf_X9_settles rfl rfl ml_X9_441 mi_X9_settles se_X9_settles (ci := 8) rfl ly_436 (lay_lt ly_436 (by decide)) rfl (Nat.le_of_ble_eq_true rfl) ⟨Nat.le_of_ble_eq_true rfl, Nat.le_of_ble_eq_true rfl⟩ rfl rfl (ok_X9_settles (3 : Int32) I3485 L3486 h) ?_ ?_
  · intro e9 u9 hx9
    exact hx9.elim
  intro v9 u9 hv9
  obtain ⟨I3487, rfl, rfl, h⟩ := hv9
  refine ⟨fun q => absurd q (Nat.lt_irrefl _), ?_⟩
  show V G Y_X9_closes 55 _ _ _ _ _ _ _
  refine v_goto (tgt := 5) 30 rfl (by decide) ?_
  exact hR5 I3487 L3486 h
theorem l_X9_closes_5 {G : GT} {b d t : Nat}  (Q : TI → TL → Prop)  : ∀ (n9 : Nat) (I : TI) (L : TL), L_X9_closes_5 Q n9 I L → V G Y_X9_closes 5 [(0, .ref 436)] [] (I, L, RT b d t, 457) 0 0 (fun v9 u9 => ∃ (I9 : TI) (L9 : TL), v9 = none ∧ u9 = (I9, L9, RT b d t, 457) ∧ Q I9 L9) (fun _ _ => False)
  | 0, _, _, h => h.elim
  | n9 + 1, I, L, h => d_X9_closes_5 Q _ (l_X9_closes_5 Q n9) I L h
set_option maxHeartbeats 4000000 in
set_option maxRecDepth 100000 in
theorem ok_X9_closes {G : GT} {b d t : Nat} (I : TI) (L : TL)  {Q : TI → TL → Prop} (h : W_X9_closes I L Q) : MW G Y_X9_closes [.ref 436] (I, L, RT b d t, 457) (fun v9 u9 => ∃ (I9 : TI) (L9 : TL), v9 = none ∧ u9 = (I9, L9, RT b d t, 457) ∧ Q I9 L9) (fun _ _ => False) := by
  unfold W_X9_closes at h
  refine MW.intro rfl (by decide) is_X9_closes (Nat.le_of_ble_eq_true rfl) ?_
  show V G Y_X9_closes 0 [(0, .ref 436)] [] (I, L, RT b d t, 457) 0 0 _ _
  refine v_aload_n (pc' := 1) 0 0 rfl rfl rfl rfl ?_
  refine v_iconst (v := 3) (pc' := 2) 1 rfl rfl (by decide) ?_
  refine v_cV (Y2 := Y_X9_settles) (As := [.int 3]) (b := 436) (pc' := 5) (c1 := 0) (s1 := 0) 2 rfl rfl mf_X9_settles rfl rfl ml_X9_441 mi_X9_settles se_X9_settles (ci := 8) rfl ly_436 (lay_lt ly_436 (by decide)) rfl (Nat.le_of_ble_eq_true rfl) ⟨Nat.le_of_ble_eq_true rfl, Nat.le_of_ble_eq_true rfl⟩ rfl rfl (ok_X9_settles (3 : Int32) I L h) ?_ ?_
  · intro e9 u9 hx9
    exact hx9.elim
  intro v9 u9 hv9
  obtain ⟨I3488, rfl, rfl, h⟩ := hv9
  refine ⟨fun q => absurd q (Nat.lt_irrefl _), ?_⟩
  show V G Y_X9_closes 5 _ _ _ _ _ _ _
  obtain ⟨n3489, h⟩ := h
  exact l_X9_closes_5 Q n3489 I3488 L h
set_option maxHeartbeats 4000000 in
set_option maxRecDepth 100000 in
theorem b_X9_reads_151 {G : GT} {b d t : Nat} (I : TI) (L : TL)  (Q : TI → TL → Prop)  (h : B_X9_reads_151 I L Q) : V G Y_X9_reads 151 [(0, .ref 436)] [] (I, L, RT b d t, 457) 0 0 (fun v9 u9 => ∃ (I9 : TI) (L9 : TL), v9 = none ∧ u9 = (I9, L9, RT b d t, 457) ∧ Q I9 L9) (fun _ _ => False) := by
  unfold B_X9_reads_151 at h
  refine v_aload_n (pc' := 152) 77 0 rfl rfl rfl rfl ?_
  refine v_iconst (v := 1) (pc' := 153) 78 rfl rfl (by decide) ?_
  refine v_cV (Y2 := Y_X9_settles) (As := [.int 1]) (b := 436) (pc' := 156) (c1 := 0) (s1 := 0) 79 rfl rfl mf_X9_settles rfl rfl ml_X9_441 mi_X9_settles se_X9_settles (ci := 8) rfl ly_436 (lay_lt ly_436 (by decide)) rfl (Nat.le_of_ble_eq_true rfl) ⟨Nat.le_of_ble_eq_true rfl, Nat.le_of_ble_eq_true rfl⟩ rfl rfl (ok_X9_settles (1 : Int32) I L h) ?_ ?_
  · intro e9 u9 hx9
    exact hx9.elim
  intro v9 u9 hv9
  obtain ⟨I3531, rfl, rfl, h⟩ := hv9
  refine ⟨fun q => absurd q (Nat.lt_irrefl _), ?_⟩
  show V G Y_X9_reads 156 _ _ _ _ _ _ _
  exact v_vret 80 rfl rfl (by decide) (by decide) ⟨_, _, rfl, rfl, h⟩
set_option maxHeartbeats 4000000 in
set_option maxRecDepth 100000 in
theorem b_X9_reads_145 {G : GT} {b d t : Nat} (I : TI) (L : TL)  (Q : TI → TL → Prop)  (h : B_X9_reads_145 I L Q) : V G Y_X9_reads 145 [(0, .ref 436)] [] (I, L, RT b d t, 457) 0 0 (fun v9 u9 => ∃ (I9 : TI) (L9 : TL), v9 = none ∧ u9 = (I9, L9, RT b d t, 457) ∧ Q I9 L9) (fun _ _ => False) := by
  unfold B_X9_reads_145 at h
  refine v_aload_n (pc' := 146) 73 0 rfl rfl rfl rfl ?_
  refine v_iconst (v := 1) (pc' := 147) 74 rfl rfl (by decide) ?_
  refine v_cV (Y2 := Y_X9_faults) (As := [.int 1]) (b := 436) (pc' := 150) (c1 := 0) (s1 := 0) 75 rfl rfl mf_X9_faults rfl rfl ml_X9_229 mi_X9_faults se_X9_faults (ci := 8) rfl ly_436 (lay_lt ly_436 (by decide)) rfl (Nat.le_of_ble_eq_true rfl) ⟨Nat.le_of_ble_eq_true rfl, Nat.le_of_ble_eq_true rfl⟩ rfl rfl (ok_X9_faults (1 : Int32) I L h) ?_ ?_
  · intro e9 u9 hx9
    exact hx9.elim
  intro v9 u9 hv9
  obtain ⟨r3532, I3533, rfl, rfl, h⟩ := hv9
  refine ⟨fun q => absurd q (Nat.lt_irrefl _), ?_⟩
  show V G Y_X9_reads 150 _ (.int r3532 :: _) _ _ _ _ _
  refine v_pop (pc' := 151) 76 rfl rfl rfl ?_
  exact b_X9_reads_151 I3533 L Q h
set_option maxHeartbeats 4000000 in
set_option maxRecDepth 100000 in
theorem b_X9_reads_81 {G : GT} {b d t : Nat} (v2 : Int32) (s0 : Int32) (I : TI) (L : TL)  (Q : TI → TL → Prop) (R20 : Int32 → TI → TL → Prop) (hR20 : ∀ (v1 : Int32) (I : TI) (L : TL), R20 v1 I L → V G Y_X9_reads 20 [(0, .ref 436), (1, .int v1)] [] (I, L, RT b d t, 457) 0 0 (fun v9 u9 => ∃ (I9 : TI) (L9 : TL), v9 = none ∧ u9 = (I9, L9, RT b d t, 457) ∧ Q I9 L9) (fun _ _ => False)) (h : B_X9_reads_81 v2 s0 I L Q R20) : V G Y_X9_reads 81 [(0, .ref 436), (2, .int v2)] [.int s0] (I, L, RT b d t, 457) 0 0 (fun v9 u9 => ∃ (I9 : TI) (L9 : TL), v9 = none ∧ u9 = (I9, L9, RT b d t, 457) ∧ Q I9 L9) (fun _ _ => False) := by
  unfold B_X9_reads_81 at h
  refine v_istore_n (ls' := [(1, .int s0), (0, .ref 436), (2, .int v2)]) (pc' := 82) 41 rfl rfl rfl (by decide) rfl ?_
  refine v_iload_n (pc' := 83) 42 0 rfl rfl rfl rfl ?_
  refine v_if_ne (tgt := 89) (pc' := 86) 43 rfl rfl (by decide) (fun hc => ?_) (fun hc => ?_)
  · replace h := h.1 hc
    refine v_aload_n (pc' := 90) 45 1 rfl rfl rfl rfl ?_
    refine v_iload_n (pc' := 91) 46 2 rfl rfl rfl rfl ?_
    refine v_cS (Y2 := Y_X9_strength) (As := [.int v2]) (pc' := 94) (c1 := 0) (s1 := 0) 47 rfl rfl mf_X9_strength rfl rfl ml_X9_432 ms_X9_strength rfl (Nat.le_of_ble_eq_true rfl) ⟨Nat.le_of_ble_eq_true rfl, Nat.le_of_ble_eq_true rfl⟩ rfl rfl (ok_X9_strength v2 I L h) ?_ ?_
    · intro e9 u9 hx9
      exact hx9.elim
    intro v9 u9 hv9
    obtain ⟨r3534, rfl, rfl, h⟩ := hv9
    refine ⟨fun q => absurd q (Nat.lt_irrefl _), ?_⟩
    show V G Y_X9_reads 94 _ (.int r3534 :: _) _ _ _ _ _
    refine v_cV (Y2 := Y_X9_settles) (As := [.int r3534]) (b := 436) (pc' := 97) (c1 := 0) (s1 := 0) 48 rfl rfl mf_X9_settles rfl rfl ml_X9_441 mi_X9_settles se_X9_settles (ci := 8) rfl ly_436 (lay_lt ly_436 (by decide)) rfl (Nat.le_of_ble_eq_true rfl) ⟨Nat.le_of_ble_eq_true rfl, Nat.le_of_ble_eq_true rfl⟩ rfl rfl (ok_X9_settles r3534 I L h) ?_ ?_
    · intro e9 u9 hx9
      exact hx9.elim
    intro v9 u9 hv9
    obtain ⟨I3535, rfl, rfl, h⟩ := hv9
    refine ⟨fun q => absurd q (Nat.lt_irrefl _), ?_⟩
    show V G Y_X9_reads 97 _ _ _ _ _ _ _
    refine v_aload_n (pc' := 98) 49 1 rfl rfl rfl rfl ?_
    refine v_getR (t := 454) (pc' := 101) 50 rfl rfl pf_X9_67 ly_436 (lay_lt ly_436 (by decide)) rt_436_38 ?_
    refine v_aload_n (pc' := 102) 51 1 rfl rfl rfl rfl ?_
    refine v_getI (pc' := 105) 52 rfl rfl pf_X9_429 ly_436 (lay_lt ly_436 (by decide)) ?_
    refine v_iload_n (pc' := 106) 53 2 rfl rfl rfl rfl ?_
    obtain ⟨hi3536, h⟩ := h
    refine v_iast (i := (I3535 436 41)) (j := (I3535 436 41).toNatClampNeg) (pc' := 107) 54 rfl rfl ly_454 ln_454 (lay_lt ly_454 (by decide)) hi3536 rfl ?_
    refine v_aload_n (pc' := 108) 55 1 rfl rfl rfl rfl ?_
    refine v_dup (pc' := 109) 56 rfl rfl rfl ?_
    refine v_getI (pc' := 112) 57 rfl rfl pf_X9_429 ly_436 (lay_lt ly_436 (by decide)) ?_
    refine v_iconst (v := 1) (pc' := 113) 58 rfl rfl (by decide) ?_
    refine v_iadd (pc' := 114) 59 rfl rfl ?_
    refine v_putI (pc' := 117) 60 rfl rfl pf_X9_429 (fun q => absurd q (by decide)) ly_436 (lay_lt ly_436 (by decide)) ?_
    refine nm_M (e := (up2 (up2 I3535 454 ((I3535 436 41).toNatClampNeg) v2) 436 41 (((up2 I3535 454 ((I3535 436 41).toNatClampNeg) v2) 436 41) + 1))) (fun I3537 hI3537 => ?_)
    replace h := h I3537 hI3537
    refine v_aload_n (pc' := 118) 61 1 rfl rfl rfl rfl ?_
    refine v_cV (Y2 := Y_X9_next) (As := []) (b := 436) (pc' := 121) (c1 := 0) (s1 := 0) 62 rfl rfl mf_X9_next rfl rfl ml_X9_215 mi_X9_next se_X9_next (ci := 8) rfl ly_436 (lay_lt ly_436 (by decide)) rfl (Nat.le_of_ble_eq_true rfl) ⟨Nat.le_of_ble_eq_true rfl, Nat.le_of_ble_eq_true rfl⟩ rfl rfl (ok_X9_next I3537 L h) ?_ ?_
    · intro e9 u9 hx9
      exact hx9.elim
    intro v9 u9 hv9
    obtain ⟨I3538, L3539, rfl, rfl, h⟩ := hv9
    refine ⟨fun q => absurd q (Nat.lt_irrefl _), ?_⟩
    show V G Y_X9_reads 121 _ _ _ _ _ _ _
    refine v_goto (tgt := 20) 63 rfl (by decide) ?_
    refine V.sub [1, 0] rfl ?_
    exact hR20 s0 I3538 L3539 h
  replace h := h.2 hc
  refine v_goto (tgt := 20) 44 rfl (by decide) ?_
  refine V.sub [1, 0] rfl ?_
  exact hR20 s0 I L h
set_option maxHeartbeats 4000000 in
set_option maxRecDepth 100000 in
theorem b_X9_reads_71 {G : GT} {b d t : Nat} (s0 : Int32) (I : TI) (L : TL)  (Q : TI → TL → Prop) (R20 : Int32 → TI → TL → Prop) (hR20 : ∀ (v1 : Int32) (I : TI) (L : TL), R20 v1 I L → V G Y_X9_reads 20 [(0, .ref 436), (1, .int v1)] [] (I, L, RT b d t, 457) 0 0 (fun v9 u9 => ∃ (I9 : TI) (L9 : TL), v9 = none ∧ u9 = (I9, L9, RT b d t, 457) ∧ Q I9 L9) (fun _ _ => False)) (h : B_X9_reads_71 s0 I L Q R20) : V G Y_X9_reads 71 [(0, .ref 436)] [.int s0] (I, L, RT b d t, 457) 0 0 (fun v9 u9 => ∃ (I9 : TI) (L9 : TL), v9 = none ∧ u9 = (I9, L9, RT b d t, 457) ∧ Q I9 L9) (fun _ _ => False) := by
  unfold B_X9_reads_71 at h
  refine v_istore_n (ls' := [(2, .int s0), (0, .ref 436)]) (pc' := 72) 35 rfl rfl rfl (by decide) rfl ?_
  refine v_iload_n (pc' := 73) 36 0 rfl rfl rfl rfl ?_
  refine v_if_eq (tgt := 80) (pc' := 76) 37 rfl rfl (by decide) (fun hc => ?_) (fun hc => ?_)
  · replace h := h.1 hc
    refine v_iconst (v := 0) (pc' := 81) 40 rfl rfl (by decide) ?_
    refine V.sub [1, 0] rfl ?_
    exact b_X9_reads_81 s0 (0 : Int32) I L Q R20 hR20 h
  replace h := h.2 hc
  refine v_iconst (v := 1) (pc' := 77) 38 rfl rfl (by decide) ?_
  refine v_goto (tgt := 81) 39 rfl (by decide) ?_
  refine V.sub [1, 0] rfl ?_
  exact b_X9_reads_81 s0 (1 : Int32) I L Q R20 hR20 h
set_option maxHeartbeats 4000000 in
set_option maxRecDepth 100000 in
theorem d_X9_reads_20 {G : GT} {b d t : Nat}  (Q : TI → TL → Prop) (R20 : Int32 → TI → TL → Prop)  (hR20 : ∀ (v1 : Int32) (I : TI) (L : TL), R20 v1 I L → V G Y_X9_reads 20 [(0, .ref 436), (1, .int v1)] [] (I, L, RT b d t, 457) 0 0 (fun v9 u9 => ∃ (I9 : TI) (L9 : TL), v9 = none ∧ u9 = (I9, L9, RT b d t, 457) ∧ Q I9 L9) (fun _ _ => False)) (v1 : Int32) (I : TI) (L : TL)  (h : D_X9_reads_20 Q R20 v1 I L) : V G Y_X9_reads 20 [(0, .ref 436), (1, .int v1)] [] (I, L, RT b d t, 457) 0 0 (fun v9 u9 => ∃ (I9 : TI) (L9 : TL), v9 = none ∧ u9 = (I9, L9, RT b d t, 457) ∧ Q I9 L9) (fun _ _ => False) := by
  unfold D_X9_reads_20 at h
  refine v_iload_n (pc' := 21) 12 1 rfl rfl rfl rfl ?_
  refine v_if_eq (tgt := 124) (pc' := 24) 13 rfl rfl (by decide) (fun hc => ?_) (fun hc => ?_)
  · replace h := h.1 hc
    refine v_aload_n (pc' := 125) 64 0 rfl rfl rfl rfl ?_
    refine v_cV (Y2 := Y_X9_isGood) (As := []) (b := 436) (pc' := 128) (c1 := 0) (s1 := 0) 65 rfl rfl mf_X9_isGood rfl rfl ml_X9_218 mi_X9_isGood se_X9_isGood (ci := 8) rfl ly_436 (lay_lt ly_436 (by decide)) rfl (Nat.le_of_ble_eq_true rfl) ⟨Nat.le_of_ble_eq_true rfl, Nat.le_of_ble_eq_true rfl⟩ rfl rfl (ok_X9_isGood I L h) ?_ ?_
    · intro e9 u9 hx9
      exact hx9.elim
    intro v9 u9 hv9
    obtain ⟨r3540, rfl, rfl, h⟩ := hv9
    refine ⟨fun q => absurd q (Nat.lt_irrefl _), ?_⟩
    show V G Y_X9_reads 128 _ (.int r3540 :: _) _ _ _ _ _
    refine v_if_eq (tgt := 151) (pc' := 131) 66 rfl rfl (by decide) (fun hc => ?_) (fun hc => ?_)
    · replace h := h.1 hc
      refine V.sub [0] rfl ?_
      exact b_X9_reads_151 I L Q h
    replace h := h.2 hc
    refine v_aload_n (pc' := 132) 67 0 rfl rfl rfl rfl ?_
    refine v_cV (Y2 := Y_X9_isInside) (As := []) (b := 436) (pc' := 135) (c1 := 0) (s1 := 0) 68 rfl rfl mf_X9_isInside rfl rfl ml_X9_444 mi_X9_isInside se_X9_isInside (ci := 8) rfl ly_436 (lay_lt ly_436 (by decide)) rfl (Nat.le_of_ble_eq_true rfl) ⟨Nat.le_of_ble_eq_true rfl, Nat.le_of_ble_eq_true rfl⟩ rfl rfl (ok_X9_isInside I L h) ?_ ?_
    · intro e9 u9 hx9
      exact hx9.elim
    intro v9 u9 hv9
    obtain ⟨r3541, rfl, rfl, h⟩ := hv9
    refine ⟨fun q => absurd q (Nat.lt_irrefl _), ?_⟩
    show V G Y_X9_reads 135 _ (.int r3541 :: _) _ _ _ _ _
    refine v_if_ne (tgt := 145) (pc' := 138) 69 rfl rfl (by decide) (fun hc => ?_) (fun hc => ?_)
    · replace h := h.1 hc
      refine V.sub [0] rfl ?_
      exact b_X9_reads_145 I L Q h
    replace h := h.2 hc
    refine v_aload_n (pc' := 139) 70 0 rfl rfl rfl rfl ?_
    refine v_getI (pc' := 142) 71 rfl rfl pf_X9_196 ly_436 (lay_lt ly_436 (by decide)) ?_
    refine v_if_eq (tgt := 151) (pc' := 145) 72 rfl rfl (by decide) (fun hc => ?_) (fun hc => ?_)
    · replace h := h.1 hc
      refine V.sub [0] rfl ?_
      exact b_X9_reads_151 I L Q h
    replace h := h.2 hc
    refine V.sub [0] rfl ?_
    exact b_X9_reads_145 I L Q h
  replace h := h.2 hc
  refine v_aload_n (pc' := 25) 14 0 rfl rfl rfl rfl ?_
  refine v_cV (Y2 := Y_X9_comparisonRead) (As := []) (b := 436) (pc' := 28) (c1 := 0) (s1 := 0) 15 rfl rfl mf_X9_comparisonRead rfl rfl ml_X9_447 mi_X9_comparisonRead se_X9_comparisonRead (ci := 8) rfl ly_436 (lay_lt ly_436 (by decide)) rfl (Nat.le_of_ble_eq_true rfl) ⟨Nat.le_of_ble_eq_true rfl, Nat.le_of_ble_eq_true rfl⟩ rfl rfl (ok_X9_comparisonRead I L h) ?_ ?_
  · intro e9 u9 hx9
    exact hx9.elim
  intro v9 u9 hv9
  obtain ⟨I3542, L3543, rfl, rfl, h⟩ := hv9
  refine ⟨fun q => absurd q (Nat.lt_irrefl _), ?_⟩
  show V G Y_X9_reads 28 _ _ _ _ _ _ _
  refine v_aload_n (pc' := 29) 16 0 rfl rfl rfl rfl ?_
  refine v_cV (Y2 := Y_X9_isGood) (As := []) (b := 436) (pc' := 32) (c1 := 0) (s1 := 0) 17 rfl rfl mf_X9_isGood rfl rfl ml_X9_218 mi_X9_isGood se_X9_isGood (ci := 8) rfl ly_436 (lay_lt ly_436 (by decide)) rfl (Nat.le_of_ble_eq_true rfl) ⟨Nat.le_of_ble_eq_true rfl, Nat.le_of_ble_eq_true rfl⟩ rfl rfl (ok_X9_isGood I3542 L3543 h) ?_ ?_
  · intro e9 u9 hx9
    exact hx9.elim
  intro v9 u9 hv9
  obtain ⟨r3544, rfl, rfl, h⟩ := hv9
  refine ⟨fun q => absurd q (Nat.lt_irrefl _), ?_⟩
  show V G Y_X9_reads 32 _ (.int r3544 :: _) _ _ _ _ _
  refine v_if_ne (tgt := 36) (pc' := 35) 18 rfl rfl (by decide) (fun hc => ?_) (fun hc => ?_)
  · replace h := h.1 hc
    refine v_aload_n (pc' := 37) 20 0 rfl rfl rfl rfl ?_
    refine v_cV (Y2 := Y_X9_closes) (As := []) (b := 436) (pc' := 40) (c1 := 0) (s1 := 0) 21 rfl rfl mf_X9_closes rfl rfl ml_X9_450 mi_X9_closes se_X9_closes (ci := 8) rfl ly_436 (lay_lt ly_436 (by decide)) rfl (Nat.le_of_ble_eq_true rfl) ⟨Nat.le_of_ble_eq_true rfl, Nat.le_of_ble_eq_true rfl⟩ rfl rfl (ok_X9_closes I3542 L3543 h) ?_ ?_
    · intro e9 u9 hx9
      exact hx9.elim
    intro v9 u9 hv9
    obtain ⟨I3545, L3546, rfl, rfl, h⟩ := hv9
    refine ⟨fun q => absurd q (Nat.lt_irrefl _), ?_⟩
    show V G Y_X9_reads 40 _ _ _ _ _ _ _
    refine v_aload_n (pc' := 41) 22 0 rfl rfl rfl rfl ?_
    refine v_ldc2 (v := 1111) (pc' := 44) 23 rfl rfl kl_X9_247 ?_
    refine v_cV (Y2 := Y_X9_isWord) (As := [.long 1111]) (b := 436) (pc' := 47) (c1 := 0) (s1 := 0) 24 rfl rfl mf_X9_isWord rfl rfl ml_X9_222 mi_X9_isWord se_X9_isWord (ci := 8) rfl ly_436 (lay_lt ly_436 (by decide)) rfl (Nat.le_of_ble_eq_true rfl) ⟨Nat.le_of_ble_eq_true rfl, Nat.le_of_ble_eq_true rfl⟩ rfl rfl (ok_X9_isWord (1111 : Int64) I3545 L3546 h) ?_ ?_
    · intro e9 u9 hx9
      exact hx9.elim
    intro v9 u9 hv9
    obtain ⟨r3547, rfl, rfl, h⟩ := hv9
    refine ⟨fun q => absurd q (Nat.lt_irrefl _), ?_⟩
    show V G Y_X9_reads 47 _ (.int r3547 :: _) _ _ _ _ _
    refine v_if_eq (tgt := 55) (pc' := 50) 25 rfl rfl (by decide) (fun hc => ?_) (fun hc => ?_)
    · replace h := h.1 hc
      refine v_aload_n (pc' := 56) 28 0 rfl rfl rfl rfl ?_
      refine v_ldc2 (v := 423) (pc' := 59) 29 rfl rfl kl_X9_249 ?_
      refine v_cV (Y2 := Y_X9_isWord) (As := [.long 423]) (b := 436) (pc' := 62) (c1 := 0) (s1 := 0) 30 rfl rfl mf_X9_isWord rfl rfl ml_X9_222 mi_X9_isWord se_X9_isWord (ci := 8) rfl ly_436 (lay_lt ly_436 (by decide)) rfl (Nat.le_of_ble_eq_true rfl) ⟨Nat.le_of_ble_eq_true rfl, Nat.le_of_ble_eq_true rfl⟩ rfl rfl (ok_X9_isWord (423 : Int64) I3545 L3546 h) ?_ ?_
      · intro e9 u9 hx9
        exact hx9.elim
      intro v9 u9 hv9
      obtain ⟨r3548, rfl, rfl, h⟩ := hv9
      refine ⟨fun q => absurd q (Nat.lt_irrefl _), ?_⟩
      show V G Y_X9_reads 62 _ (.int r3548 :: _) _ _ _ _ _
      refine v_if_eq (tgt := 70) (pc' := 65) 31 rfl rfl (by decide) (fun hc => ?_) (fun hc => ?_)
      · replace h := h.1 hc
        refine v_iconst (v := 0) (pc' := 71) 34 rfl rfl (by decide) ?_
        refine V.sub [0] rfl ?_
        exact b_X9_reads_71 (0 : Int32) I3545 L3546 Q R20 hR20 h
      replace h := h.2 hc
      refine v_bipush (v := 25) (pc' := 67) 32 rfl rfl (by decide) ?_
      refine v_goto (tgt := 71) 33 rfl (by decide) ?_
      refine V.sub [0] rfl ?_
      exact b_X9_reads_71 (25 : Int32) I3545 L3546 Q R20 hR20 h
    replace h := h.2 hc
    refine v_bipush (v := 24) (pc' := 52) 26 rfl rfl (by decide) ?_
    refine v_goto (tgt := 71) 27 rfl (by decide) ?_
    refine V.sub [0] rfl ?_
    exact b_X9_reads_71 (24 : Int32) I3545 L3546 Q R20 hR20 h
  replace h := h.2 hc
  exact v_vret 19 rfl rfl (by decide) (by decide) ⟨_, _, rfl, rfl, h⟩
theorem l_X9_reads_20 {G : GT} {b d t : Nat}  (Q : TI → TL → Prop)  : ∀ (n9 : Nat) (v1 : Int32) (I : TI) (L : TL), L_X9_reads_20 Q n9 v1 I L → V G Y_X9_reads 20 [(0, .ref 436), (1, .int v1)] [] (I, L, RT b d t, 457) 0 0 (fun v9 u9 => ∃ (I9 : TI) (L9 : TL), v9 = none ∧ u9 = (I9, L9, RT b d t, 457) ∧ Q I9 L9) (fun _ _ => False)
  | 0, _, _, _, h => h.elim
  | n9 + 1, v1, I, L, h => d_X9_reads_20 Q _ (l_X9_reads_20 Q n9) v1 I L h
set_option maxHeartbeats 4000000 in
set_option maxRecDepth 100000 in
theorem ok_X9_reads {G : GT} {b d t : Nat} (I : TI) (L : TL)  {Q : TI → TL → Prop} (h : W_X9_reads I L Q) : MW G Y_X9_reads [.ref 436] (I, L, RT b d t, 457) (fun v9 u9 => ∃ (I9 : TI) (L9 : TL), v9 = none ∧ u9 = (I9, L9, RT b d t, 457) ∧ Q I9 L9) (fun _ _ => False) := by
  unfold W_X9_reads at h
  refine MW.intro rfl (by decide) is_X9_reads (Nat.le_of_ble_eq_true rfl) ?_
  show V G Y_X9_reads 0 [(0, .ref 436)] [] (I, L, RT b d t, 457) 0 0 _ _
  refine v_aload_n (pc' := 1) 0 0 rfl rfl rfl rfl ?_
  refine v_iconst (v := 0) (pc' := 2) 1 rfl rfl (by decide) ?_
  refine v_putI (pc' := 5) 2 rfl rfl pf_X9_399 (fun q => absurd q (by decide)) ly_436 (lay_lt ly_436 (by decide)) ?_
  refine v_aload_n (pc' := 6) 3 0 rfl rfl rfl rfl ?_
  refine v_iconst (v := 0) (pc' := 7) 4 rfl rfl (by decide) ?_
  refine v_putI (pc' := 10) 5 rfl rfl pf_X9_426 (fun q => absurd q (by decide)) ly_436 (lay_lt ly_436 (by decide)) ?_
  refine v_aload_n (pc' := 11) 6 0 rfl rfl rfl rfl ?_
  refine v_iconst (v := 0) (pc' := 12) 7 rfl rfl (by decide) ?_
  refine v_putI (pc' := 15) 8 rfl rfl pf_X9_429 (fun q => absurd q (by decide)) ly_436 (lay_lt ly_436 (by decide)) ?_
  refine v_aload_n (pc' := 16) 9 0 rfl rfl rfl rfl ?_
  refine v_cV (Y2 := Y_X9_isGood) (As := []) (b := 436) (pc' := 19) (c1 := 0) (s1 := 0) 10 rfl rfl mf_X9_isGood rfl rfl ml_X9_218 mi_X9_isGood se_X9_isGood (ci := 8) rfl ly_436 (lay_lt ly_436 (by decide)) rfl (Nat.le_of_ble_eq_true rfl) ⟨Nat.le_of_ble_eq_true rfl, Nat.le_of_ble_eq_true rfl⟩ rfl rfl (ok_X9_isGood (up2 (up2 (up2 I 436 40 0) 436 42 0) 436 41 0) L h) ?_ ?_
  · intro e9 u9 hx9
    exact hx9.elim
  intro v9 u9 hv9
  obtain ⟨r3549, rfl, rfl, h⟩ := hv9
  refine ⟨fun q => absurd q (Nat.lt_irrefl _), ?_⟩
  show V G Y_X9_reads 19 _ (.int r3549 :: _) _ _ _ _ _
  refine v_istore_n (ls' := [(1, .int r3549), (0, .ref 436)]) (pc' := 20) 11 rfl rfl rfl (by decide) rfl ?_
  refine V.sub [1, 0] rfl ?_
  obtain ⟨n3550, h⟩ := h
  exact l_X9_reads_20 Q n3550 r3549 (up2 (up2 (up2 I 436 40 0) 436 42 0) 436 41 0) L h
set_option maxHeartbeats 4000000 in
set_option maxRecDepth 100000 in
theorem ok_X9_propertyOf {G : GT} {b d t : Nat} (p1 : Int32) (p2 : Int32) (I : TI) (L : TL)  {Q : Int32 → TI → Prop} (h : W_X9_propertyOf p1 p2 I L Q) : MW G Y_X9_propertyOf [.ref 436, .int p1, .int p2] (I, L, RT b d t, 457) (fun v9 u9 => ∃ (r9 : Int32) (I9 : TI), v9 = some (.int r9) ∧ u9 = (I9, L, RT b d t, 457) ∧ Q r9 I9) (fun _ _ => False) := by
  unfold W_X9_propertyOf at h
  refine MW.intro rfl (by decide) is_X9_propertyOf (Nat.le_of_ble_eq_true rfl) ?_
  show V G Y_X9_propertyOf 0 [(0, .ref 436), (1, .int p1), (2, .int p2)] [] (I, L, RT b d t, 457) 0 0 _ _
  refine v_iload_n (pc' := 1) 0 2 rfl rfl rfl rfl ?_
  refine v_aload_n (pc' := 2) 1 0 rfl rfl rfl rfl ?_
  refine v_getI (pc' := 5) 2 rfl rfl pf_X9_77 ly_436 (lay_lt ly_436 (by decide)) ?_
  refine v_isub (pc' := 6) 3 rfl rfl ?_
  refine v_istore_n (ls' := [(3, .int (p2 - (I 436 10))), (0, .ref 436), (1, .int p1), (2, .int p2)]) (pc' := 7) 4 rfl rfl rfl (by decide) rfl ?_
  refine v_iload_n (pc' := 8) 5 2 rfl rfl rfl rfl ?_
  refine v_ts (clo := 0) (chi := 7) (dt := 190) 6 8 [56, 58, 75, 92, 103, 120, 141, 176] rfl (by decide) (by decide) (by decide) (by decide) (by decide) ?_ (fun hc => ?_)
  · intro j9 t9 ht9 hj9 hx9
    match j9, ht9, hj9, hx9 with
    | 0, ht9, hj9, hx9 =>
      cases ht9
      replace hx9 := hx9.trans (show Int32.ofInt _ = (0 : Int32) by decide)
      replace h := h.1 hx9
      refine v_iload_n (pc' := 57) 7 3 rfl rfl rfl rfl ?_
      exact v_iret 8 rfl rfl (by decide) (by decide) ⟨_, _, rfl, rfl, h⟩
    | 1, ht9, hj9, hx9 =>
      cases ht9
      replace hx9 := hx9.trans (show Int32.ofInt _ = (1 : Int32) by decide)
      replace h := h.2.1 hx9
      refine v_iload_n (pc' := 59) 9 0 rfl rfl rfl rfl ?_
      refine v_if_ge (tgt := 66) (pc' := 62) 10 rfl rfl (by decide) (fun hc => ?_) (fun hc => ?_)
      · replace h := h.1 hc
        refine v_iconst (v := 1) (pc' := 67) 13 rfl rfl (by decide) ?_
        refine v_aload_n (pc' := 68) 14 1 rfl rfl rfl rfl ?_
        refine v_getR (t := 441) (pc' := 71) 15 rfl rfl pf_X9_22 ly_436 (lay_lt ly_436 (by decide)) rt_436_12 ?_
        refine v_iload_n (pc' := 72) 16 0 rfl rfl rfl rfl ?_
        obtain ⟨hi3568, h⟩ := h
        refine v_iald (i := (p2 - (I 436 10))) (j := (p2 - (I 436 10)).toNatClampNeg) (pc' := 73) 17 rfl rfl ly_441 ln_441 (lay_lt ly_441 (by decide)) hi3568 rfl ?_
        refine v_iadd (pc' := 74) 18 rfl rfl ?_
        exact v_iret 19 rfl rfl (by decide) (by decide) ⟨_, _, rfl, rfl, h⟩
      replace h := h.2 hc
      refine v_iconst (v := 0) (pc' := 63) 11 rfl rfl (by decide) ?_
      refine v_goto (tgt := 74) 12 rfl (by decide) ?_
      exact v_iret 19 rfl rfl (by decide) (by decide) ⟨_, _, rfl, rfl, h⟩
    | 2, ht9, hj9, hx9 =>
      cases ht9
      replace hx9 := hx9.trans (show Int32.ofInt _ = (2 : Int32) by decide)
      replace h := h.2.2.1 hx9
      refine v_iload_n (pc' := 76) 20 0 rfl rfl rfl rfl ?_
      refine v_if_ge (tgt := 83) (pc' := 79) 21 rfl rfl (by decide) (fun hc => ?_) (fun hc => ?_)
      · replace h := h.1 hc
        refine v_aload_n (pc' := 84) 24 1 rfl rfl rfl rfl ?_
        refine v_iload_n (pc' := 85) 25 3 rfl rfl rfl rfl ?_
        refine v_cV (Y2 := Y_X9_dependence) (As := [.int p2]) (b := 436) (pc' := 88) (c1 := 0) (s1 := 0) 26 rfl rfl mf_X9_dependence rfl rfl ml_X9_99 mi_X9_dependence se_X9_dependence (ci := 8) rfl ly_436 (lay_lt ly_436 (by decide)) rfl (Nat.le_of_ble_eq_true rfl) ⟨Nat.le_of_ble_eq_true rfl, Nat.le_of_ble_eq_true rfl⟩ rfl rfl (ok_X9_dependence p2 I L h) ?_ ?_
        · intro e9 u9 hx9
          exact hx9.elim
        intro v9 u9 hv9
        obtain ⟨r3569, rfl, rfl, h⟩ := hv9
        refine ⟨fun q => absurd q (Nat.lt_irrefl _), ?_⟩
        show V G Y_X9_propertyOf 88 _ (.long r3569 :: _) _ _ _ _ _
        refine v_cS (Y2 := Y_X9_ones) (As := [.long r3569]) (pc' := 91) (c1 := 0) (s1 := 0) 27 rfl rfl mf_X9_ones rfl rfl ml_X9_137 ms_X9_ones rfl (Nat.le_of_ble_eq_true rfl) ⟨Nat.le_of_ble_eq_true rfl, Nat.le_of_ble_eq_true rfl⟩ rfl rfl (ok_X9_ones r3569 I L h) ?_ ?_
        · intro e9 u9 hx9
          exact hx9.elim
        intro v9 u9 hv9
        obtain ⟨r3570, rfl, rfl, h⟩ := hv9
        refine ⟨fun q => absurd q (Nat.lt_irrefl _), ?_⟩
        show V G Y_X9_propertyOf 91 _ (.int r3570 :: _) _ _ _ _ _
        exact v_iret 28 rfl rfl (by decide) (by decide) ⟨_, _, rfl, rfl, h⟩
      replace h := h.2 hc
      refine v_iconst (v := 0) (pc' := 80) 22 rfl rfl (by decide) ?_
      refine v_goto (tgt := 91) 23 rfl (by decide) ?_
      exact v_iret 28 rfl rfl (by decide) (by decide) ⟨_, _, rfl, rfl, h⟩
    | 3, ht9, hj9, hx9 =>
      cases ht9
      replace hx9 := hx9.trans (show Int32.ofInt _ = (3 : Int32) by decide)
      replace h := h.2.2.2.1 hx9
      refine v_aload_n (pc' := 93) 29 1 rfl rfl rfl rfl ?_
      refine v_aload_n (pc' := 94) 30 1 rfl rfl rfl rfl ?_
      refine v_getR (t := 444) (pc' := 97) 31 rfl rfl pf_X9_32 ly_436 (lay_lt ly_436 (by decide)) rt_436_15 ?_
      refine v_iload_n (pc' := 98) 32 3 rfl rfl rfl rfl ?_
      obtain ⟨hi3571, h⟩ := h
      refine v_lald (i := p2) (j := p2.toNatClampNeg) (pc' := 99) 33 rfl rfl ly_444 ln_444 (lay_lt ly_444 (by decide)) hi3571 rfl ?_
      refine v_cV (Y2 := Y_X9_changesOf) (As := [.long (L 444 (p2.toNatClampNeg))]) (b := 436) (pc' := 102) (c1 := 0) (s1 := 0) 34 rfl rfl mf_X9_changesOf rfl rfl ml_X9_319 mi_X9_changesOf se_X9_changesOf (ci := 8) rfl ly_436 (lay_lt ly_436 (by decide)) rfl (Nat.le_of_ble_eq_true rfl) ⟨Nat.le_of_ble_eq_true rfl, Nat.le_of_ble_eq_true rfl⟩ rfl rfl (ok_X9_changesOf (L 444 (p2.toNatClampNeg)) I L h) ?_ ?_
      · intro e9 u9 hx9
        exact hx9.elim
      intro v9 u9 hv9
      obtain ⟨r3572, rfl, rfl, h⟩ := hv9
      refine ⟨fun q => absurd q (Nat.lt_irrefl _), ?_⟩
      show V G Y_X9_propertyOf 102 _ (.int r3572 :: _) _ _ _ _ _
      exact v_iret 35 rfl rfl (by decide) (by decide) ⟨_, _, rfl, rfl, h⟩
    | 4, ht9, hj9, hx9 =>
      cases ht9
      replace hx9 := hx9.trans (show Int32.ofInt _ = (4 : Int32) by decide)
      replace h := h.2.2.2.2.1 hx9
      refine v_aload_n (pc' := 104) 36 1 rfl rfl rfl rfl ?_
      refine v_getR (t := 444) (pc' := 107) 37 rfl rfl pf_X9_32 ly_436 (lay_lt ly_436 (by decide)) rt_436_15 ?_
      refine v_iload_n (pc' := 108) 38 3 rfl rfl rfl rfl ?_
      obtain ⟨hi3573, h⟩ := h
      refine v_lald (i := p2) (j := p2.toNatClampNeg) (pc' := 109) 39 rfl rfl ly_444 ln_444 (lay_lt ly_444 (by decide)) hi3573 rfl ?_
      refine v_aload_n (pc' := 110) 40 1 rfl rfl rfl rfl ?_
      refine v_getR (t := 446) (pc' := 113) 41 rfl rfl pf_X9_38 ly_436 (lay_lt ly_436 (by decide)) rt_436_17 ?_
      refine v_iload_n (pc' := 114) 42 3 rfl rfl rfl rfl ?_
      obtain ⟨hi3574, h⟩ := h
      refine v_lald (i := p2) (j := p2.toNatClampNeg) (pc' := 115) 43 rfl rfl ly_446 ln_446 (lay_lt ly_446 (by decide)) hi3574 rfl ?_
      refine v_lxor (pc' := 116) 44 rfl rfl ?_
      refine v_cS (Y2 := Y_X9_ones) (As := [.long ((L 444 (p2.toNatClampNeg)) ^^^ (L 446 (p2.toNatClampNeg)))]) (pc' := 119) (c1 := 0) (s1 := 0) 45 rfl rfl mf_X9_ones rfl rfl ml_X9_137 ms_X9_ones rfl (Nat.le_of_ble_eq_true rfl) ⟨Nat.le_of_ble_eq_true rfl, Nat.le_of_ble_eq_true rfl⟩ rfl rfl (ok_X9_ones ((L 444 (p2.toNatClampNeg)) ^^^ (L 446 (p2.toNatClampNeg))) I L h) ?_ ?_
      · intro e9 u9 hx9
        exact hx9.elim
      intro v9 u9 hv9
      obtain ⟨r3575, rfl, rfl, h⟩ := hv9
      refine ⟨fun q => absurd q (Nat.lt_irrefl _), ?_⟩
      show V G Y_X9_propertyOf 119 _ (.int r3575 :: _) _ _ _ _ _
      exact v_iret 46 rfl rfl (by decide) (by decide) ⟨_, _, rfl, rfl, h⟩
    | 5, ht9, hj9, hx9 =>
      cases ht9
      replace hx9 := hx9.trans (show Int32.ofInt _ = (5 : Int32) by decide)
      replace h := h.2.2.2.2.2.1 hx9
      refine v_iload_n (pc' := 121) 47 0 rfl rfl rfl rfl ?_
      refine v_if_ge (tgt := 128) (pc' := 124) 48 rfl rfl (by decide) (fun hc => ?_) (fun hc => ?_)
      · replace h := h.1 hc
        refine v_aload_n (pc' := 129) 51 1 rfl rfl rfl rfl ?_
        refine v_getR (t := 437) (pc' := 132) 52 rfl rfl pf_X9_7 ly_436 (lay_lt ly_436 (by decide)) rt_436_1 ?_
        refine v_bipush (v := 9) (pc' := 134) 53 rfl rfl (by decide) ?_
        refine v_iload_n (pc' := 135) 54 0 rfl rfl rfl rfl ?_
        refine v_iadd (pc' := 136) 55 rfl rfl ?_
        obtain ⟨hi3576, h⟩ := h
        refine v_lald (i := ((9 : Int32) + (p2 - (I 436 10)))) (j := ((9 : Int32) + (p2 - (I 436 10))).toNatClampNeg) (pc' := 137) 56 rfl rfl ly_437 ln_437 (lay_lt ly_437 (by decide)) hi3576 rfl ?_
        refine v_cS (Y2 := Y_X9_ones) (As := [.long (L 437 (((9 : Int32) + (p2 - (I 436 10))).toNatClampNeg))]) (pc' := 140) (c1 := 0) (s1 := 0) 57 rfl rfl mf_X9_ones rfl rfl ml_X9_137 ms_X9_ones rfl (Nat.le_of_ble_eq_true rfl) ⟨Nat.le_of_ble_eq_true rfl, Nat.le_of_ble_eq_true rfl⟩ rfl rfl (ok_X9_ones (L 437 (((9 : Int32) + (p2 - (I 436 10))).toNatClampNeg)) I L h) ?_ ?_
        · intro e9 u9 hx9
          exact hx9.elim
        intro v9 u9 hv9
        obtain ⟨r3577, rfl, rfl, h⟩ := hv9
        refine ⟨fun q => absurd q (Nat.lt_irrefl _), ?_⟩
        show V G Y_X9_propertyOf 140 _ (.int r3577 :: _) _ _ _ _ _
        exact v_iret 58 rfl rfl (by decide) (by decide) ⟨_, _, rfl, rfl, h⟩
      replace h := h.2 hc
      refine v_iconst (v := 0) (pc' := 125) 49 rfl rfl (by decide) ?_
      refine v_goto (tgt := 140) 50 rfl (by decide) ?_
      exact v_iret 58 rfl rfl (by decide) (by decide) ⟨_, _, rfl, rfl, h⟩
    | 6, ht9, hj9, hx9 =>
      cases ht9
      replace hx9 := hx9.trans (show Int32.ofInt _ = (6 : Int32) by decide)
      replace h := h.2.2.2.2.2.2.1 hx9
      refine v_iload_n (pc' := 142) 59 0 rfl rfl rfl rfl ?_
      refine v_if_ge (tgt := 149) (pc' := 145) 60 rfl rfl (by decide) (fun hc => ?_) (fun hc => ?_)
      · replace h := h.1 hc
        refine v_aload_n (pc' := 150) 63 1 rfl rfl rfl rfl ?_
        refine v_getR (t := 437) (pc' := 153) 64 rfl rfl pf_X9_7 ly_436 (lay_lt ly_436 (by decide)) rt_436_1 ?_
        refine v_bipush (v := 21) (pc' := 155) 65 rfl rfl (by decide) ?_
        refine v_iload_n (pc' := 156) 66 0 rfl rfl rfl rfl ?_
        refine v_iadd (pc' := 157) 67 rfl rfl ?_
        obtain ⟨hi3578, h⟩ := h
        refine v_lald (i := ((21 : Int32) + (p2 - (I 436 10)))) (j := ((21 : Int32) + (p2 - (I 436 10))).toNatClampNeg) (pc' := 158) 68 rfl rfl ly_437 ln_437 (lay_lt ly_437 (by decide)) hi3578 rfl ?_
        refine v_aload_n (pc' := 159) 69 1 rfl rfl rfl rfl ?_
        refine v_getR (t := 437) (pc' := 162) 70 rfl rfl pf_X9_7 ly_436 (lay_lt ly_436 (by decide)) rt_436_1 ?_
        refine v_bipush (v := 9) (pc' := 164) 71 rfl rfl (by decide) ?_
        refine v_iload_n (pc' := 165) 72 0 rfl rfl rfl rfl ?_
        refine v_iadd (pc' := 166) 73 rfl rfl ?_
        obtain ⟨hi3579, h⟩ := h
        refine v_lald (i := ((9 : Int32) + (p2 - (I 436 10)))) (j := ((9 : Int32) + (p2 - (I 436 10))).toNatClampNeg) (pc' := 167) 74 rfl rfl ly_437 ln_437 (lay_lt ly_437 (by decide)) hi3579 rfl ?_
        refine v_ldc2 (v := -1) (pc' := 170) 75 rfl rfl kl_X9_111 ?_
        refine v_lxor (pc' := 171) 76 rfl rfl ?_
        refine v_land (pc' := 172) 77 rfl rfl ?_
        refine v_cS (Y2 := Y_X9_ones) (As := [.long ((L 437 (((21 : Int32) + (p2 - (I 436 10))).toNatClampNeg)) &&& ((L 437 (((9 : Int32) + (p2 - (I 436 10))).toNatClampNeg)) ^^^ (-1)))]) (pc' := 175) (c1 := 0) (s1 := 0) 78 rfl rfl mf_X9_ones rfl rfl ml_X9_137 ms_X9_ones rfl (Nat.le_of_ble_eq_true rfl) ⟨Nat.le_of_ble_eq_true rfl, Nat.le_of_ble_eq_true rfl⟩ rfl rfl (ok_X9_ones ((L 437 (((21 : Int32) + (p2 - (I 436 10))).toNatClampNeg)) &&& ((L 437 (((9 : Int32) + (p2 - (I 436 10))).toNatClampNeg)) ^^^ (-1))) I L h) ?_ ?_
        · intro e9 u9 hx9
          exact hx9.elim
        intro v9 u9 hv9
        obtain ⟨r3580, rfl, rfl, h⟩ := hv9
        refine ⟨fun q => absurd q (Nat.lt_irrefl _), ?_⟩
        show V G Y_X9_propertyOf 175 _ (.int r3580 :: _) _ _ _ _ _
        exact v_iret 79 rfl rfl (by decide) (by decide) ⟨_, _, rfl, rfl, h⟩
      replace h := h.2 hc
      refine v_iconst (v := 0) (pc' := 146) 61 rfl rfl (by decide) ?_
      refine v_goto (tgt := 175) 62 rfl (by decide) ?_
      exact v_iret 79 rfl rfl (by decide) (by decide) ⟨_, _, rfl, rfl, h⟩
    | 7, ht9, hj9, hx9 =>
      cases ht9
      replace hx9 := hx9.trans (show Int32.ofInt _ = (7 : Int32) by decide)
      replace h := h.2.2.2.2.2.2.2.1 hx9
      refine v_iload_n (pc' := 177) 80 0 rfl rfl rfl rfl ?_
      refine v_if_ge (tgt := 184) (pc' := 180) 81 rfl rfl (by decide) (fun hc => ?_) (fun hc => ?_)
      · replace h := h.1 hc
        refine v_aload_n (pc' := 185) 84 1 rfl rfl rfl rfl ?_
        refine v_iload_n (pc' := 186) 85 3 rfl rfl rfl rfl ?_
        refine v_cV (Y2 := Y_X9_pulsesOf) (As := [.int p2]) (b := 436) (pc' := 189) (c1 := 0) (s1 := 0) 86 rfl rfl mf_X9_pulsesOf rfl rfl ml_X9_310 mi_X9_pulsesOf se_X9_pulsesOf (ci := 8) rfl ly_436 (lay_lt ly_436 (by decide)) rfl (Nat.le_of_ble_eq_true rfl) ⟨Nat.le_of_ble_eq_true rfl, Nat.le_of_ble_eq_true rfl⟩ rfl rfl (ok_X9_pulsesOf p2 I L h) ?_ ?_
        · intro e9 u9 hx9
          exact hx9.elim
        intro v9 u9 hv9
        obtain ⟨r3581, I3582, rfl, rfl, h⟩ := hv9
        refine ⟨fun q => absurd q (Nat.lt_irrefl _), ?_⟩
        show V G Y_X9_propertyOf 189 _ (.int r3581 :: _) _ _ _ _ _
        exact v_iret 87 rfl rfl (by decide) (by decide) ⟨_, _, rfl, rfl, h⟩
      replace h := h.2 hc
      refine v_iconst (v := 0) (pc' := 181) 82 rfl rfl (by decide) ?_
      refine v_goto (tgt := 189) 83 rfl (by decide) ?_
      exact v_iret 87 rfl rfl (by decide) (by decide) ⟨_, _, rfl, rfl, h⟩
    | q9 + 8, ht9, hj9, hx9 => exact absurd hj9 (by omega)
  replace h := h.2.2.2.2.2.2.2.2 hc
  refine v_aload_n (pc' := 191) 88 1 rfl rfl rfl rfl ?_
  refine v_getR (t := 444) (pc' := 194) 89 rfl rfl pf_X9_32 ly_436 (lay_lt ly_436 (by decide)) rt_436_15 ?_
  refine v_iload_n (pc' := 195) 90 3 rfl rfl rfl rfl ?_
  obtain ⟨hi3583, h⟩ := h
  refine v_lald (i := p2) (j := p2.toNatClampNeg) (pc' := 196) 91 rfl rfl ly_444 ln_444 (lay_lt ly_444 (by decide)) hi3583 rfl ?_
  refine v_aload_n (pc' := 197) 92 1 rfl rfl rfl rfl ?_
  refine v_getI (pc' := 200) 93 rfl rfl pf_X9_86 ly_436 (lay_lt ly_436 (by decide)) ?_
  refine v_cS (Y2 := Y_X9_bit) (As := [.long (L 444 (p2.toNatClampNeg)), .int (I 436 7)]) (pc' := 203) (c1 := 0) (s1 := 0) 94 rfl rfl mf_X9_bit rfl rfl ml_X9_113 ms_X9_bit rfl (Nat.le_of_ble_eq_true rfl) ⟨Nat.le_of_ble_eq_true rfl, Nat.le_of_ble_eq_true rfl⟩ rfl rfl (ok_X9_bit (L 444 (p2.toNatClampNeg)) (I 436 7) I L h) ?_ ?_
  · intro e9 u9 hx9
    exact hx9.elim
  intro v9 u9 hv9
  obtain ⟨r3584, rfl, rfl, h⟩ := hv9
  refine ⟨fun q => absurd q (Nat.lt_irrefl _), ?_⟩
  show V G Y_X9_propertyOf 203 _ (.int r3584 :: _) _ _ _ _ _
  exact v_iret 95 rfl rfl (by decide) (by decide) ⟨_, _, rfl, rfl, h⟩
set_option maxHeartbeats 4000000 in
set_option maxRecDepth 100000 in
theorem b_X9_joined_82 {G : GT} {b d t : Nat} (v1 : Int32) (v2 : Int32) (I : TI) (L : TL)  (Q : Int32 → Prop)  (h : B_X9_joined_82 v1 v2 I L Q) : V G Y_X9_joined 82 [(1, .int v1), (2, .int v2)] [] (I, L, RT b d t, 457) 0 0 (fun v9 u9 => ∃ (r9 : Int32), v9 = some (.int r9) ∧ u9 = (I, L, RT b d t, 457) ∧ Q r9) (fun _ _ => False) := by
  unfold B_X9_joined_82 at h
  refine v_iload_n (pc' := 83) 32 0 rfl rfl rfl rfl ?_
  refine v_iload_n (pc' := 84) 33 1 rfl rfl rfl rfl ?_
  refine v_iadd (pc' := 85) 34 rfl rfl ?_
  refine v_if_le (tgt := 92) (pc' := 88) 35 rfl rfl (by decide) (fun hc => ?_) (fun hc => ?_)
  · replace h := h.1 hc
    refine v_iconst (v := 0) (pc' := 93) 38 rfl rfl (by decide) ?_
    exact v_bret 39 rfl rfl (by decide) (by decide) (by decide) ⟨_, rfl, rfl, h⟩
  replace h := h.2 hc
  refine v_iconst (v := 1) (pc' := 89) 36 rfl rfl (by decide) ?_
  refine v_goto (tgt := 93) 37 rfl (by decide) ?_
  exact v_bret 39 rfl rfl (by decide) (by decide) (by decide) ⟨_, rfl, rfl, h⟩
set_option maxHeartbeats 4000000 in
set_option maxRecDepth 100000 in
theorem ok_X9_joined {G : GT} {b d t : Nat} (p0 : Int32) (p1 : Int32) (p2 : Int32) (I : TI) (L : TL)  {Q : Int32 → Prop} (h : W_X9_joined p0 p1 p2 I L Q) : MW G Y_X9_joined [.int p0, .int p1, .int p2] (I, L, RT b d t, 457) (fun v9 u9 => ∃ (r9 : Int32), v9 = some (.int r9) ∧ u9 = (I, L, RT b d t, 457) ∧ Q r9) (fun _ _ => False) := by
  unfold W_X9_joined at h
  refine MW.intro rfl (by decide) is_X9_joined (Nat.le_of_ble_eq_true rfl) ?_
  show V G Y_X9_joined 0 [(0, .int p0), (1, .int p1), (2, .int p2)] [] (I, L, RT b d t, 457) 0 0 _ _
  refine v_iload_n (pc' := 1) 0 0 rfl rfl rfl rfl ?_
  refine v_ts (clo := 20) (chi := 24) (dt := 82) 1 5 [36, 47, 58, 82, 69] rfl (by decide) (by decide) (by decide) (by decide) (by decide) ?_ (fun hc => ?_)
  · intro j9 t9 ht9 hj9 hx9
    match j9, ht9, hj9, hx9 with
    | 0, ht9, hj9, hx9 =>
      cases ht9
      replace hx9 := hx9.trans (show Int32.ofInt _ = (20 : Int32) by decide)
      replace h := h.1 hx9
      refine v_iload_n (pc' := 37) 2 1 rfl rfl rfl rfl ?_
      refine v_iload_n (pc' := 38) 3 2 rfl rfl rfl rfl ?_
      refine v_icmp_ge (tgt := 45) (pc' := 41) 4 rfl rfl (by decide) (fun hc => ?_) (fun hc => ?_)
      · replace h := h.1 hc
        refine v_iconst (v := 0) (pc' := 46) 7 rfl rfl (by decide) ?_
        exact v_bret 8 rfl rfl (by decide) (by decide) (by decide) ⟨_, rfl, rfl, h⟩
      replace h := h.2 hc
      refine v_iconst (v := 1) (pc' := 42) 5 rfl rfl (by decide) ?_
      refine v_goto (tgt := 46) 6 rfl (by decide) ?_
      exact v_bret 8 rfl rfl (by decide) (by decide) (by decide) ⟨_, rfl, rfl, h⟩
    | 1, ht9, hj9, hx9 =>
      cases ht9
      replace hx9 := hx9.trans (show Int32.ofInt _ = (21 : Int32) by decide)
      replace h := h.2.1 hx9
      refine v_iload_n (pc' := 48) 9 1 rfl rfl rfl rfl ?_
      refine v_iload_n (pc' := 49) 10 2 rfl rfl rfl rfl ?_
      refine v_icmp_ne (tgt := 56) (pc' := 52) 11 rfl rfl (by decide) (fun hc => ?_) (fun hc => ?_)
      · replace h := h.1 hc
        refine v_iconst (v := 0) (pc' := 57) 14 rfl rfl (by decide) ?_
        exact v_bret 15 rfl rfl (by decide) (by decide) (by decide) ⟨_, rfl, rfl, h⟩
      replace h := h.2 hc
      refine v_iconst (v := 1) (pc' := 53) 12 rfl rfl (by decide) ?_
      refine v_goto (tgt := 57) 13 rfl (by decide) ?_
      exact v_bret 15 rfl rfl (by decide) (by decide) (by decide) ⟨_, rfl, rfl, h⟩
    | 2, ht9, hj9, hx9 =>
      cases ht9
      replace hx9 := hx9.trans (show Int32.ofInt _ = (22 : Int32) by decide)
      replace h := h.2.2.1 hx9
      refine v_iload_n (pc' := 59) 16 1 rfl rfl rfl rfl ?_
      refine v_iload_n (pc' := 60) 17 2 rfl rfl rfl rfl ?_
      refine v_icmp_le (tgt := 67) (pc' := 63) 18 rfl rfl (by decide) (fun hc => ?_) (fun hc => ?_)
      · replace h := h.1 hc
        refine v_iconst (v := 0) (pc' := 68) 21 rfl rfl (by decide) ?_
        exact v_bret 22 rfl rfl (by decide) (by decide) (by decide) ⟨_, rfl, rfl, h⟩
      replace h := h.2 hc
      refine v_iconst (v := 1) (pc' := 64) 19 rfl rfl (by decide) ?_
      refine v_goto (tgt := 68) 20 rfl (by decide) ?_
      exact v_bret 22 rfl rfl (by decide) (by decide) (by decide) ⟨_, rfl, rfl, h⟩
    | 3, ht9, hj9, hx9 =>
      cases ht9
      replace hx9 := hx9.trans (show Int32.ofInt _ = (23 : Int32) by decide)
      replace h := h.2.2.2.1 hx9
      refine V.sub [1, 2] rfl ?_
      exact b_X9_joined_82 p1 p2 I L Q h
    | 4, ht9, hj9, hx9 =>
      cases ht9
      replace hx9 := hx9.trans (show Int32.ofInt _ = (24 : Int32) by decide)
      replace h := h.2.2.2.2.1 hx9
      refine v_iload_n (pc' := 70) 23 1 rfl rfl rfl rfl ?_
      refine v_iload_n (pc' := 71) 24 2 rfl rfl rfl rfl ?_
      refine v_iadd (pc' := 72) 25 rfl rfl ?_
      refine v_iconst (v := 2) (pc' := 73) 26 rfl rfl (by decide) ?_
      refine v_icmp_ne (tgt := 80) (pc' := 76) 27 rfl rfl (by decide) (fun hc => ?_) (fun hc => ?_)
      · replace h := h.1 hc
        refine v_iconst (v := 0) (pc' := 81) 30 rfl rfl (by decide) ?_
        exact v_bret 31 rfl rfl (by decide) (by decide) (by decide) ⟨_, rfl, rfl, h⟩
      replace h := h.2 hc
      refine v_iconst (v := 1) (pc' := 77) 28 rfl rfl (by decide) ?_
      refine v_goto (tgt := 81) 29 rfl (by decide) ?_
      exact v_bret 31 rfl rfl (by decide) (by decide) (by decide) ⟨_, rfl, rfl, h⟩
    | q9 + 5, ht9, hj9, hx9 => exact absurd hj9 (by omega)
  replace h := h.2.2.2.2.2 hc
  refine V.sub [1, 2] rfl ?_
  exact b_X9_joined_82 p1 p2 I L Q h
set_option maxHeartbeats 4000000 in
set_option maxRecDepth 100000 in
theorem b_X9_holds_135 {G : GT} {b d t : Nat} (v1 : Int32) (v2 : Int32) (v3 : Int32) (I : TI) (L : TL)  (Q : Int32 → TI → Prop) (R4 : Int32 → Int32 → TI → Prop) (hR4 : ∀ (v2 : Int32) (v3 : Int32) (I : TI), R4 v2 v3 I → V G Y_X9_holds 4 [(0, .ref 436), (1, .int v1), (2, .int v2), (3, .int v3)] [] (I, L, RT b d t, 457) 0 0 (fun v9 u9 => ∃ (r9 : Int32) (I9 : TI), v9 = some (.int r9) ∧ u9 = (I9, L, RT b d t, 457) ∧ Q r9 I9) (fun _ _ => False)) (h : B_X9_holds_135 v1 v2 v3 I L Q R4) : V G Y_X9_holds 135 [(0, .ref 436), (1, .int v1), (2, .int v2), (3, .int v3)] [] (I, L, RT b d t, 457) 0 0 (fun v9 u9 => ∃ (r9 : Int32) (I9 : TI), v9 = some (.int r9) ∧ u9 = (I9, L, RT b d t, 457) ∧ Q r9 I9) (fun _ _ => False) := by
  unfold B_X9_holds_135 at h
  refine v_iinc (v := (v3 + 1)) (ls' := [(3, .int (v3 + 1)), (0, .ref 436), (1, .int v1), (2, .int v2)]) (pc' := 138) 77 3 rfl rfl rfl rfl (by decide) rfl ?_
  refine v_goto (tgt := 4) 78 rfl (by decide) ?_
  refine V.sub [1, 2, 3, 0] rfl ?_
  exact hR4 v2 (v3 + 1) I h
set_option maxHeartbeats 4000000 in
set_option maxRecDepth 100000 in
theorem b_X9_holds_131 {G : GT} {b d t : Nat} (v1 : Int32) (v2 : Int32) (v3 : Int32) (s1 : Int32) (s2 : Int32) (I : TI) (L : TL)  (Q : Int32 → TI → Prop) (R4 : Int32 → Int32 → TI → Prop) (hR4 : ∀ (v2 : Int32) (v3 : Int32) (I : TI), R4 v2 v3 I → V G Y_X9_holds 4 [(0, .ref 436), (1, .int v1), (2, .int v2), (3, .int v3)] [] (I, L, RT b d t, 457) 0 0 (fun v9 u9 => ∃ (r9 : Int32) (I9 : TI), v9 = some (.int r9) ∧ u9 = (I9, L, RT b d t, 457) ∧ Q r9 I9) (fun _ _ => False)) (h : B_X9_holds_131 v1 v2 v3 s1 s2 I L Q R4) : V G Y_X9_holds 131 [(0, .ref 436), (1, .int v1), (2, .int v2), (3, .int v3)] [.int s2, .int s1, .ref 455] (I, L, RT b d t, 457) 0 0 (fun v9 u9 => ∃ (r9 : Int32) (I9 : TI), v9 = some (.int r9) ∧ u9 = (I9, L, RT b d t, 457) ∧ Q r9 I9) (fun _ _ => False) := by
  unfold B_X9_holds_131 at h
  obtain ⟨hi3605, h⟩ := h
  refine v_iast (i := s1) (j := s1.toNatClampNeg) (pc' := 132) 75 rfl rfl ly_455 ln_455 (lay_lt ly_455 (by decide)) hi3605 rfl ?_
  refine v_iinc (v := (v2 + 1)) (ls' := [(2, .int (v2 + 1)), (0, .ref 436), (1, .int v1), (3, .int v3)]) (pc' := 135) 76 2 rfl rfl rfl rfl (by decide) rfl ?_
  refine V.sub [1, 2, 0, 3] rfl ?_
  exact b_X9_holds_135 v1 (v2 + 1) v3 (up2 I 455 (s1.toNatClampNeg) s2) L Q R4 hR4 h
set_option maxHeartbeats 4000000 in
set_option maxRecDepth 100000 in
theorem b_X9_holds_100 {G : GT} {b d t : Nat} (v1 : Int32) (v2 : Int32) (v3 : Int32) (s1 : Int32) (s2 : Int32) (I : TI) (L : TL)  (Q : Int32 → TI → Prop) (R4 : Int32 → Int32 → TI → Prop) (hR4 : ∀ (v2 : Int32) (v3 : Int32) (I : TI), R4 v2 v3 I → V G Y_X9_holds 4 [(0, .ref 436), (1, .int v1), (2, .int v2), (3, .int v3)] [] (I, L, RT b d t, 457) 0 0 (fun v9 u9 => ∃ (r9 : Int32) (I9 : TI), v9 = some (.int r9) ∧ u9 = (I9, L, RT b d t, 457) ∧ Q r9 I9) (fun _ _ => False)) (h : B_X9_holds_100 v1 v2 v3 s1 s2 I L Q R4) : V G Y_X9_holds 100 [(0, .ref 436), (1, .int v1), (2, .int v2), (3, .int v3)] [.int s2, .int s1, .ref 455] (I, L, RT b d t, 457) 0 0 (fun v9 u9 => ∃ (r9 : Int32) (I9 : TI), v9 = some (.int r9) ∧ u9 = (I9, L, RT b d t, 457) ∧ Q r9 I9) (fun _ _ => False) := by
  unfold B_X9_holds_100 at h
  obtain ⟨hi3606, h⟩ := h
  refine v_iast (i := s1) (j := s1.toNatClampNeg) (pc' := 101) 59 rfl rfl ly_455 ln_455 (lay_lt ly_455 (by decide)) hi3606 rfl ?_
  refine v_goto (tgt := 135) 60 rfl (by decide) ?_
  exact b_X9_holds_135 v1 v2 v3 (up2 I 455 (s1.toNatClampNeg) s2) L Q R4 hR4 h
set_option maxHeartbeats 4000000 in
set_option maxRecDepth 100000 in
theorem d_X9_holds_4 {G : GT} {b d t : Nat} (v1 : Int32) (L : TL)  (Q : Int32 → TI → Prop) (R4 : Int32 → Int32 → TI → Prop)  (hR4 : ∀ (v2 : Int32) (v3 : Int32) (I : TI), R4 v2 v3 I → V G Y_X9_holds 4 [(0, .ref 436), (1, .int v1), (2, .int v2), (3, .int v3)] [] (I, L, RT b d t, 457) 0 0 (fun v9 u9 => ∃ (r9 : Int32) (I9 : TI), v9 = some (.int r9) ∧ u9 = (I9, L, RT b d t, 457) ∧ Q r9 I9) (fun _ _ => False)) (v2 : Int32) (v3 : Int32) (I : TI)  (h : D_X9_holds_4 v1 L Q R4 v2 v3 I) : V G Y_X9_holds 4 [(0, .ref 436), (1, .int v1), (2, .int v2), (3, .int v3)] [] (I, L, RT b d t, 457) 0 0 (fun v9 u9 => ∃ (r9 : Int32) (I9 : TI), v9 = some (.int r9) ∧ u9 = (I9, L, RT b d t, 457) ∧ Q r9 I9) (fun _ _ => False) := by
  unfold D_X9_holds_4 at h
  refine v_iload_n (pc' := 5) 4 3 rfl rfl rfl rfl ?_
  refine v_aload_n (pc' := 6) 5 0 rfl rfl rfl rfl ?_
  refine v_getI (pc' := 9) 6 rfl rfl pf_X9_399 ly_436 (lay_lt ly_436 (by decide)) ?_
  refine v_icmp_ge (tgt := 141) (pc' := 12) 7 rfl rfl (by decide) (fun hc => ?_) (fun hc => ?_)
  · replace h := h.1 hc
    refine v_aload_n (pc' := 142) 79 0 rfl rfl rfl rfl ?_
    refine v_getR (t := 455) (pc' := 145) 80 rfl rfl pf_X9_70 ly_436 (lay_lt ly_436 (by decide)) rt_436_39 ?_
    refine v_iconst (v := 0) (pc' := 146) 81 rfl rfl (by decide) ?_
    refine v_iald (i := 0) (j := 0) (pc' := 147) 82 rfl rfl ly_455 ln_455 (lay_lt ly_455 (by decide)) (vp_lit (by decide)) (by decide) ?_
    refine v_iconst (v := 1) (pc' := 148) 83 rfl rfl (by decide) ?_
    refine v_icmp_ne (tgt := 155) (pc' := 151) 84 rfl rfl (by decide) (fun hc => ?_) (fun hc => ?_)
    · replace h := h.1 hc
      refine v_iconst (v := 0) (pc' := 156) 87 rfl rfl (by decide) ?_
      exact v_bret 88 rfl rfl (by decide) (by decide) (by decide) ⟨_, _, rfl, rfl, h⟩
    replace h := h.2 hc
    refine v_iconst (v := 1) (pc' := 152) 85 rfl rfl (by decide) ?_
    refine v_goto (tgt := 156) 86 rfl (by decide) ?_
    exact v_bret 88 rfl rfl (by decide) (by decide) (by decide) ⟨_, _, rfl, rfl, h⟩
  replace h := h.2 hc
  refine v_aload_n (pc' := 13) 8 0 rfl rfl rfl rfl ?_
  refine v_getR (t := 453) (pc' := 16) 9 rfl rfl pf_X9_64 ly_436 (lay_lt ly_436 (by decide)) rt_436_37 ?_
  refine v_iload_n (pc' := 17) 10 3 rfl rfl rfl rfl ?_
  obtain ⟨hi3607, h⟩ := h
  refine v_iald (i := v3) (j := v3.toNatClampNeg) (pc' := 18) 11 rfl rfl ly_453 ln_453 (lay_lt ly_453 (by decide)) hi3607 rfl ?_
  refine v_istore (ls' := [(4, .int (I 453 (v3.toNatClampNeg))), (0, .ref 436), (1, .int v1), (2, .int v2), (3, .int v3)]) (pc' := 20) 12 rfl rfl (by decide) rfl ?_
  refine v_iload (pc' := 22) 13 0 rfl rfl rfl ?_
  refine v_bipush (v := 23) (pc' := 24) 14 rfl rfl (by decide) ?_
  refine v_icmp_ne (tgt := 48) (pc' := 27) 15 rfl rfl (by decide) (fun hc => ?_) (fun hc => ?_)
  · replace h := h.1 hc
    refine v_iload (pc' := 50) 31 0 rfl rfl rfl ?_
    refine v_i2l (pc' := 51) 32 rfl rfl ?_
    refine v_ldc2 (v := 20) (pc' := 54) 33 rfl rfl kl_X9_373 ?_
    refine v_ldc2 (v := 25) (pc' := 57) 34 rfl rfl kl_X9_453 ?_
    refine v_cS (Y2 := Y_X9_in) (As := [.long ((I 453 (v3.toNatClampNeg)).toInt64), .long 20, .long 25]) (pc' := 60) (c1 := 0) (s1 := 0) 35 rfl rfl mf_X9_in rfl rfl ml_X9_232 ms_X9_in rfl (Nat.le_of_ble_eq_true rfl) ⟨Nat.le_of_ble_eq_true rfl, Nat.le_of_ble_eq_true rfl⟩ rfl rfl (ok_X9_in ((I 453 (v3.toNatClampNeg)).toInt64) (20 : Int64) (25 : Int64) I L h) ?_ ?_
    · intro e9 u9 hx9
      exact hx9.elim
    intro v9 u9 hv9
    obtain ⟨r3608, rfl, rfl, h⟩ := hv9
    refine ⟨fun q => absurd q (Nat.lt_irrefl _), ?_⟩
    show V G Y_X9_holds 60 _ (.int r3608 :: _) _ _ _ _ _
    refine v_if_eq (tgt := 104) (pc' := 63) 36 rfl rfl (by decide) (fun hc => ?_) (fun hc => ?_)
    · replace h := h.1 hc
      refine v_aload_n (pc' := 105) 61 1 rfl rfl rfl rfl ?_
      refine v_getR (t := 455) (pc' := 108) 62 rfl rfl pf_X9_70 ly_436 (lay_lt ly_436 (by decide)) rt_436_39 ?_
      refine v_iload_n (pc' := 109) 63 3 rfl rfl rfl rfl ?_
      refine v_iload (pc' := 111) 64 0 rfl rfl rfl ?_
      refine v_bipush (v := 100) (pc' := 113) 65 rfl rfl (by decide) ?_
      refine v_icmp_lt (tgt := 124) (pc' := 116) 66 rfl rfl (by decide) (fun hc => ?_) (fun hc => ?_)
      · replace h := h.1 hc
        refine v_aload_n (pc' := 125) 71 1 rfl rfl rfl rfl ?_
        refine v_iload (pc' := 127) 72 0 rfl rfl rfl ?_
        refine v_iload_n (pc' := 128) 73 2 rfl rfl rfl rfl ?_
        refine v_cV (Y2 := Y_X9_propertyOf) (As := [.int (I 453 (v3.toNatClampNeg)), .int v1]) (b := 436) (pc' := 131) (c1 := 0) (s1 := 0) 74 rfl rfl mf_X9_propertyOf rfl rfl ml_X9_458 mi_X9_propertyOf se_X9_propertyOf (ci := 8) rfl ly_436 (lay_lt ly_436 (by decide)) rfl (Nat.le_of_ble_eq_true rfl) ⟨Nat.le_of_ble_eq_true rfl, Nat.le_of_ble_eq_true rfl⟩ rfl rfl (ok_X9_propertyOf (I 453 (v3.toNatClampNeg)) v1 I L h) ?_ ?_
        · intro e9 u9 hx9
          exact hx9.elim
        intro v9 u9 hv9
        obtain ⟨r3609, I3610, rfl, rfl, h⟩ := hv9
        refine ⟨fun q => absurd q (Nat.lt_irrefl _), ?_⟩
        show V G Y_X9_holds 131 _ (.int r3609 :: _) _ _ _ _ _
        refine V.sub [1, 2, 3, 4] rfl ?_
        exact b_X9_holds_131 v1 v2 v3 v2 r3609 I3610 L Q R4 hR4 h
      replace h := h.2 hc
      refine v_iload (pc' := 118) 67 0 rfl rfl rfl ?_
      refine v_bipush (v := 100) (pc' := 120) 68 rfl rfl (by decide) ?_
      refine v_isub (pc' := 121) 69 rfl rfl ?_
      refine v_goto (tgt := 131) 70 rfl (by decide) ?_
      refine V.sub [1, 2, 3, 4] rfl ?_
      exact b_X9_holds_131 v1 v2 v3 v2 ((I 453 (v3.toNatClampNeg)) - 100) I L Q R4 hR4 h
    replace h := h.2 hc
    refine v_iinc (v := (v2 + (-1))) (ls' := [(2, .int (v2 + (-1))), (4, .int (I 453 (v3.toNatClampNeg))), (0, .ref 436), (1, .int v1), (3, .int v3)]) (pc' := 66) 37 3 rfl rfl rfl rfl (by decide) rfl ?_
    refine v_aload_n (pc' := 67) 38 2 rfl rfl rfl rfl ?_
    refine v_getR (t := 455) (pc' := 70) 39 rfl rfl pf_X9_70 ly_436 (lay_lt ly_436 (by decide)) rt_436_39 ?_
    refine v_iload_n (pc' := 71) 40 0 rfl rfl rfl rfl ?_
    refine v_iconst (v := 1) (pc' := 72) 41 rfl rfl (by decide) ?_
    refine v_isub (pc' := 73) 42 rfl rfl ?_
    refine v_iload (pc' := 75) 43 1 rfl rfl rfl ?_
    refine v_aload_n (pc' := 76) 44 2 rfl rfl rfl rfl ?_
    refine v_getR (t := 455) (pc' := 79) 45 rfl rfl pf_X9_70 ly_436 (lay_lt ly_436 (by decide)) rt_436_39 ?_
    refine v_iload_n (pc' := 80) 46 0 rfl rfl rfl rfl ?_
    refine v_iconst (v := 1) (pc' := 81) 47 rfl rfl (by decide) ?_
    refine v_isub (pc' := 82) 48 rfl rfl ?_
    obtain ⟨hi3611, h⟩ := h
    refine v_iald (i := ((v2 + (-1)) - 1)) (j := ((v2 + (-1)) - 1).toNatClampNeg) (pc' := 83) 49 rfl rfl ly_455 ln_455 (lay_lt ly_455 (by decide)) hi3611 rfl ?_
    refine v_aload_n (pc' := 84) 50 2 rfl rfl rfl rfl ?_
    refine v_getR (t := 455) (pc' := 87) 51 rfl rfl pf_X9_70 ly_436 (lay_lt ly_436 (by decide)) rt_436_39 ?_
    refine v_iload_n (pc' := 88) 52 0 rfl rfl rfl rfl ?_
    obtain ⟨hi3612, h⟩ := h
    refine v_iald (i := (v2 + (-1))) (j := (v2 + (-1)).toNatClampNeg) (pc' := 89) 53 rfl rfl ly_455 ln_455 (lay_lt ly_455 (by decide)) hi3612 rfl ?_
    refine v_cS (Y2 := Y_X9_joined) (As := [.int (I 453 (v3.toNatClampNeg)), .int (I 455 (((v2 + (-1)) - 1).toNatClampNeg)), .int (I 455 ((v2 + (-1)).toNatClampNeg))]) (pc' := 92) (c1 := 0) (s1 := 0) 54 rfl rfl mf_X9_joined rfl rfl ml_X9_455 ms_X9_joined rfl (Nat.le_of_ble_eq_true rfl) ⟨Nat.le_of_ble_eq_true rfl, Nat.le_of_ble_eq_true rfl⟩ rfl rfl (ok_X9_joined (I 453 (v3.toNatClampNeg)) (I 455 (((v2 + (-1)) - 1).toNatClampNeg)) (I 455 ((v2 + (-1)).toNatClampNeg)) I L h) ?_ ?_
    · intro e9 u9 hx9
      exact hx9.elim
    intro v9 u9 hv9
    obtain ⟨r3613, rfl, rfl, h⟩ := hv9
    refine ⟨fun q => absurd q (Nat.lt_irrefl _), ?_⟩
    show V G Y_X9_holds 92 _ (.int r3613 :: _) _ _ _ _ _
    refine v_if_eq (tgt := 99) (pc' := 95) 55 rfl rfl (by decide) (fun hc => ?_) (fun hc => ?_)
    · replace h := h.1 hc
      refine v_iconst (v := 0) (pc' := 100) 58 rfl rfl (by decide) ?_
      refine V.sub [2, 3, 0, 4] rfl ?_
      exact b_X9_holds_100 v1 (v2 + (-1)) v3 ((v2 + (-1)) - 1) (0 : Int32) I L Q R4 hR4 h
    replace h := h.2 hc
    refine v_iconst (v := 1) (pc' := 96) 56 rfl rfl (by decide) ?_
    refine v_goto (tgt := 100) 57 rfl (by decide) ?_
    refine V.sub [2, 3, 0, 4] rfl ?_
    exact b_X9_holds_100 v1 (v2 + (-1)) v3 ((v2 + (-1)) - 1) (1 : Int32) I L Q R4 hR4 h
  replace h := h.2 hc
  refine v_aload_n (pc' := 28) 16 1 rfl rfl rfl rfl ?_
  refine v_getR (t := 455) (pc' := 31) 17 rfl rfl pf_X9_70 ly_436 (lay_lt ly_436 (by decide)) rt_436_39 ?_
  refine v_iload_n (pc' := 32) 18 3 rfl rfl rfl rfl ?_
  refine v_iconst (v := 1) (pc' := 33) 19 rfl rfl (by decide) ?_
  refine v_isub (pc' := 34) 20 rfl rfl ?_
  refine v_iconst (v := 1) (pc' := 35) 21 rfl rfl (by decide) ?_
  refine v_aload_n (pc' := 36) 22 1 rfl rfl rfl rfl ?_
  refine v_getR (t := 455) (pc' := 39) 23 rfl rfl pf_X9_70 ly_436 (lay_lt ly_436 (by decide)) rt_436_39 ?_
  refine v_iload_n (pc' := 40) 24 3 rfl rfl rfl rfl ?_
  refine v_iconst (v := 1) (pc' := 41) 25 rfl rfl (by decide) ?_
  refine v_isub (pc' := 42) 26 rfl rfl ?_
  obtain ⟨hi3614, h⟩ := h
  refine v_iald (i := (v2 - 1)) (j := (v2 - 1).toNatClampNeg) (pc' := 43) 27 rfl rfl ly_455 ln_455 (lay_lt ly_455 (by decide)) hi3614 rfl ?_
  refine v_isub (pc' := 44) 28 rfl rfl ?_
  obtain ⟨hi3615, h⟩ := h
  refine v_iast (i := (v2 - 1)) (j := (v2 - 1).toNatClampNeg) (pc' := 45) 29 rfl rfl ly_455 ln_455 (lay_lt ly_455 (by decide)) hi3615 rfl ?_
  refine nm_M (e := (up2 I 455 ((v2 - 1).toNatClampNeg) ((1 : Int32) - (I 455 ((v2 - 1).toNatClampNeg))))) (fun I3616 hI3616 => ?_)
  replace h := h I3616 hI3616
  refine v_goto (tgt := 135) 30 rfl (by decide) ?_
  refine V.sub [1, 2, 3, 4] rfl ?_
  exact b_X9_holds_135 v1 v2 v3 I3616 L Q R4 hR4 h
theorem l_X9_holds_4 {G : GT} {b d t : Nat} (v1 : Int32) (L : TL)  (Q : Int32 → TI → Prop)  : ∀ (n9 : Nat) (v2 : Int32) (v3 : Int32) (I : TI), L_X9_holds_4 v1 L Q n9 v2 v3 I → V G Y_X9_holds 4 [(0, .ref 436), (1, .int v1), (2, .int v2), (3, .int v3)] [] (I, L, RT b d t, 457) 0 0 (fun v9 u9 => ∃ (r9 : Int32) (I9 : TI), v9 = some (.int r9) ∧ u9 = (I9, L, RT b d t, 457) ∧ Q r9 I9) (fun _ _ => False)
  | 0, _, _, _, h => h.elim
  | n9 + 1, v2, v3, I, h => d_X9_holds_4 v1 L Q _ (l_X9_holds_4 v1 L Q n9) v2 v3 I h
set_option maxHeartbeats 4000000 in
set_option maxRecDepth 100000 in
theorem ok_X9_holds {G : GT} {b d t : Nat} (p1 : Int32) (I : TI) (L : TL)  {Q : Int32 → TI → Prop} (h : W_X9_holds p1 I L Q) : MW G Y_X9_holds [.ref 436, .int p1] (I, L, RT b d t, 457) (fun v9 u9 => ∃ (r9 : Int32) (I9 : TI), v9 = some (.int r9) ∧ u9 = (I9, L, RT b d t, 457) ∧ Q r9 I9) (fun _ _ => False) := by
  unfold W_X9_holds at h
  refine MW.intro rfl (by decide) is_X9_holds (Nat.le_of_ble_eq_true rfl) ?_
  show V G Y_X9_holds 0 [(0, .ref 436), (1, .int p1)] [] (I, L, RT b d t, 457) 0 0 _ _
  refine v_iconst (v := 0) (pc' := 1) 0 rfl rfl (by decide) ?_
  refine v_istore_n (ls' := [(2, .int 0), (0, .ref 436), (1, .int p1)]) (pc' := 2) 1 rfl rfl rfl (by decide) rfl ?_
  refine v_iconst (v := 0) (pc' := 3) 2 rfl rfl (by decide) ?_
  refine v_istore_n (ls' := [(3, .int 0), (2, .int 0), (0, .ref 436), (1, .int p1)]) (pc' := 4) 3 rfl rfl rfl (by decide) rfl ?_
  refine V.sub [2, 3, 1, 0] rfl ?_
  obtain ⟨n3617, h⟩ := h
  exact l_X9_holds_4 p1 L Q n3617 (0 : Int32) (0 : Int32) I h
set_option maxHeartbeats 4000000 in
set_option maxRecDepth 100000 in
theorem b_X9_query_125 {G : GT} {b d t : Nat} (v2 : Int32) (v3 : Int32) (v4 : Int32) (I : TI) (L : TL)  (Q : Int32 → TI → TL → Prop) (R94 : Int32 → Int32 → TI → Prop) (hR94 : ∀ (v3 : Int32) (v4 : Int32) (I : TI), R94 v3 v4 I → V G Y_X9_query 94 [(0, .ref 436), (2, .int v2), (3, .int v3), (4, .int v4)] [] (I, L, RT b d t, 457) 0 0 (fun v9 u9 => ∃ (r9 : Int32) (I9 : TI) (L9 : TL), v9 = some (.int r9) ∧ u9 = (I9, L9, RT b d t, 457) ∧ Q r9 I9 L9) (fun _ _ => False)) (h : B_X9_query_125 v2 v3 v4 I L Q R94) : V G Y_X9_query 125 [(0, .ref 436), (2, .int v2), (3, .int v3), (4, .int v4)] [] (I, L, RT b d t, 457) 0 0 (fun v9 u9 => ∃ (r9 : Int32) (I9 : TI) (L9 : TL), v9 = some (.int r9) ∧ u9 = (I9, L9, RT b d t, 457) ∧ Q r9 I9 L9) (fun _ _ => False) := by
  unfold B_X9_query_125 at h
  refine v_iinc (v := (v4 + 1)) (ls' := [(4, .int (v4 + 1)), (0, .ref 436), (2, .int v2), (3, .int v3)]) (pc' := 128) 65 3 rfl rfl rfl rfl (by decide) rfl ?_
  refine v_goto (tgt := 94) 66 rfl (by decide) ?_
  refine V.sub [1, 2, 3, 0] rfl ?_
  exact hR94 v3 (v4 + 1) I h
set_option maxHeartbeats 4000000 in
set_option maxRecDepth 100000 in
theorem d_X9_query_94 {G : GT} {b d t : Nat} (v2 : Int32) (L : TL)  (Q : Int32 → TI → TL → Prop) (R94 : Int32 → Int32 → TI → Prop)  (hR94 : ∀ (v3 : Int32) (v4 : Int32) (I : TI), R94 v3 v4 I → V G Y_X9_query 94 [(0, .ref 436), (2, .int v2), (3, .int v3), (4, .int v4)] [] (I, L, RT b d t, 457) 0 0 (fun v9 u9 => ∃ (r9 : Int32) (I9 : TI) (L9 : TL), v9 = some (.int r9) ∧ u9 = (I9, L9, RT b d t, 457) ∧ Q r9 I9 L9) (fun _ _ => False)) (v3 : Int32) (v4 : Int32) (I : TI)  (h : D_X9_query_94 v2 L Q R94 v3 v4 I) : V G Y_X9_query 94 [(0, .ref 436), (2, .int v2), (3, .int v3), (4, .int v4)] [] (I, L, RT b d t, 457) 0 0 (fun v9 u9 => ∃ (r9 : Int32) (I9 : TI) (L9 : TL), v9 = some (.int r9) ∧ u9 = (I9, L9, RT b d t, 457) ∧ Q r9 I9 L9) (fun _ _ => False) := by
  unfold D_X9_query_94 at h
  refine v_iload (pc' := 96) 51 3 rfl rfl rfl ?_
  refine v_aload_n (pc' := 97) 52 0 rfl rfl rfl rfl ?_
  refine v_cV (Y2 := Y_X9_nets) (As := []) (b := 436) (pc' := 100) (c1 := 0) (s1 := 0) 53 rfl rfl mf_X9_nets rfl rfl ml_X9_95 mi_X9_nets se_X9_nets (ci := 8) rfl ly_436 (lay_lt ly_436 (by decide)) rfl (Nat.le_of_ble_eq_true rfl) ⟨Nat.le_of_ble_eq_true rfl, Nat.le_of_ble_eq_true rfl⟩ rfl rfl (ok_X9_nets I L h) ?_ ?_
  · intro e9 u9 hx9
    exact hx9.elim
  intro v9 u9 hv9
  obtain ⟨r3678, rfl, rfl, h⟩ := hv9
  refine ⟨fun q => absurd q (Nat.lt_irrefl _), ?_⟩
  show V G Y_X9_query 100 _ (.int r3678 :: _) _ _ _ _ _
  refine v_icmp_ge (tgt := 131) (pc' := 103) 54 rfl rfl (by decide) (fun hc => ?_) (fun hc => ?_)
  · replace h := h.1 hc
    refine v_iload_n (pc' := 132) 67 1 rfl rfl rfl rfl ?_
    refine v_if_eq (tgt := 139) (pc' := 135) 68 rfl rfl (by decide) (fun hc => ?_) (fun hc => ?_)
    · replace h := h.1 hc
      refine v_iload_n (pc' := 140) 71 2 rfl rfl rfl rfl ?_
      exact v_iret 72 rfl rfl (by decide) (by decide) ⟨_, _, _, rfl, rfl, h⟩
    replace h := h.2 hc
    refine v_iconst (v := -1) (pc' := 136) 69 rfl rfl (by decide) ?_
    refine v_goto (tgt := 140) 70 rfl (by decide) ?_
    exact v_iret 72 rfl rfl (by decide) (by decide) ⟨_, _, _, rfl, rfl, h⟩
  replace h := h.2 hc
  refine v_aload_n (pc' := 104) 55 0 rfl rfl rfl rfl ?_
  refine v_iload (pc' := 106) 56 3 rfl rfl rfl ?_
  refine v_cV (Y2 := Y_X9_holds) (As := [.int v4]) (b := 436) (pc' := 109) (c1 := 0) (s1 := 0) 57 rfl rfl mf_X9_holds rfl rfl ml_X9_469 mi_X9_holds se_X9_holds (ci := 8) rfl ly_436 (lay_lt ly_436 (by decide)) rfl (Nat.le_of_ble_eq_true rfl) ⟨Nat.le_of_ble_eq_true rfl, Nat.le_of_ble_eq_true rfl⟩ rfl rfl (ok_X9_holds v4 I L h) ?_ ?_
  · intro e9 u9 hx9
    exact hx9.elim
  intro v9 u9 hv9
  obtain ⟨r3679, I3680, rfl, rfl, h⟩ := hv9
  refine ⟨fun q => absurd q (Nat.lt_irrefl _), ?_⟩
  show V G Y_X9_query 109 _ (.int r3679 :: _) _ _ _ _ _
  refine v_if_ne (tgt := 115) (pc' := 112) 58 rfl rfl (by decide) (fun hc => ?_) (fun hc => ?_)
  · replace h := h.1 hc
    refine v_iload_n (pc' := 116) 60 1 rfl rfl rfl rfl ?_
    refine v_if_eq (tgt := 122) (pc' := 119) 61 rfl rfl (by decide) (fun hc => ?_) (fun hc => ?_)
    · replace h := h.1 hc
      refine v_iinc (v := (v3 + 1)) (ls' := [(3, .int (v3 + 1)), (0, .ref 436), (2, .int v2), (4, .int v4)]) (pc' := 125) 64 2 rfl rfl rfl rfl (by decide) rfl ?_
      refine V.sub [1, 2, 0, 3] rfl ?_
      exact b_X9_query_125 v2 (v3 + 1) v4 I3680 L Q R94 hR94 h
    replace h := h.2 hc
    refine v_iload (pc' := 121) 62 3 rfl rfl rfl ?_
    exact v_iret 63 rfl rfl (by decide) (by decide) ⟨_, _, _, rfl, rfl, h⟩
  replace h := h.2 hc
  refine v_goto (tgt := 125) 59 rfl (by decide) ?_
  exact b_X9_query_125 v2 v3 v4 I3680 L Q R94 hR94 h
theorem l_X9_query_94 {G : GT} {b d t : Nat} (v2 : Int32) (L : TL)  (Q : Int32 → TI → TL → Prop)  : ∀ (n9 : Nat) (v3 : Int32) (v4 : Int32) (I : TI), L_X9_query_94 v2 L Q n9 v3 v4 I → V G Y_X9_query 94 [(0, .ref 436), (2, .int v2), (3, .int v3), (4, .int v4)] [] (I, L, RT b d t, 457) 0 0 (fun v9 u9 => ∃ (r9 : Int32) (I9 : TI) (L9 : TL), v9 = some (.int r9) ∧ u9 = (I9, L9, RT b d t, 457) ∧ Q r9 I9 L9) (fun _ _ => False)
  | 0, _, _, _, h => h.elim
  | n9 + 1, v3, v4, I, h => d_X9_query_94 v2 L Q _ (l_X9_query_94 v2 L Q n9) v3 v4 I h
set_option maxHeartbeats 4000000 in
set_option maxRecDepth 100000 in
theorem b_X9_query_65 {G : GT} {b d t : Nat} (v2 : Int32) (I : TI) (L : TL)  (Q : Int32 → TI → TL → Prop)  (h : B_X9_query_65 v2 I L Q) : V G Y_X9_query 65 [(0, .ref 436), (2, .int v2)] [] (I, L, RT b d t, 457) 0 0 (fun v9 u9 => ∃ (r9 : Int32) (I9 : TI) (L9 : TL), v9 = some (.int r9) ∧ u9 = (I9, L9, RT b d t, 457) ∧ Q r9 I9 L9) (fun _ _ => False) := by
  unfold B_X9_query_65 at h
  refine v_aload_n (pc' := 66) 35 0 rfl rfl rfl rfl ?_
  refine v_cV (Y2 := Y_X9_reads) (As := []) (b := 436) (pc' := 69) (c1 := 0) (s1 := 0) 36 rfl rfl mf_X9_reads rfl rfl ml_X9_465 mi_X9_reads se_X9_reads (ci := 8) rfl ly_436 (lay_lt ly_436 (by decide)) rfl (Nat.le_of_ble_eq_true rfl) ⟨Nat.le_of_ble_eq_true rfl, Nat.le_of_ble_eq_true rfl⟩ rfl rfl (ok_X9_reads I L h) ?_ ?_
  · intro e9 u9 hx9
    exact hx9.elim
  intro v9 u9 hv9
  obtain ⟨I3681, L3682, rfl, rfl, h⟩ := hv9
  refine ⟨fun q => absurd q (Nat.lt_irrefl _), ?_⟩
  show V G Y_X9_query 69 _ _ _ _ _ _ _
  refine v_aload_n (pc' := 70) 37 0 rfl rfl rfl rfl ?_
  refine v_cV (Y2 := Y_X9_isGood) (As := []) (b := 436) (pc' := 73) (c1 := 0) (s1 := 0) 38 rfl rfl mf_X9_isGood rfl rfl ml_X9_218 mi_X9_isGood se_X9_isGood (ci := 8) rfl ly_436 (lay_lt ly_436 (by decide)) rfl (Nat.le_of_ble_eq_true rfl) ⟨Nat.le_of_ble_eq_true rfl, Nat.le_of_ble_eq_true rfl⟩ rfl rfl (ok_X9_isGood I3681 L3682 h) ?_ ?_
  · intro e9 u9 hx9
    exact hx9.elim
  intro v9 u9 hv9
  obtain ⟨r3683, rfl, rfl, h⟩ := hv9
  refine ⟨fun q => absurd q (Nat.lt_irrefl _), ?_⟩
  show V G Y_X9_query 73 _ (.int r3683 :: _) _ _ _ _ _
  refine v_if_ne (tgt := 85) (pc' := 76) 39 rfl rfl (by decide) (fun hc => ?_) (fun hc => ?_)
  · replace h := h.1 hc
    refine v_aload_n (pc' := 86) 45 0 rfl rfl rfl rfl ?_
    refine v_cV (Y2 := Y_X9_waves) (As := []) (b := 436) (pc' := 89) (c1 := 0) (s1 := 0) 46 rfl rfl mf_X9_waves rfl rfl ml_X9_302 mi_X9_waves se_X9_waves (ci := 8) rfl ly_436 (lay_lt ly_436 (by decide)) rfl (Nat.le_of_ble_eq_true rfl) ⟨Nat.le_of_ble_eq_true rfl, Nat.le_of_ble_eq_true rfl⟩ rfl rfl (ok_X9_waves I3681 L3682 h) ?_ ?_
    · intro e9 u9 hx9
      exact hx9.elim
    intro v9 u9 hv9
    obtain ⟨L3684, rfl, rfl, h⟩ := hv9
    refine ⟨fun q => absurd q (Nat.lt_irrefl _), ?_⟩
    show V G Y_X9_query 89 _ _ _ _ _ _ _
    refine v_iconst (v := 0) (pc' := 90) 47 rfl rfl (by decide) ?_
    refine v_istore_n (ls' := [(3, .int 0), (0, .ref 436), (2, .int v2)]) (pc' := 91) 48 rfl rfl rfl (by decide) rfl ?_
    refine v_iconst (v := 0) (pc' := 92) 49 rfl rfl (by decide) ?_
    refine v_istore (ls' := [(4, .int 0), (3, .int 0), (0, .ref 436), (2, .int v2)]) (pc' := 94) 50 rfl rfl (by decide) rfl ?_
    refine V.sub [2, 3, 1, 0] rfl ?_
    obtain ⟨n3685, h⟩ := h
    exact l_X9_query_94 v2 L3684 Q n3685 (0 : Int32) (0 : Int32) I3681 h
  replace h := h.2 hc
  refine v_ldc_w (v := -1000000000) (pc' := 79) 40 rfl rfl ki_X9_468 ?_
  refine v_aload_n (pc' := 80) 41 0 rfl rfl rfl rfl ?_
  refine v_getI (pc' := 83) 42 rfl rfl pf_X9_212 ly_436 (lay_lt ly_436 (by decide)) ?_
  refine v_isub (pc' := 84) 43 rfl rfl ?_
  exact v_iret 44 rfl rfl (by decide) (by decide) ⟨_, _, _, rfl, rfl, h⟩
set_option maxHeartbeats 4000000 in
set_option maxRecDepth 100000 in
theorem ok_X9_query {G : GT} {b d t : Nat} (p1 : Int32) (I : TI) (L : TL)  {Q : Int32 → TI → TL → Prop} (h : W_X9_query p1 I L Q) : MW G Y_X9_query [.ref 436, .int p1] (I, L, RT b d t, 457) (fun v9 u9 => ∃ (r9 : Int32) (I9 : TI) (L9 : TL), v9 = some (.int r9) ∧ u9 = (I9, L9, RT b d t, 457) ∧ Q r9 I9 L9) (fun _ _ => False) := by
  unfold W_X9_query at h
  refine MW.intro rfl (by decide) is_X9_query (Nat.le_of_ble_eq_true rfl) ?_
  show V G Y_X9_query 0 [(0, .ref 436), (1, .int p1)] [] (I, L, RT b d t, 457) 0 0 _ _
  refine v_aload_n (pc' := 1) 0 0 rfl rfl rfl rfl ?_
  refine v_iconst (v := 0) (pc' := 2) 1 rfl rfl (by decide) ?_
  refine v_putI (pc' := 5) 2 rfl rfl pf_X9_80 (fun q => absurd q (by decide)) ly_436 (lay_lt ly_436 (by decide)) ?_
  refine v_aload_n (pc' := 6) 3 0 rfl rfl rfl rfl ?_
  refine v_iload_n (pc' := 7) 4 1 rfl rfl rfl rfl ?_
  refine v_i2l (pc' := 8) 5 rfl rfl ?_
  refine v_lconst (v := 0) (pc' := 9) 6 rfl rfl (by decide) ?_
  refine v_aload_n (pc' := 10) 7 0 rfl rfl rfl rfl ?_
  refine v_getI (pc' := 13) 8 rfl rfl pf_X9_164 ly_436 (lay_lt ly_436 (by decide)) ?_
  refine v_sipush (v := 200) (pc' := 16) 9 rfl rfl (by decide) ?_
  refine v_cS (Y2 := Y_X9_lesser) (As := [.int ((up2 I 436 0 0) 436 22), .int 200]) (pc' := 19) (c1 := 0) (s1 := 0) 10 rfl rfl mf_X9_lesser rfl rfl ml_X9_322 ms_X9_lesser rfl (Nat.le_of_ble_eq_true rfl) ⟨Nat.le_of_ble_eq_true rfl, Nat.le_of_ble_eq_true rfl⟩ rfl rfl (ok_X9_lesser ((up2 I 436 0 0) 436 22) (200 : Int32) (up2 I 436 0 0) L h) ?_ ?_
  · intro e9 u9 hx9
    exact hx9.elim
  intro v9 u9 hv9
  obtain ⟨r3686, rfl, rfl, h⟩ := hv9
  refine ⟨fun q => absurd q (Nat.lt_irrefl _), ?_⟩
  show V G Y_X9_query 19 _ (.int r3686 :: _) _ _ _ _ _
  refine v_i2l (pc' := 20) 11 rfl rfl ?_
  refine v_cS (Y2 := Y_X9_in) (As := [.long (p1.toInt64), .long 0, .long (r3686.toInt64)]) (pc' := 23) (c1 := 0) (s1 := 0) 12 rfl rfl mf_X9_in rfl rfl ml_X9_232 ms_X9_in rfl (Nat.le_of_ble_eq_true rfl) ⟨Nat.le_of_ble_eq_true rfl, Nat.le_of_ble_eq_true rfl⟩ rfl rfl (ok_X9_in (p1.toInt64) (0 : Int64) (r3686.toInt64) (up2 I 436 0 0) L h) ?_ ?_
  · intro e9 u9 hx9
    exact hx9.elim
  intro v9 u9 hv9
  obtain ⟨r3687, rfl, rfl, h⟩ := hv9
  refine ⟨fun q => absurd q (Nat.lt_irrefl _), ?_⟩
  show V G Y_X9_query 23 _ (.int r3687 :: _) _ _ _ _ _
  refine v_iconst (v := 1) (pc' := 24) 13 rfl rfl (by decide) ?_
  refine v_cV (Y2 := Y_X9_fails) (As := [.int r3687, .int 1]) (b := 436) (pc' := 27) (c1 := 0) (s1 := 0) 14 rfl rfl mf_X9_fails rfl rfl ml_X9_280 mi_X9_fails se_X9_fails (ci := 8) rfl ly_436 (lay_lt ly_436 (by decide)) rfl (Nat.le_of_ble_eq_true rfl) ⟨Nat.le_of_ble_eq_true rfl, Nat.le_of_ble_eq_true rfl⟩ rfl rfl (ok_X9_fails r3687 (1 : Int32) (up2 I 436 0 0) L h) ?_ ?_
  · intro e9 u9 hx9
    exact hx9.elim
  intro v9 u9 hv9
  obtain ⟨r3688, I3689, rfl, rfl, h⟩ := hv9
  refine ⟨fun q => absurd q (Nat.lt_irrefl _), ?_⟩
  show V G Y_X9_query 27 _ (.int r3688 :: _) _ _ _ _ _
  refine v_if_eq (tgt := 32) (pc' := 30) 15 rfl rfl (by decide) (fun hc => ?_) (fun hc => ?_)
  · replace h := h.1 hc
    refine v_aload_n (pc' := 33) 18 0 rfl rfl rfl rfl ?_
    refine v_iload_n (pc' := 34) 19 1 rfl rfl rfl rfl ?_
    refine v_cV (Y2 := Y_X9_starts) (As := [.int p1]) (b := 436) (pc' := 37) (c1 := 0) (s1 := 0) 20 rfl rfl mf_X9_starts rfl rfl ml_X9_284 mi_X9_starts se_X9_starts (ci := 8) rfl ly_436 (lay_lt ly_436 (by decide)) rfl (Nat.le_of_ble_eq_true rfl) ⟨Nat.le_of_ble_eq_true rfl, Nat.le_of_ble_eq_true rfl⟩ rfl rfl (ok_X9_starts p1 I3689 L h) ?_ ?_
    · intro e9 u9 hx9
      exact hx9.elim
    intro v9 u9 hv9
    obtain ⟨I3690, L3691, rfl, rfl, h⟩ := hv9
    refine ⟨fun q => absurd q (Nat.lt_irrefl _), ?_⟩
    show V G Y_X9_query 37 _ _ _ _ _ _ _
    refine v_aload_n (pc' := 38) 21 0 rfl rfl rfl rfl ?_
    refine v_ldc2 (v := 3379448) (pc' := 41) 22 rfl rfl kl_X9_461 ?_
    refine v_cV (Y2 := Y_X9_passes) (As := [.long 3379448]) (b := 436) (pc' := 44) (c1 := 0) (s1 := 0) 23 rfl rfl mf_X9_passes rfl rfl ml_X9_238 mi_X9_passes se_X9_passes (ci := 8) rfl ly_436 (lay_lt ly_436 (by decide)) rfl (Nat.le_of_ble_eq_true rfl) ⟨Nat.le_of_ble_eq_true rfl, Nat.le_of_ble_eq_true rfl⟩ rfl rfl (ok_X9_passes (3379448 : Int64) I3690 L3691 h) ?_ ?_
    · intro e9 u9 hx9
      exact hx9.elim
    intro v9 u9 hv9
    obtain ⟨r3692, I3693, L3694, rfl, rfl, h⟩ := hv9
    refine ⟨fun q => absurd q (Nat.lt_irrefl _), ?_⟩
    show V G Y_X9_query 44 _ (.int r3692 :: _) _ _ _ _ _
    refine v_istore_n (ls' := [(2, .int r3692), (0, .ref 436), (1, .int p1)]) (pc' := 45) 24 rfl rfl rfl (by decide) rfl ?_
    refine v_iload_n (pc' := 46) 25 0 rfl rfl rfl rfl ?_
    refine v_if_ne (tgt := 65) (pc' := 49) 26 rfl rfl (by decide) (fun hc => ?_) (fun hc => ?_)
    · replace h := h.1 hc
      refine V.sub [1, 0] rfl ?_
      exact b_X9_query_65 r3692 I3693 L3694 Q h
    replace h := h.2 hc
    refine v_aload_n (pc' := 50) 27 1 rfl rfl rfl rfl ?_
    refine v_ldc2 (v := 257011) (pc' := 53) 28 rfl rfl kl_X9_463 ?_
    refine v_cV (Y2 := Y_X9_passes) (As := [.long 257011]) (b := 436) (pc' := 56) (c1 := 0) (s1 := 0) 29 rfl rfl mf_X9_passes rfl rfl ml_X9_238 mi_X9_passes se_X9_passes (ci := 8) rfl ly_436 (lay_lt ly_436 (by decide)) rfl (Nat.le_of_ble_eq_true rfl) ⟨Nat.le_of_ble_eq_true rfl, Nat.le_of_ble_eq_true rfl⟩ rfl rfl (ok_X9_passes (257011 : Int64) I3693 L3694 h) ?_ ?_
    · intro e9 u9 hx9
      exact hx9.elim
    intro v9 u9 hv9
    obtain ⟨r3695, I3696, L3697, rfl, rfl, h⟩ := hv9
    refine ⟨fun q => absurd q (Nat.lt_irrefl _), ?_⟩
    show V G Y_X9_query 56 _ (.int r3695 :: _) _ _ _ _ _
    refine v_if_ne (tgt := 65) (pc' := 59) 30 rfl rfl (by decide) (fun hc => ?_) (fun hc => ?_)
    · replace h := h.1 hc
      refine V.sub [1, 0] rfl ?_
      exact b_X9_query_65 r3692 I3696 L3697 Q h
    replace h := h.2 hc
    refine v_aload_n (pc' := 60) 31 1 rfl rfl rfl rfl ?_
    refine v_iconst (v := 1) (pc' := 61) 32 rfl rfl (by decide) ?_
    refine v_cV (Y2 := Y_X9_faults) (As := [.int 1]) (b := 436) (pc' := 64) (c1 := 0) (s1 := 0) 33 rfl rfl mf_X9_faults rfl rfl ml_X9_229 mi_X9_faults se_X9_faults (ci := 8) rfl ly_436 (lay_lt ly_436 (by decide)) rfl (Nat.le_of_ble_eq_true rfl) ⟨Nat.le_of_ble_eq_true rfl, Nat.le_of_ble_eq_true rfl⟩ rfl rfl (ok_X9_faults (1 : Int32) I3696 L3697 h) ?_ ?_
    · intro e9 u9 hx9
      exact hx9.elim
    intro v9 u9 hv9
    obtain ⟨r3698, I3699, rfl, rfl, h⟩ := hv9
    refine ⟨fun q => absurd q (Nat.lt_irrefl _), ?_⟩
    show V G Y_X9_query 64 _ (.int r3698 :: _) _ _ _ _ _
    refine v_pop (pc' := 65) 34 rfl rfl rfl ?_
    refine V.sub [1, 0] rfl ?_
    exact b_X9_query_65 r3692 I3699 L3697 Q h
  replace h := h.2 hc
  refine v_iconst (v := 0) (pc' := 31) 16 rfl rfl (by decide) ?_
  exact v_iret 17 rfl rfl (by decide) (by decide) ⟨_, _, _, rfl, rfl, h⟩
