set_option maxHeartbeats 4000000 in
set_option maxRecDepth 100000 in
theorem b_X9_value_40 {G : GT} {b d t : Nat} (v1 : Int32) (v2 : Int32) (v3 : Int32) (s1 : Int32) (I : TI) (L : TL)  (Q : Int32 → TI → TL → Prop)  (h : B_X9_value_40 v1 v2 v3 s1 I L Q) : V G Y_X9_value 40 [(0, .ref 436), (1, .int v1), (2, .int v2), (3, .int v3)] [.int s1, .ref 436] (I, L, RT b d t, 457) 0 0 (fun v9 u9 => ∃ (r9 : Int32) (I9 : TI) (L9 : TL), v9 = some (.int r9) ∧ u9 = (I9, L9, RT b d t, 457) ∧ Q r9 I9 L9) (fun _ _ => False) := by
  unfold B_X9_value_40 at h
  refine v_iconst (v := 1) (pc' := 41) 22 rfl rfl (by decide) ?_
  refine v_cV (Y2 := Y_X9_fails) (As := [.int s1, .int 1]) (b := 436) (pc' := 44) (c1 := 0) (s1 := 0) 23 rfl rfl mf_X9_fails rfl rfl ml_X9_280 mi_X9_fails se_X9_fails (ci := 8) rfl ly_436 (lay_lt ly_436 (by decide)) rfl (Nat.le_of_ble_eq_true rfl) ⟨Nat.le_of_ble_eq_true rfl, Nat.le_of_ble_eq_true rfl⟩ rfl rfl (ok_X9_fails s1 (1 : Int32) I L h) ?_ ?_
  · intro e9 u9 hx9
    exact hx9.elim
  intro v9 u9 hv9
  obtain ⟨r2402, I2403, rfl, rfl, h⟩ := hv9
  refine ⟨fun q => absurd q (Nat.lt_irrefl _), ?_⟩
  show V G Y_X9_value 44 _ (.int r2402 :: _) _ _ _ _ _
  refine v_if_eq (tgt := 49) (pc' := 47) 24 rfl rfl (by decide) (fun hc => ?_) (fun hc => ?_)
  · replace h := h.1 hc
    refine v_aload_n (pc' := 50) 27 0 rfl rfl rfl rfl ?_
    refine v_cV (Y2 := Y_X9_waves) (As := []) (b := 436) (pc' := 53) (c1 := 0) (s1 := 0) 28 rfl rfl mf_X9_waves rfl rfl ml_X9_302 mi_X9_waves se_X9_waves (ci := 8) rfl ly_436 (lay_lt ly_436 (by decide)) rfl (Nat.le_of_ble_eq_true rfl) ⟨Nat.le_of_ble_eq_true rfl, Nat.le_of_ble_eq_true rfl⟩ rfl rfl (ok_X9_waves I2403 L h) ?_ ?_
    · intro e9 u9 hx9
      exact hx9.elim
    intro v9 u9 hv9
    obtain ⟨L2404, rfl, rfl, h⟩ := hv9
    refine ⟨fun q => absurd q (Nat.lt_irrefl _), ?_⟩
    show V G Y_X9_value 53 _ _ _ _ _ _ _
    refine v_aload_n (pc' := 54) 29 0 rfl rfl rfl rfl ?_
    refine v_iload_n (pc' := 55) 30 1 rfl rfl rfl rfl ?_
    refine v_iload_n (pc' := 56) 31 3 rfl rfl rfl rfl ?_
    refine v_cV (Y2 := Y_X9_waveOf) (As := [.int v1, .int v3]) (b := 436) (pc' := 59) (c1 := 0) (s1 := 0) 32 rfl rfl mf_X9_waveOf rfl rfl ml_X9_313 mi_X9_waveOf se_X9_waveOf (ci := 8) rfl ly_436 (lay_lt ly_436 (by decide)) rfl (Nat.le_of_ble_eq_true rfl) ⟨Nat.le_of_ble_eq_true rfl, Nat.le_of_ble_eq_true rfl⟩ rfl rfl (ok_X9_waveOf v1 v3 I2403 L2404 h) ?_ ?_
    · intro e9 u9 hx9
      exact hx9.elim
    intro v9 u9 hv9
    obtain ⟨r2405, rfl, rfl, h⟩ := hv9
    refine ⟨fun q => absurd q (Nat.lt_irrefl _), ?_⟩
    show V G Y_X9_value 59 _ (.long r2405 :: _) _ _ _ _ _
    refine v_iload_n (pc' := 60) 33 2 rfl rfl rfl rfl ?_
    refine v_cS (Y2 := Y_X9_bit) (As := [.long r2405, .int v2]) (pc' := 63) (c1 := 0) (s1 := 0) 34 rfl rfl mf_X9_bit rfl rfl ml_X9_113 ms_X9_bit rfl (Nat.le_of_ble_eq_true rfl) ⟨Nat.le_of_ble_eq_true rfl, Nat.le_of_ble_eq_true rfl⟩ rfl rfl (ok_X9_bit r2405 v2 I2403 L2404 h) ?_ ?_
    · intro e9 u9 hx9
      exact hx9.elim
    intro v9 u9 hv9
    obtain ⟨r2406, rfl, rfl, h⟩ := hv9
    refine ⟨fun q => absurd q (Nat.lt_irrefl _), ?_⟩
    show V G Y_X9_value 63 _ (.int r2406 :: _) _ _ _ _ _
    exact v_iret 35 rfl rfl (by decide) (by decide) ⟨_, _, _, rfl, rfl, h⟩
  replace h := h.2 hc
  refine v_iconst (v := 0) (pc' := 48) 25 rfl rfl (by decide) ?_
  exact v_iret 26 rfl rfl (by decide) (by decide) ⟨_, _, _, rfl, rfl, h⟩
set_option maxHeartbeats 4000000 in
set_option maxRecDepth 100000 in
theorem b_X9_value_39 {G : GT} {b d t : Nat} (v1 : Int32) (v2 : Int32) (v3 : Int32) (I : TI) (L : TL)  (Q : Int32 → TI → TL → Prop)  (h : B_X9_value_39 v1 v2 v3 I L Q) : V G Y_X9_value 39 [(0, .ref 436), (1, .int v1), (2, .int v2), (3, .int v3)] [.ref 436] (I, L, RT b d t, 457) 0 0 (fun v9 u9 => ∃ (r9 : Int32) (I9 : TI) (L9 : TL), v9 = some (.int r9) ∧ u9 = (I9, L9, RT b d t, 457) ∧ Q r9 I9 L9) (fun _ _ => False) := by
  unfold B_X9_value_39 at h
  refine v_iconst (v := 0) (pc' := 40) 21 rfl rfl (by decide) ?_
  exact b_X9_value_40 v1 v2 v3 (0 : Int32) I L Q h
set_option maxHeartbeats 4000000 in
set_option maxRecDepth 100000 in
theorem ok_X9_value {G : GT} {b d t : Nat} (p1 : Int32) (p2 : Int32) (p3 : Int32) (I : TI) (L : TL)  {Q : Int32 → TI → TL → Prop} (h : W_X9_value p1 p2 p3 I L Q) : MW G Y_X9_value [.ref 436, .int p1, .int p2, .int p3] (I, L, RT b d t, 457) (fun v9 u9 => ∃ (r9 : Int32) (I9 : TI) (L9 : TL), v9 = some (.int r9) ∧ u9 = (I9, L9, RT b d t, 457) ∧ Q r9 I9 L9) (fun _ _ => False) := by
  unfold W_X9_value at h
  refine MW.intro rfl (by decide) is_X9_value (Nat.le_of_ble_eq_true rfl) ?_
  show V G Y_X9_value 0 [(0, .ref 436), (1, .int p1), (2, .int p2), (3, .int p3)] [] (I, L, RT b d t, 457) 0 0 _ _
  refine v_aload_n (pc' := 1) 0 0 rfl rfl rfl rfl ?_
  refine v_iload_n (pc' := 2) 1 1 rfl rfl rfl rfl ?_
  refine v_cV (Y2 := Y_X9_noNet) (As := [.int p1]) (b := 436) (pc' := 5) (c1 := 0) (s1 := 0) 2 rfl rfl mf_X9_noNet rfl rfl ml_X9_297 mi_X9_noNet se_X9_noNet (ci := 8) rfl ly_436 (lay_lt ly_436 (by decide)) rfl (Nat.le_of_ble_eq_true rfl) ⟨Nat.le_of_ble_eq_true rfl, Nat.le_of_ble_eq_true rfl⟩ rfl rfl (ok_X9_noNet p1 I L h) ?_ ?_
  · intro e9 u9 hx9
    exact hx9.elim
  intro v9 u9 hv9
  obtain ⟨r2407, I2408, rfl, rfl, h⟩ := hv9
  refine ⟨fun q => absurd q (Nat.lt_irrefl _), ?_⟩
  show V G Y_X9_value 5 _ (.int r2407 :: _) _ _ _ _ _
  refine v_if_ne (tgt := 47) (pc' := 8) 3 rfl rfl (by decide) (fun hc => ?_) (fun hc => ?_)
  · replace h := h.1 hc
    refine v_iconst (v := 0) (pc' := 48) 25 rfl rfl (by decide) ?_
    exact v_iret 26 rfl rfl (by decide) (by decide) ⟨_, _, _, rfl, rfl, h⟩
  replace h := h.2 hc
  refine v_aload_n (pc' := 9) 4 0 rfl rfl rfl rfl ?_
  refine v_iload_n (pc' := 10) 5 2 rfl rfl rfl rfl ?_
  refine v_i2l (pc' := 11) 6 rfl rfl ?_
  refine v_lconst (v := 0) (pc' := 12) 7 rfl rfl (by decide) ?_
  refine v_aload_n (pc' := 13) 8 0 rfl rfl rfl rfl ?_
  refine v_getI (pc' := 16) 9 rfl rfl pf_X9_86 ly_436 (lay_lt ly_436 (by decide)) ?_
  refine v_i2l (pc' := 17) 10 rfl rfl ?_
  refine v_cS (Y2 := Y_X9_in) (As := [.long (p2.toInt64), .long 0, .long ((I2408 436 7).toInt64)]) (pc' := 20) (c1 := 0) (s1 := 0) 11 rfl rfl mf_X9_in rfl rfl ml_X9_232 ms_X9_in rfl (Nat.le_of_ble_eq_true rfl) ⟨Nat.le_of_ble_eq_true rfl, Nat.le_of_ble_eq_true rfl⟩ rfl rfl (ok_X9_in (p2.toInt64) (0 : Int64) ((I2408 436 7).toInt64) I2408 L h) ?_ ?_
  · intro e9 u9 hx9
    exact hx9.elim
  intro v9 u9 hv9
  obtain ⟨r2409, rfl, rfl, h⟩ := hv9
  refine ⟨fun q => absurd q (Nat.lt_irrefl _), ?_⟩
  show V G Y_X9_value 20 _ (.int r2409 :: _) _ _ _ _ _
  refine v_if_eq (tgt := 39) (pc' := 23) 12 rfl rfl (by decide) (fun hc => ?_) (fun hc => ?_)
  · replace h := h.1 hc
    exact b_X9_value_39 p1 p2 p3 I2408 L Q h
  replace h := h.2 hc
  refine v_iload_n (pc' := 24) 13 3 rfl rfl rfl rfl ?_
  refine v_i2l (pc' := 25) 14 rfl rfl ?_
  refine v_lconst (v := 0) (pc' := 26) 15 rfl rfl (by decide) ?_
  refine v_ldc2 (v := 2) (pc' := 29) 16 rfl rfl kl_X9_300 ?_
  refine v_cS (Y2 := Y_X9_in) (As := [.long (p3.toInt64), .long 0, .long 2]) (pc' := 32) (c1 := 0) (s1 := 0) 17 rfl rfl mf_X9_in rfl rfl ml_X9_232 ms_X9_in rfl (Nat.le_of_ble_eq_true rfl) ⟨Nat.le_of_ble_eq_true rfl, Nat.le_of_ble_eq_true rfl⟩ rfl rfl (ok_X9_in (p3.toInt64) (0 : Int64) (2 : Int64) I2408 L h) ?_ ?_
  · intro e9 u9 hx9
    exact hx9.elim
  intro v9 u9 hv9
  obtain ⟨r2410, rfl, rfl, h⟩ := hv9
  refine ⟨fun q => absurd q (Nat.lt_irrefl _), ?_⟩
  show V G Y_X9_value 32 _ (.int r2410 :: _) _ _ _ _ _
  refine v_if_eq (tgt := 39) (pc' := 35) 18 rfl rfl (by decide) (fun hc => ?_) (fun hc => ?_)
  · replace h := h.1 hc
    exact b_X9_value_39 p1 p2 p3 I2408 L Q h
  replace h := h.2 hc
  refine v_iconst (v := 1) (pc' := 36) 19 rfl rfl (by decide) ?_
  refine v_goto (tgt := 40) 20 rfl (by decide) ?_
  exact b_X9_value_40 p1 p2 p3 (1 : Int32) I2408 L Q h
set_option maxHeartbeats 4000000 in
set_option maxRecDepth 100000 in
theorem ok_X9_stateAt {G : GT} {b d t : Nat} (p1 : Int32) (p2 : Int32) (I : TI) (L : TL)  {Q : Int32 → TI → Prop} (h : W_X9_stateAt p1 p2 I L Q) : MW G Y_X9_stateAt [.ref 436, .int p1, .int p2] (I, L, RT b d t, 457) (fun v9 u9 => ∃ (r9 : Int32) (I9 : TI), v9 = some (.int r9) ∧ u9 = (I9, L, RT b d t, 457) ∧ Q r9 I9) (fun _ _ => False) := by
  unfold W_X9_stateAt at h
  refine MW.intro rfl (by decide) is_X9_stateAt (Nat.le_of_ble_eq_true rfl) ?_
  show V G Y_X9_stateAt 0 [(0, .ref 436), (1, .int p1), (2, .int p2)] [] (I, L, RT b d t, 457) 0 0 _ _
  refine v_aload_n (pc' := 1) 0 0 rfl rfl rfl rfl ?_
  refine v_iload_n (pc' := 2) 1 1 rfl rfl rfl rfl ?_
  refine v_cV (Y2 := Y_X9_noNet) (As := [.int p1]) (b := 436) (pc' := 5) (c1 := 0) (s1 := 0) 2 rfl rfl mf_X9_noNet rfl rfl ml_X9_297 mi_X9_noNet se_X9_noNet (ci := 8) rfl ly_436 (lay_lt ly_436 (by decide)) rfl (Nat.le_of_ble_eq_true rfl) ⟨Nat.le_of_ble_eq_true rfl, Nat.le_of_ble_eq_true rfl⟩ rfl rfl (ok_X9_noNet p1 I L h) ?_ ?_
  · intro e9 u9 hx9
    exact hx9.elim
  intro v9 u9 hv9
  obtain ⟨r2420, I2421, rfl, rfl, h⟩ := hv9
  refine ⟨fun q => absurd q (Nat.lt_irrefl _), ?_⟩
  show V G Y_X9_stateAt 5 _ (.int r2420 :: _) _ _ _ _ _
  refine v_if_ne (tgt := 27) (pc' := 8) 3 rfl rfl (by decide) (fun hc => ?_) (fun hc => ?_)
  · replace h := h.1 hc
    refine v_iconst (v := 0) (pc' := 28) 15 rfl rfl (by decide) ?_
    exact v_iret 16 rfl rfl (by decide) (by decide) ⟨_, _, rfl, rfl, h⟩
  replace h := h.2 hc
  refine v_aload_n (pc' := 9) 4 0 rfl rfl rfl rfl ?_
  refine v_iload_n (pc' := 10) 5 2 rfl rfl rfl rfl ?_
  refine v_i2l (pc' := 11) 6 rfl rfl ?_
  refine v_lconst (v := 0) (pc' := 12) 7 rfl rfl (by decide) ?_
  refine v_aload_n (pc' := 13) 8 0 rfl rfl rfl rfl ?_
  refine v_getI (pc' := 16) 9 rfl rfl pf_X9_86 ly_436 (lay_lt ly_436 (by decide)) ?_
  refine v_i2l (pc' := 17) 10 rfl rfl ?_
  refine v_cS (Y2 := Y_X9_in) (As := [.long (p2.toInt64), .long 0, .long ((I2421 436 7).toInt64)]) (pc' := 20) (c1 := 0) (s1 := 0) 11 rfl rfl mf_X9_in rfl rfl ml_X9_232 ms_X9_in rfl (Nat.le_of_ble_eq_true rfl) ⟨Nat.le_of_ble_eq_true rfl, Nat.le_of_ble_eq_true rfl⟩ rfl rfl (ok_X9_in (p2.toInt64) (0 : Int64) ((I2421 436 7).toInt64) I2421 L h) ?_ ?_
  · intro e9 u9 hx9
    exact hx9.elim
  intro v9 u9 hv9
  obtain ⟨r2422, rfl, rfl, h⟩ := hv9
  refine ⟨fun q => absurd q (Nat.lt_irrefl _), ?_⟩
  show V G Y_X9_stateAt 20 _ (.int r2422 :: _) _ _ _ _ _
  refine v_iconst (v := 1) (pc' := 21) 12 rfl rfl (by decide) ?_
  refine v_cV (Y2 := Y_X9_fails) (As := [.int r2422, .int 1]) (b := 436) (pc' := 24) (c1 := 0) (s1 := 0) 13 rfl rfl mf_X9_fails rfl rfl ml_X9_280 mi_X9_fails se_X9_fails (ci := 8) rfl ly_436 (lay_lt ly_436 (by decide)) rfl (Nat.le_of_ble_eq_true rfl) ⟨Nat.le_of_ble_eq_true rfl, Nat.le_of_ble_eq_true rfl⟩ rfl rfl (ok_X9_fails r2422 (1 : Int32) I2421 L h) ?_ ?_
  · intro e9 u9 hx9
    exact hx9.elim
  intro v9 u9 hv9
  obtain ⟨r2423, I2424, rfl, rfl, h⟩ := hv9
  refine ⟨fun q => absurd q (Nat.lt_irrefl _), ?_⟩
  show V G Y_X9_stateAt 24 _ (.int r2423 :: _) _ _ _ _ _
  refine v_if_eq (tgt := 29) (pc' := 27) 14 rfl rfl (by decide) (fun hc => ?_) (fun hc => ?_)
  · replace h := h.1 hc
    refine v_iload_n (pc' := 30) 17 1 rfl rfl rfl rfl ?_
    refine v_aload_n (pc' := 31) 18 0 rfl rfl rfl rfl ?_
    refine v_getI (pc' := 34) 19 rfl rfl pf_X9_77 ly_436 (lay_lt ly_436 (by decide)) ?_
    refine v_isub (pc' := 35) 20 rfl rfl ?_
    refine v_istore_n (ls' := [(3, .int (p1 - (I2424 436 10))), (0, .ref 436), (1, .int p1), (2, .int p2)]) (pc' := 36) 21 rfl rfl rfl (by decide) rfl ?_
    refine v_iload_n (pc' := 37) 22 0 rfl rfl rfl rfl ?_
    refine v_if_ge (tgt := 44) (pc' := 40) 23 rfl rfl (by decide) (fun hc => ?_) (fun hc => ?_)
    · replace h := h.1 hc
      refine v_aload_n (pc' := 45) 26 1 rfl rfl rfl rfl ?_
      refine v_getR (t := 437) (pc' := 48) 27 rfl rfl pf_X9_7 ly_436 (lay_lt ly_436 (by decide)) rt_436_1 ?_
      refine v_bipush (v := 9) (pc' := 50) 28 rfl rfl (by decide) ?_
      refine v_iload_n (pc' := 51) 29 0 rfl rfl rfl rfl ?_
      refine v_iadd (pc' := 52) 30 rfl rfl ?_
      obtain ⟨hi2425, h⟩ := h
      refine v_lald (i := ((9 : Int32) + (p1 - (I2424 436 10)))) (j := ((9 : Int32) + (p1 - (I2424 436 10))).toNatClampNeg) (pc' := 53) 31 rfl rfl ly_437 ln_437 (lay_lt ly_437 (by decide)) hi2425 rfl ?_
      refine v_iload_n (pc' := 54) 32 3 rfl rfl rfl rfl ?_
      refine v_cS (Y2 := Y_X9_bit) (As := [.long (L 437 (((9 : Int32) + (p1 - (I2424 436 10))).toNatClampNeg)), .int p2]) (pc' := 57) (c1 := 0) (s1 := 0) 33 rfl rfl mf_X9_bit rfl rfl ml_X9_113 ms_X9_bit rfl (Nat.le_of_ble_eq_true rfl) ⟨Nat.le_of_ble_eq_true rfl, Nat.le_of_ble_eq_true rfl⟩ rfl rfl (ok_X9_bit (L 437 (((9 : Int32) + (p1 - (I2424 436 10))).toNatClampNeg)) p2 I2424 L h) ?_ ?_
      · intro e9 u9 hx9
        exact hx9.elim
      intro v9 u9 hv9
      obtain ⟨r2426, rfl, rfl, h⟩ := hv9
      refine ⟨fun q => absurd q (Nat.lt_irrefl _), ?_⟩
      show V G Y_X9_stateAt 57 _ (.int r2426 :: _) _ _ _ _ _
      refine v_iconst (v := 1) (pc' := 58) 34 rfl rfl (by decide) ?_
      refine v_icmp_ne (tgt := 65) (pc' := 61) 35 rfl rfl (by decide) (fun hc => ?_) (fun hc => ?_)
      · replace h := h.1 hc
        refine v_aload_n (pc' := 66) 38 1 rfl rfl rfl rfl ?_
        refine v_getR (t := 437) (pc' := 69) 39 rfl rfl pf_X9_7 ly_436 (lay_lt ly_436 (by decide)) rt_436_1 ?_
        refine v_bipush (v := 21) (pc' := 71) 40 rfl rfl (by decide) ?_
        refine v_iload_n (pc' := 72) 41 0 rfl rfl rfl rfl ?_
        refine v_iadd (pc' := 73) 42 rfl rfl ?_
        obtain ⟨hi2427, h⟩ := h
        refine v_lald (i := ((21 : Int32) + (p1 - (I2424 436 10)))) (j := ((21 : Int32) + (p1 - (I2424 436 10))).toNatClampNeg) (pc' := 74) 43 rfl rfl ly_437 ln_437 (lay_lt ly_437 (by decide)) hi2427 rfl ?_
        refine v_iload_n (pc' := 75) 44 3 rfl rfl rfl rfl ?_
        refine v_cS (Y2 := Y_X9_bit) (As := [.long (L 437 (((21 : Int32) + (p1 - (I2424 436 10))).toNatClampNeg)), .int p2]) (pc' := 78) (c1 := 0) (s1 := 0) 45 rfl rfl mf_X9_bit rfl rfl ml_X9_113 ms_X9_bit rfl (Nat.le_of_ble_eq_true rfl) ⟨Nat.le_of_ble_eq_true rfl, Nat.le_of_ble_eq_true rfl⟩ rfl rfl (ok_X9_bit (L 437 (((21 : Int32) + (p1 - (I2424 436 10))).toNatClampNeg)) p2 I2424 L h) ?_ ?_
        · intro e9 u9 hx9
          exact hx9.elim
        intro v9 u9 hv9
        obtain ⟨r2428, rfl, rfl, h⟩ := hv9
        refine ⟨fun q => absurd q (Nat.lt_irrefl _), ?_⟩
        show V G Y_X9_stateAt 78 _ (.int r2428 :: _) _ _ _ _ _
        exact v_iret 46 rfl rfl (by decide) (by decide) ⟨_, _, rfl, rfl, h⟩
      replace h := h.2 hc
      refine v_iconst (v := 2) (pc' := 62) 36 rfl rfl (by decide) ?_
      refine v_goto (tgt := 78) 37 rfl (by decide) ?_
      exact v_iret 46 rfl rfl (by decide) (by decide) ⟨_, _, rfl, rfl, h⟩
    replace h := h.2 hc
    refine v_iconst (v := 0) (pc' := 41) 24 rfl rfl (by decide) ?_
    refine v_goto (tgt := 78) 25 rfl (by decide) ?_
    exact v_iret 46 rfl rfl (by decide) (by decide) ⟨_, _, rfl, rfl, h⟩
  replace h := h.2 hc
  refine v_iconst (v := 0) (pc' := 28) 15 rfl rfl (by decide) ?_
  exact v_iret 16 rfl rfl (by decide) (by decide) ⟨_, _, rfl, rfl, h⟩
set_option maxHeartbeats 4000000 in
set_option maxRecDepth 100000 in
theorem ok_X9_wave {G : GT} {b d t : Nat} (p1 : Int32) (p2 : Int32) (I : TI) (L : TL)  {Q : Int64 → TI → TL → Prop} (h : W_X9_wave p1 p2 I L Q) : MW G Y_X9_wave [.ref 436, .int p1, .int p2] (I, L, RT b d t, 457) (fun v9 u9 => ∃ (r9 : Int64) (I9 : TI) (L9 : TL), v9 = some (.long r9) ∧ u9 = (I9, L9, RT b d t, 457) ∧ Q r9 I9 L9) (fun _ _ => False) := by
  unfold W_X9_wave at h
  refine MW.intro rfl (by decide) is_X9_wave (Nat.le_of_ble_eq_true rfl) ?_
  show V G Y_X9_wave 0 [(0, .ref 436), (1, .int p1), (2, .int p2)] [] (I, L, RT b d t, 457) 0 0 _ _
  refine v_aload_n (pc' := 1) 0 0 rfl rfl rfl rfl ?_
  refine v_iload_n (pc' := 2) 1 1 rfl rfl rfl rfl ?_
  refine v_iload_n (pc' := 3) 2 2 rfl rfl rfl rfl ?_
  refine v_cV (Y2 := Y_X9_noWave) (As := [.int p1, .int p2]) (b := 436) (pc' := 6) (c1 := 0) (s1 := 0) 3 rfl rfl mf_X9_noWave rfl rfl ml_X9_316 mi_X9_noWave se_X9_noWave (ci := 8) rfl ly_436 (lay_lt ly_436 (by decide)) rfl (Nat.le_of_ble_eq_true rfl) ⟨Nat.le_of_ble_eq_true rfl, Nat.le_of_ble_eq_true rfl⟩ rfl rfl (ok_X9_noWave p1 p2 I L h) ?_ ?_
  · intro e9 u9 hx9
    exact hx9.elim
  intro v9 u9 hv9
  obtain ⟨r2433, I2434, L2435, rfl, rfl, h⟩ := hv9
  refine ⟨fun q => absurd q (Nat.lt_irrefl _), ?_⟩
  show V G Y_X9_wave 6 _ (.int r2433 :: _) _ _ _ _ _
  refine v_if_eq (tgt := 13) (pc' := 9) 4 rfl rfl (by decide) (fun hc => ?_) (fun hc => ?_)
  · replace h := h.1 hc
    refine v_aload_n (pc' := 14) 7 0 rfl rfl rfl rfl ?_
    refine v_iload_n (pc' := 15) 8 1 rfl rfl rfl rfl ?_
    refine v_iload_n (pc' := 16) 9 2 rfl rfl rfl rfl ?_
    refine v_cV (Y2 := Y_X9_waveOf) (As := [.int p1, .int p2]) (b := 436) (pc' := 19) (c1 := 0) (s1 := 0) 10 rfl rfl mf_X9_waveOf rfl rfl ml_X9_313 mi_X9_waveOf se_X9_waveOf (ci := 8) rfl ly_436 (lay_lt ly_436 (by decide)) rfl (Nat.le_of_ble_eq_true rfl) ⟨Nat.le_of_ble_eq_true rfl, Nat.le_of_ble_eq_true rfl⟩ rfl rfl (ok_X9_waveOf p1 p2 I2434 L2435 h) ?_ ?_
    · intro e9 u9 hx9
      exact hx9.elim
    intro v9 u9 hv9
    obtain ⟨r2436, rfl, rfl, h⟩ := hv9
    refine ⟨fun q => absurd q (Nat.lt_irrefl _), ?_⟩
    show V G Y_X9_wave 19 _ (.long r2436 :: _) _ _ _ _ _
    exact v_lret 11 rfl rfl (by decide) (by decide) ⟨_, _, _, rfl, rfl, h⟩
  replace h := h.2 hc
  refine v_lconst (v := 0) (pc' := 10) 5 rfl rfl (by decide) ?_
  refine v_goto (tgt := 19) 6 rfl (by decide) ?_
  exact v_lret 11 rfl rfl (by decide) (by decide) ⟨_, _, _, rfl, rfl, h⟩
set_option maxHeartbeats 4000000 in
set_option maxRecDepth 100000 in
theorem ok_X9_changes {G : GT} {b d t : Nat} (p1 : Int32) (p2 : Int32) (I : TI) (L : TL)  {Q : Int32 → TI → TL → Prop} (h : W_X9_changes p1 p2 I L Q) : MW G Y_X9_changes [.ref 436, .int p1, .int p2] (I, L, RT b d t, 457) (fun v9 u9 => ∃ (r9 : Int32) (I9 : TI) (L9 : TL), v9 = some (.int r9) ∧ u9 = (I9, L9, RT b d t, 457) ∧ Q r9 I9 L9) (fun _ _ => False) := by
  unfold W_X9_changes at h
  refine MW.intro rfl (by decide) is_X9_changes (Nat.le_of_ble_eq_true rfl) ?_
  show V G Y_X9_changes 0 [(0, .ref 436), (1, .int p1), (2, .int p2)] [] (I, L, RT b d t, 457) 0 0 _ _
  refine v_aload_n (pc' := 1) 0 0 rfl rfl rfl rfl ?_
  refine v_iload_n (pc' := 2) 1 1 rfl rfl rfl rfl ?_
  refine v_iload_n (pc' := 3) 2 2 rfl rfl rfl rfl ?_
  refine v_cV (Y2 := Y_X9_noWave) (As := [.int p1, .int p2]) (b := 436) (pc' := 6) (c1 := 0) (s1 := 0) 3 rfl rfl mf_X9_noWave rfl rfl ml_X9_316 mi_X9_noWave se_X9_noWave (ci := 8) rfl ly_436 (lay_lt ly_436 (by decide)) rfl (Nat.le_of_ble_eq_true rfl) ⟨Nat.le_of_ble_eq_true rfl, Nat.le_of_ble_eq_true rfl⟩ rfl rfl (ok_X9_noWave p1 p2 I L h) ?_ ?_
  · intro e9 u9 hx9
    exact hx9.elim
  intro v9 u9 hv9
  obtain ⟨r2442, I2443, L2444, rfl, rfl, h⟩ := hv9
  refine ⟨fun q => absurd q (Nat.lt_irrefl _), ?_⟩
  show V G Y_X9_changes 6 _ (.int r2442 :: _) _ _ _ _ _
  refine v_if_eq (tgt := 13) (pc' := 9) 4 rfl rfl (by decide) (fun hc => ?_) (fun hc => ?_)
  · replace h := h.1 hc
    refine v_aload_n (pc' := 14) 7 0 rfl rfl rfl rfl ?_
    refine v_aload_n (pc' := 15) 8 0 rfl rfl rfl rfl ?_
    refine v_iload_n (pc' := 16) 9 1 rfl rfl rfl rfl ?_
    refine v_iload_n (pc' := 17) 10 2 rfl rfl rfl rfl ?_
    refine v_cV (Y2 := Y_X9_waveOf) (As := [.int p1, .int p2]) (b := 436) (pc' := 20) (c1 := 0) (s1 := 0) 11 rfl rfl mf_X9_waveOf rfl rfl ml_X9_313 mi_X9_waveOf se_X9_waveOf (ci := 8) rfl ly_436 (lay_lt ly_436 (by decide)) rfl (Nat.le_of_ble_eq_true rfl) ⟨Nat.le_of_ble_eq_true rfl, Nat.le_of_ble_eq_true rfl⟩ rfl rfl (ok_X9_waveOf p1 p2 I2443 L2444 h) ?_ ?_
    · intro e9 u9 hx9
      exact hx9.elim
    intro v9 u9 hv9
    obtain ⟨r2445, rfl, rfl, h⟩ := hv9
    refine ⟨fun q => absurd q (Nat.lt_irrefl _), ?_⟩
    show V G Y_X9_changes 20 _ (.long r2445 :: _) _ _ _ _ _
    refine v_cV (Y2 := Y_X9_changesOf) (As := [.long r2445]) (b := 436) (pc' := 23) (c1 := 0) (s1 := 0) 12 rfl rfl mf_X9_changesOf rfl rfl ml_X9_319 mi_X9_changesOf se_X9_changesOf (ci := 8) rfl ly_436 (lay_lt ly_436 (by decide)) rfl (Nat.le_of_ble_eq_true rfl) ⟨Nat.le_of_ble_eq_true rfl, Nat.le_of_ble_eq_true rfl⟩ rfl rfl (ok_X9_changesOf r2445 I2443 L2444 h) ?_ ?_
    · intro e9 u9 hx9
      exact hx9.elim
    intro v9 u9 hv9
    obtain ⟨r2446, rfl, rfl, h⟩ := hv9
    refine ⟨fun q => absurd q (Nat.lt_irrefl _), ?_⟩
    show V G Y_X9_changes 23 _ (.int r2446 :: _) _ _ _ _ _
    exact v_iret 13 rfl rfl (by decide) (by decide) ⟨_, _, _, rfl, rfl, h⟩
  replace h := h.2 hc
  refine v_iconst (v := 0) (pc' := 10) 5 rfl rfl (by decide) ?_
  refine v_goto (tgt := 23) 6 rfl (by decide) ?_
  exact v_iret 13 rfl rfl (by decide) (by decide) ⟨_, _, _, rfl, rfl, h⟩
set_option maxHeartbeats 4000000 in
set_option maxRecDepth 100000 in
theorem d_X9_quietFrom_16 {G : GT} {b d t : Nat} (v1 : Int32) (v2 : Int32) (I : TI) (L : TL)  (Q : Int32 → TI → TL → Prop) (R16 : Int32 → Prop)  (hR16 : ∀ (v3 : Int32), R16 v3 → V G Y_X9_quietFrom 16 [(0, .ref 436), (1, .int v1), (2, .int v2), (3, .int v3)] [] (I, L, RT b d t, 457) 0 0 (fun v9 u9 => ∃ (r9 : Int32) (I9 : TI) (L9 : TL), v9 = some (.int r9) ∧ u9 = (I9, L9, RT b d t, 457) ∧ Q r9 I9 L9) (fun _ _ => False)) (v3 : Int32)  (h : D_X9_quietFrom_16 v1 v2 I L Q R16 v3) : V G Y_X9_quietFrom 16 [(0, .ref 436), (1, .int v1), (2, .int v2), (3, .int v3)] [] (I, L, RT b d t, 457) 0 0 (fun v9 u9 => ∃ (r9 : Int32) (I9 : TI) (L9 : TL), v9 = some (.int r9) ∧ u9 = (I9, L9, RT b d t, 457) ∧ Q r9 I9 L9) (fun _ _ => False) := by
  unfold D_X9_quietFrom_16 at h
  refine v_iload_n (pc' := 17) 10 3 rfl rfl rfl rfl ?_
  refine v_if_le (tgt := 54) (pc' := 20) 11 rfl rfl (by decide) (fun hc => ?_) (fun hc => ?_)
  · replace h := h.1 hc
    refine v_iload_n (pc' := 55) 30 3 rfl rfl rfl rfl ?_
    exact v_iret 31 rfl rfl (by decide) (by decide) ⟨_, _, _, rfl, rfl, h⟩
  replace h := h.2 hc
  refine v_aload_n (pc' := 21) 12 0 rfl rfl rfl rfl ?_
  refine v_iload_n (pc' := 22) 13 1 rfl rfl rfl rfl ?_
  refine v_iload_n (pc' := 23) 14 2 rfl rfl rfl rfl ?_
  refine v_cV (Y2 := Y_X9_waveOf) (As := [.int v1, .int v2]) (b := 436) (pc' := 26) (c1 := 0) (s1 := 0) 15 rfl rfl mf_X9_waveOf rfl rfl ml_X9_313 mi_X9_waveOf se_X9_waveOf (ci := 8) rfl ly_436 (lay_lt ly_436 (by decide)) rfl (Nat.le_of_ble_eq_true rfl) ⟨Nat.le_of_ble_eq_true rfl, Nat.le_of_ble_eq_true rfl⟩ rfl rfl (ok_X9_waveOf v1 v2 I L h) ?_ ?_
  · intro e9 u9 hx9
    exact hx9.elim
  intro v9 u9 hv9
  obtain ⟨r2461, rfl, rfl, h⟩ := hv9
  refine ⟨fun q => absurd q (Nat.lt_irrefl _), ?_⟩
  show V G Y_X9_quietFrom 26 _ (.long r2461 :: _) _ _ _ _ _
  refine v_iload_n (pc' := 27) 16 3 rfl rfl rfl rfl ?_
  refine v_iconst (v := 1) (pc' := 28) 17 rfl rfl (by decide) ?_
  refine v_isub (pc' := 29) 18 rfl rfl ?_
  refine v_cS (Y2 := Y_X9_bit) (As := [.long r2461, .int (v3 - 1)]) (pc' := 32) (c1 := 0) (s1 := 0) 19 rfl rfl mf_X9_bit rfl rfl ml_X9_113 ms_X9_bit rfl (Nat.le_of_ble_eq_true rfl) ⟨Nat.le_of_ble_eq_true rfl, Nat.le_of_ble_eq_true rfl⟩ rfl rfl (ok_X9_bit r2461 (v3 - 1) I L h) ?_ ?_
  · intro e9 u9 hx9
    exact hx9.elim
  intro v9 u9 hv9
  obtain ⟨r2462, rfl, rfl, h⟩ := hv9
  refine ⟨fun q => absurd q (Nat.lt_irrefl _), ?_⟩
  show V G Y_X9_quietFrom 32 _ (.int r2462 :: _) _ _ _ _ _
  refine v_aload_n (pc' := 33) 20 0 rfl rfl rfl rfl ?_
  refine v_iload_n (pc' := 34) 21 1 rfl rfl rfl rfl ?_
  refine v_iload_n (pc' := 35) 22 2 rfl rfl rfl rfl ?_
  refine v_cV (Y2 := Y_X9_waveOf) (As := [.int v1, .int v2]) (b := 436) (pc' := 38) (c1 := 0) (s1 := 0) 23 rfl rfl mf_X9_waveOf rfl rfl ml_X9_313 mi_X9_waveOf se_X9_waveOf (ci := 8) rfl ly_436 (lay_lt ly_436 (by decide)) rfl (Nat.le_of_ble_eq_true rfl) ⟨Nat.le_of_ble_eq_true rfl, Nat.le_of_ble_eq_true rfl⟩ rfl rfl (ok_X9_waveOf v1 v2 I L h) ?_ ?_
  · intro e9 u9 hx9
    exact hx9.elim
  intro v9 u9 hv9
  obtain ⟨r2463, rfl, rfl, h⟩ := hv9
  refine ⟨fun q => absurd q (Nat.lt_irrefl _), ?_⟩
  show V G Y_X9_quietFrom 38 _ (.long r2463 :: _) _ _ _ _ _
  refine v_aload_n (pc' := 39) 24 0 rfl rfl rfl rfl ?_
  refine v_getI (pc' := 42) 25 rfl rfl pf_X9_86 ly_436 (lay_lt ly_436 (by decide)) ?_
  refine v_cS (Y2 := Y_X9_bit) (As := [.long r2463, .int (I 436 7)]) (pc' := 45) (c1 := 0) (s1 := 0) 26 rfl rfl mf_X9_bit rfl rfl ml_X9_113 ms_X9_bit rfl (Nat.le_of_ble_eq_true rfl) ⟨Nat.le_of_ble_eq_true rfl, Nat.le_of_ble_eq_true rfl⟩ rfl rfl (ok_X9_bit r2463 (I 436 7) I L h) ?_ ?_
  · intro e9 u9 hx9
    exact hx9.elim
  intro v9 u9 hv9
  obtain ⟨r2464, rfl, rfl, h⟩ := hv9
  refine ⟨fun q => absurd q (Nat.lt_irrefl _), ?_⟩
  show V G Y_X9_quietFrom 45 _ (.int r2464 :: _) _ _ _ _ _
  refine v_icmp_ne (tgt := 54) (pc' := 48) 27 rfl rfl (by decide) (fun hc => ?_) (fun hc => ?_)
  · replace h := h.1 hc
    refine v_iload_n (pc' := 55) 30 3 rfl rfl rfl rfl ?_
    exact v_iret 31 rfl rfl (by decide) (by decide) ⟨_, _, _, rfl, rfl, h⟩
  replace h := h.2 hc
  refine v_iinc (v := (v3 + (-1))) (ls' := [(3, .int (v3 + (-1))), (0, .ref 436), (1, .int v1), (2, .int v2)]) (pc' := 51) 28 3 rfl rfl rfl rfl (by decide) rfl ?_
  refine v_goto (tgt := 16) 29 rfl (by decide) ?_
  refine V.sub [1, 2, 3, 0] rfl ?_
  exact hR16 (v3 + (-1)) h
theorem l_X9_quietFrom_16 {G : GT} {b d t : Nat} (v1 : Int32) (v2 : Int32) (I : TI) (L : TL)  (Q : Int32 → TI → TL → Prop)  : ∀ (n9 : Nat) (v3 : Int32), L_X9_quietFrom_16 v1 v2 I L Q n9 v3 → V G Y_X9_quietFrom 16 [(0, .ref 436), (1, .int v1), (2, .int v2), (3, .int v3)] [] (I, L, RT b d t, 457) 0 0 (fun v9 u9 => ∃ (r9 : Int32) (I9 : TI) (L9 : TL), v9 = some (.int r9) ∧ u9 = (I9, L9, RT b d t, 457) ∧ Q r9 I9 L9) (fun _ _ => False)
  | 0, _, h => h.elim
  | n9 + 1, v3, h => d_X9_quietFrom_16 v1 v2 I L Q _ (l_X9_quietFrom_16 v1 v2 I L Q n9) v3 h
set_option maxHeartbeats 4000000 in
set_option maxRecDepth 100000 in
theorem ok_X9_quietFrom {G : GT} {b d t : Nat} (p1 : Int32) (p2 : Int32) (I : TI) (L : TL)  {Q : Int32 → TI → TL → Prop} (h : W_X9_quietFrom p1 p2 I L Q) : MW G Y_X9_quietFrom [.ref 436, .int p1, .int p2] (I, L, RT b d t, 457) (fun v9 u9 => ∃ (r9 : Int32) (I9 : TI) (L9 : TL), v9 = some (.int r9) ∧ u9 = (I9, L9, RT b d t, 457) ∧ Q r9 I9 L9) (fun _ _ => False) := by
  unfold W_X9_quietFrom at h
  refine MW.intro rfl (by decide) is_X9_quietFrom (Nat.le_of_ble_eq_true rfl) ?_
  show V G Y_X9_quietFrom 0 [(0, .ref 436), (1, .int p1), (2, .int p2)] [] (I, L, RT b d t, 457) 0 0 _ _
  refine v_aload_n (pc' := 1) 0 0 rfl rfl rfl rfl ?_
  refine v_iload_n (pc' := 2) 1 1 rfl rfl rfl rfl ?_
  refine v_iload_n (pc' := 3) 2 2 rfl rfl rfl rfl ?_
  refine v_cV (Y2 := Y_X9_noWave) (As := [.int p1, .int p2]) (b := 436) (pc' := 6) (c1 := 0) (s1 := 0) 3 rfl rfl mf_X9_noWave rfl rfl ml_X9_316 mi_X9_noWave se_X9_noWave (ci := 8) rfl ly_436 (lay_lt ly_436 (by decide)) rfl (Nat.le_of_ble_eq_true rfl) ⟨Nat.le_of_ble_eq_true rfl, Nat.le_of_ble_eq_true rfl⟩ rfl rfl (ok_X9_noWave p1 p2 I L h) ?_ ?_
  · intro e9 u9 hx9
    exact hx9.elim
  intro v9 u9 hv9
  obtain ⟨r2465, I2466, L2467, rfl, rfl, h⟩ := hv9
  refine ⟨fun q => absurd q (Nat.lt_irrefl _), ?_⟩
  show V G Y_X9_quietFrom 6 _ (.int r2465 :: _) _ _ _ _ _
  refine v_if_eq (tgt := 11) (pc' := 9) 4 rfl rfl (by decide) (fun hc => ?_) (fun hc => ?_)
  · replace h := h.1 hc
    refine v_aload_n (pc' := 12) 7 0 rfl rfl rfl rfl ?_
    refine v_getI (pc' := 15) 8 rfl rfl pf_X9_86 ly_436 (lay_lt ly_436 (by decide)) ?_
    refine v_istore_n (ls' := [(3, .int (I2466 436 7)), (0, .ref 436), (1, .int p1), (2, .int p2)]) (pc' := 16) 9 rfl rfl rfl (by decide) rfl ?_
    refine V.sub [1, 2, 3, 0] rfl ?_
    obtain ⟨n2468, h⟩ := h
    exact l_X9_quietFrom_16 p1 p2 I2466 L2467 Q n2468 (I2466 436 7) h
  replace h := h.2 hc
  refine v_iconst (v := 0) (pc' := 10) 5 rfl rfl (by decide) ?_
  exact v_iret 6 rfl rfl (by decide) (by decide) ⟨_, _, _, rfl, rfl, h⟩
set_option maxHeartbeats 4000000 in
set_option maxRecDepth 100000 in
theorem b_X9_shortest_86 {G : GT} {b d t : Nat} (v3 : Int64) (v6 : Int32) (v7 : Int32) (s0 : Int32) (I : TI) (L : TL)  (Q : Int32 → TI → TL → Prop) (R31 : Int32 → Int32 → Prop) (hR31 : ∀ (v5 : Int32) (v6 : Int32), R31 v5 v6 → V G Y_X9_shortest 31 [(0, .ref 436), (3, .long v3), (5, .int v5), (6, .int v6)] [] (I, L, RT b d t, 457) 0 0 (fun v9 u9 => ∃ (r9 : Int32) (I9 : TI) (L9 : TL), v9 = some (.int r9) ∧ u9 = (I9, L9, RT b d t, 457) ∧ Q r9 I9 L9) (fun _ _ => False)) (h : B_X9_shortest_86 v3 v6 v7 s0 I L Q R31) : V G Y_X9_shortest 86 [(0, .ref 436), (3, .long v3), (6, .int v6), (7, .int v7)] [.int s0] (I, L, RT b d t, 457) 0 0 (fun v9 u9 => ∃ (r9 : Int32) (I9 : TI) (L9 : TL), v9 = some (.int r9) ∧ u9 = (I9, L9, RT b d t, 457) ∧ Q r9 I9 L9) (fun _ _ => False) := by
  unfold B_X9_shortest_86 at h
  refine v_istore (ls' := [(5, .int s0), (0, .ref 436), (3, .long v3), (6, .int v6), (7, .int v7)]) (pc' := 88) 49 rfl rfl (by decide) rfl ?_
  refine v_iload (pc' := 90) 50 3 rfl rfl rfl ?_
  refine v_iload (pc' := 92) 51 4 rfl rfl rfl ?_
  refine v_iadd (pc' := 93) 52 rfl rfl ?_
  refine v_istore (ls' := [(6, .int (v6 + v7)), (5, .int s0), (0, .ref 436), (3, .long v3), (7, .int v7)]) (pc' := 95) 53 rfl rfl (by decide) rfl ?_
  refine v_goto (tgt := 31) 54 rfl (by decide) ?_
  refine V.sub [2, 3, 1, 0] rfl ?_
  exact hR31 s0 (v6 + v7) h
set_option maxHeartbeats 4000000 in
set_option maxRecDepth 100000 in
theorem d_X9_shortest_31 {G : GT} {b d t : Nat} (v3 : Int64) (I : TI) (L : TL)  (Q : Int32 → TI → TL → Prop) (R31 : Int32 → Int32 → Prop)  (hR31 : ∀ (v5 : Int32) (v6 : Int32), R31 v5 v6 → V G Y_X9_shortest 31 [(0, .ref 436), (3, .long v3), (5, .int v5), (6, .int v6)] [] (I, L, RT b d t, 457) 0 0 (fun v9 u9 => ∃ (r9 : Int32) (I9 : TI) (L9 : TL), v9 = some (.int r9) ∧ u9 = (I9, L9, RT b d t, 457) ∧ Q r9 I9 L9) (fun _ _ => False)) (v5 : Int32) (v6 : Int32)  (h : D_X9_shortest_31 v3 I L Q R31 v5 v6) : V G Y_X9_shortest 31 [(0, .ref 436), (3, .long v3), (5, .int v5), (6, .int v6)] [] (I, L, RT b d t, 457) 0 0 (fun v9 u9 => ∃ (r9 : Int32) (I9 : TI) (L9 : TL), v9 = some (.int r9) ∧ u9 = (I9, L9, RT b d t, 457) ∧ Q r9 I9 L9) (fun _ _ => False) := by
  unfold D_X9_shortest_31 at h
  refine v_iload (pc' := 33) 21 3 rfl rfl rfl ?_
  refine v_aload_n (pc' := 34) 22 0 rfl rfl rfl rfl ?_
  refine v_getI (pc' := 37) 23 rfl rfl pf_X9_86 ly_436 (lay_lt ly_436 (by decide)) ?_
  refine v_icmp_gt (tgt := 98) (pc' := 40) 24 rfl rfl (by decide) (fun hc => ?_) (fun hc => ?_)
  · replace h := h.1 hc
    refine v_iload (pc' := 100) 55 2 rfl rfl rfl ?_
    exact v_iret 56 rfl rfl (by decide) (by decide) ⟨_, _, _, rfl, rfl, h⟩
  replace h := h.2 hc
  refine v_aload_n (pc' := 41) 25 0 rfl rfl rfl rfl ?_
  refine v_lload_n (pc' := 42) 26 1 rfl rfl rfl rfl ?_
  refine v_iload (pc' := 44) 27 3 rfl rfl rfl ?_
  refine v_cV (Y2 := Y_X9_endOf) (As := [.long v3, .int v6]) (b := 436) (pc' := 47) (c1 := 0) (s1 := 0) 28 rfl rfl mf_X9_endOf rfl rfl ml_X9_144 mi_X9_endOf se_X9_endOf (ci := 8) rfl ly_436 (lay_lt ly_436 (by decide)) rfl (Nat.le_of_ble_eq_true rfl) ⟨Nat.le_of_ble_eq_true rfl, Nat.le_of_ble_eq_true rfl⟩ rfl rfl (ok_X9_endOf v3 v6 I L h) ?_ ?_
  · intro e9 u9 hx9
    exact hx9.elim
  intro v9 u9 hv9
  obtain ⟨r2485, rfl, rfl, h⟩ := hv9
  refine ⟨fun q => absurd q (Nat.lt_irrefl _), ?_⟩
  show V G Y_X9_shortest 47 _ (.int r2485 :: _) _ _ _ _ _
  refine v_aload_n (pc' := 48) 29 0 rfl rfl rfl rfl ?_
  refine v_getI (pc' := 51) 30 rfl rfl pf_X9_86 ly_436 (lay_lt ly_436 (by decide)) ?_
  refine v_icmp_ge (tgt := 98) (pc' := 54) 31 rfl rfl (by decide) (fun hc => ?_) (fun hc => ?_)
  · replace h := h.1 hc
    refine v_iload (pc' := 100) 55 2 rfl rfl rfl ?_
    exact v_iret 56 rfl rfl (by decide) (by decide) ⟨_, _, _, rfl, rfl, h⟩
  replace h := h.2 hc
  refine v_aload_n (pc' := 55) 32 0 rfl rfl rfl rfl ?_
  refine v_lload_n (pc' := 56) 33 1 rfl rfl rfl rfl ?_
  refine v_iload (pc' := 58) 34 3 rfl rfl rfl ?_
  refine v_cV (Y2 := Y_X9_endOf) (As := [.long v3, .int v6]) (b := 436) (pc' := 61) (c1 := 0) (s1 := 0) 35 rfl rfl mf_X9_endOf rfl rfl ml_X9_144 mi_X9_endOf se_X9_endOf (ci := 8) rfl ly_436 (lay_lt ly_436 (by decide)) rfl (Nat.le_of_ble_eq_true rfl) ⟨Nat.le_of_ble_eq_true rfl, Nat.le_of_ble_eq_true rfl⟩ rfl rfl (ok_X9_endOf v3 v6 I L h) ?_ ?_
  · intro e9 u9 hx9
    exact hx9.elim
  intro v9 u9 hv9
  obtain ⟨r2486, rfl, rfl, h⟩ := hv9
  refine ⟨fun q => absurd q (Nat.lt_irrefl _), ?_⟩
  show V G Y_X9_shortest 61 _ (.int r2486 :: _) _ _ _ _ _
  refine v_iload (pc' := 63) 36 3 rfl rfl rfl ?_
  refine v_isub (pc' := 64) 37 rfl rfl ?_
  refine v_iconst (v := 1) (pc' := 65) 38 rfl rfl (by decide) ?_
  refine v_iadd (pc' := 66) 39 rfl rfl ?_
  refine v_istore (ls' := [(7, .int ((r2486 - v6) + 1)), (0, .ref 436), (3, .long v3), (5, .int v5), (6, .int v6)]) (pc' := 68) 40 rfl rfl (by decide) rfl ?_
  refine v_iload (pc' := 70) 41 3 rfl rfl rfl ?_
  refine v_iconst (v := -1) (pc' := 71) 42 rfl rfl (by decide) ?_
  refine v_icmp_ne (tgt := 79) (pc' := 74) 43 rfl rfl (by decide) (fun hc => ?_) (fun hc => ?_)
  · replace h := h.1 hc
    refine v_iload (pc' := 81) 46 3 rfl rfl rfl ?_
    refine v_iload (pc' := 83) 47 0 rfl rfl rfl ?_
    refine v_cS (Y2 := Y_X9_lesser) (As := [.int v5, .int ((r2486 - v6) + 1)]) (pc' := 86) (c1 := 0) (s1 := 0) 48 rfl rfl mf_X9_lesser rfl rfl ml_X9_322 ms_X9_lesser rfl (Nat.le_of_ble_eq_true rfl) ⟨Nat.le_of_ble_eq_true rfl, Nat.le_of_ble_eq_true rfl⟩ rfl rfl (ok_X9_lesser v5 ((r2486 - v6) + 1) I L h) ?_ ?_
    · intro e9 u9 hx9
      exact hx9.elim
    intro v9 u9 hv9
    obtain ⟨r2487, rfl, rfl, h⟩ := hv9
    refine ⟨fun q => absurd q (Nat.lt_irrefl _), ?_⟩
    show V G Y_X9_shortest 86 _ (.int r2487 :: _) _ _ _ _ _
    refine V.sub [1, 2, 4, 0] rfl ?_
    exact b_X9_shortest_86 v3 v6 ((r2486 - v6) + 1) r2487 I L Q R31 hR31 h
  replace h := h.2 hc
  refine v_iload (pc' := 76) 44 0 rfl rfl rfl ?_
  refine v_goto (tgt := 86) 45 rfl (by decide) ?_
  refine V.sub [1, 2, 4, 0] rfl ?_
  exact b_X9_shortest_86 v3 v6 ((r2486 - v6) + 1) ((r2486 - v6) + 1) I L Q R31 hR31 h
theorem l_X9_shortest_31 {G : GT} {b d t : Nat} (v3 : Int64) (I : TI) (L : TL)  (Q : Int32 → TI → TL → Prop)  : ∀ (n9 : Nat) (v5 : Int32) (v6 : Int32), L_X9_shortest_31 v3 I L Q n9 v5 v6 → V G Y_X9_shortest 31 [(0, .ref 436), (3, .long v3), (5, .int v5), (6, .int v6)] [] (I, L, RT b d t, 457) 0 0 (fun v9 u9 => ∃ (r9 : Int32) (I9 : TI) (L9 : TL), v9 = some (.int r9) ∧ u9 = (I9, L9, RT b d t, 457) ∧ Q r9 I9 L9) (fun _ _ => False)
  | 0, _, _, h => h.elim
  | n9 + 1, v5, v6, h => d_X9_shortest_31 v3 I L Q _ (l_X9_shortest_31 v3 I L Q n9) v5 v6 h
set_option maxHeartbeats 4000000 in
set_option maxRecDepth 100000 in
theorem ok_X9_shortest {G : GT} {b d t : Nat} (p1 : Int32) (p2 : Int32) (I : TI) (L : TL)  {Q : Int32 → TI → TL → Prop} (h : W_X9_shortest p1 p2 I L Q) : MW G Y_X9_shortest [.ref 436, .int p1, .int p2] (I, L, RT b d t, 457) (fun v9 u9 => ∃ (r9 : Int32) (I9 : TI) (L9 : TL), v9 = some (.int r9) ∧ u9 = (I9, L9, RT b d t, 457) ∧ Q r9 I9 L9) (fun _ _ => False) := by
  unfold W_X9_shortest at h
  refine MW.intro rfl (by decide) is_X9_shortest (Nat.le_of_ble_eq_true rfl) ?_
  show V G Y_X9_shortest 0 [(0, .ref 436), (1, .int p1), (2, .int p2)] [] (I, L, RT b d t, 457) 0 0 _ _
  refine v_aload_n (pc' := 1) 0 0 rfl rfl rfl rfl ?_
  refine v_iload_n (pc' := 2) 1 1 rfl rfl rfl rfl ?_
  refine v_iload_n (pc' := 3) 2 2 rfl rfl rfl rfl ?_
  refine v_cV (Y2 := Y_X9_noWave) (As := [.int p1, .int p2]) (b := 436) (pc' := 6) (c1 := 0) (s1 := 0) 3 rfl rfl mf_X9_noWave rfl rfl ml_X9_316 mi_X9_noWave se_X9_noWave (ci := 8) rfl ly_436 (lay_lt ly_436 (by decide)) rfl (Nat.le_of_ble_eq_true rfl) ⟨Nat.le_of_ble_eq_true rfl, Nat.le_of_ble_eq_true rfl⟩ rfl rfl (ok_X9_noWave p1 p2 I L h) ?_ ?_
  · intro e9 u9 hx9
    exact hx9.elim
  intro v9 u9 hv9
  obtain ⟨r2488, I2489, L2490, rfl, rfl, h⟩ := hv9
  refine ⟨fun q => absurd q (Nat.lt_irrefl _), ?_⟩
  show V G Y_X9_shortest 6 _ (.int r2488 :: _) _ _ _ _ _
  refine v_if_eq (tgt := 11) (pc' := 9) 4 rfl rfl (by decide) (fun hc => ?_) (fun hc => ?_)
  · replace h := h.1 hc
    refine v_aload_n (pc' := 12) 7 0 rfl rfl rfl rfl ?_
    refine v_iload_n (pc' := 13) 8 1 rfl rfl rfl rfl ?_
    refine v_iload_n (pc' := 14) 9 2 rfl rfl rfl rfl ?_
    refine v_cV (Y2 := Y_X9_waveOf) (As := [.int p1, .int p2]) (b := 436) (pc' := 17) (c1 := 0) (s1 := 0) 10 rfl rfl mf_X9_waveOf rfl rfl ml_X9_313 mi_X9_waveOf se_X9_waveOf (ci := 8) rfl ly_436 (lay_lt ly_436 (by decide)) rfl (Nat.le_of_ble_eq_true rfl) ⟨Nat.le_of_ble_eq_true rfl, Nat.le_of_ble_eq_true rfl⟩ rfl rfl (ok_X9_waveOf p1 p2 I2489 L2490 h) ?_ ?_
    · intro e9 u9 hx9
      exact hx9.elim
    intro v9 u9 hv9
    obtain ⟨r2491, rfl, rfl, h⟩ := hv9
    refine ⟨fun q => absurd q (Nat.lt_irrefl _), ?_⟩
    show V G Y_X9_shortest 17 _ (.long r2491 :: _) _ _ _ _ _
    refine v_lstore_n (ls' := [(3, .long r2491), (0, .ref 436), (1, .int p1), (2, .int p2)]) (pc' := 18) 11 rfl rfl rfl (by decide) rfl ?_
    refine v_iconst (v := -1) (pc' := 19) 12 rfl rfl (by decide) ?_
    refine v_istore (ls' := [(5, .int (-1)), (3, .long r2491), (0, .ref 436), (1, .int p1), (2, .int p2)]) (pc' := 21) 13 rfl rfl (by decide) rfl ?_
    refine v_aload_n (pc' := 22) 14 2 rfl rfl rfl rfl ?_
    refine v_lload_n (pc' := 23) 15 1 rfl rfl rfl rfl ?_
    refine v_iconst (v := 0) (pc' := 24) 16 rfl rfl (by decide) ?_
    refine v_cV (Y2 := Y_X9_endOf) (As := [.long r2491, .int 0]) (b := 436) (pc' := 27) (c1 := 0) (s1 := 0) 17 rfl rfl mf_X9_endOf rfl rfl ml_X9_144 mi_X9_endOf se_X9_endOf (ci := 8) rfl ly_436 (lay_lt ly_436 (by decide)) rfl (Nat.le_of_ble_eq_true rfl) ⟨Nat.le_of_ble_eq_true rfl, Nat.le_of_ble_eq_true rfl⟩ rfl rfl (ok_X9_endOf r2491 (0 : Int32) I2489 L2490 h) ?_ ?_
    · intro e9 u9 hx9
      exact hx9.elim
    intro v9 u9 hv9
    obtain ⟨r2492, rfl, rfl, h⟩ := hv9
    refine ⟨fun q => absurd q (Nat.lt_irrefl _), ?_⟩
    show V G Y_X9_shortest 27 _ (.int r2492 :: _) _ _ _ _ _
    refine v_iconst (v := 1) (pc' := 28) 18 rfl rfl (by decide) ?_
    refine v_iadd (pc' := 29) 19 rfl rfl ?_
    refine v_istore (ls' := [(6, .int (r2492 + 1)), (5, .int (-1)), (3, .long r2491), (0, .ref 436), (1, .int p1), (2, .int p2)]) (pc' := 31) 20 rfl rfl (by decide) rfl ?_
    refine V.sub [3, 2, 1, 0] rfl ?_
    obtain ⟨n2493, h⟩ := h
    exact l_X9_shortest_31 r2491 I2489 L2490 Q n2493 ((-1) : Int32) (r2492 + 1) h
  replace h := h.2 hc
  refine v_iconst (v := 0) (pc' := 10) 5 rfl rfl (by decide) ?_
  exact v_iret 6 rfl rfl (by decide) (by decide) ⟨_, _, _, rfl, rfl, h⟩
set_option maxHeartbeats 4000000 in
set_option maxRecDepth 100000 in
theorem ok_X9_wrong {G : GT} {b d t : Nat} (p1 : Int32) (I : TI) (L : TL)  {Q : Int32 → TI → TL → Prop} (h : W_X9_wrong p1 I L Q) : MW G Y_X9_wrong [.ref 436, .int p1] (I, L, RT b d t, 457) (fun v9 u9 => ∃ (r9 : Int32) (I9 : TI) (L9 : TL), v9 = some (.int r9) ∧ u9 = (I9, L9, RT b d t, 457) ∧ Q r9 I9 L9) (fun _ _ => False) := by
  unfold W_X9_wrong at h
  refine MW.intro rfl (by decide) is_X9_wrong (Nat.le_of_ble_eq_true rfl) ?_
  show V G Y_X9_wrong 0 [(0, .ref 436), (1, .int p1)] [] (I, L, RT b d t, 457) 0 0 _ _
  refine v_aload_n (pc' := 1) 0 0 rfl rfl rfl rfl ?_
  refine v_iload_n (pc' := 2) 1 1 rfl rfl rfl rfl ?_
  refine v_cV (Y2 := Y_X9_noNet) (As := [.int p1]) (b := 436) (pc' := 5) (c1 := 0) (s1 := 0) 2 rfl rfl mf_X9_noNet rfl rfl ml_X9_297 mi_X9_noNet se_X9_noNet (ci := 8) rfl ly_436 (lay_lt ly_436 (by decide)) rfl (Nat.le_of_ble_eq_true rfl) ⟨Nat.le_of_ble_eq_true rfl, Nat.le_of_ble_eq_true rfl⟩ rfl rfl (ok_X9_noNet p1 I L h) ?_ ?_
  · intro e9 u9 hx9
    exact hx9.elim
  intro v9 u9 hv9
  obtain ⟨r2500, I2501, rfl, rfl, h⟩ := hv9
  refine ⟨fun q => absurd q (Nat.lt_irrefl _), ?_⟩
  show V G Y_X9_wrong 5 _ (.int r2500 :: _) _ _ _ _ _
  refine v_if_eq (tgt := 10) (pc' := 8) 3 rfl rfl (by decide) (fun hc => ?_) (fun hc => ?_)
  · replace h := h.1 hc
    refine v_aload_n (pc' := 11) 6 0 rfl rfl rfl rfl ?_
    refine v_cV (Y2 := Y_X9_waves) (As := []) (b := 436) (pc' := 14) (c1 := 0) (s1 := 0) 7 rfl rfl mf_X9_waves rfl rfl ml_X9_302 mi_X9_waves se_X9_waves (ci := 8) rfl ly_436 (lay_lt ly_436 (by decide)) rfl (Nat.le_of_ble_eq_true rfl) ⟨Nat.le_of_ble_eq_true rfl, Nat.le_of_ble_eq_true rfl⟩ rfl rfl (ok_X9_waves I2501 L h) ?_ ?_
    · intro e9 u9 hx9
      exact hx9.elim
    intro v9 u9 hv9
    obtain ⟨L2502, rfl, rfl, h⟩ := hv9
    refine ⟨fun q => absurd q (Nat.lt_irrefl _), ?_⟩
    show V G Y_X9_wrong 14 _ _ _ _ _ _ _
    refine v_aload_n (pc' := 15) 8 0 rfl rfl rfl rfl ?_
    refine v_getR (t := 444) (pc' := 18) 9 rfl rfl pf_X9_32 ly_436 (lay_lt ly_436 (by decide)) rt_436_15 ?_
    refine v_iload_n (pc' := 19) 10 1 rfl rfl rfl rfl ?_
    obtain ⟨hi2503, h⟩ := h
    refine v_lald (i := p1) (j := p1.toNatClampNeg) (pc' := 20) 11 rfl rfl ly_444 ln_444 (lay_lt ly_444 (by decide)) hi2503 rfl ?_
    refine v_aload_n (pc' := 21) 12 0 rfl rfl rfl rfl ?_
    refine v_getR (t := 446) (pc' := 24) 13 rfl rfl pf_X9_38 ly_436 (lay_lt ly_436 (by decide)) rt_436_17 ?_
    refine v_iload_n (pc' := 25) 14 1 rfl rfl rfl rfl ?_
    obtain ⟨hi2504, h⟩ := h
    refine v_lald (i := p1) (j := p1.toNatClampNeg) (pc' := 26) 15 rfl rfl ly_446 ln_446 (lay_lt ly_446 (by decide)) hi2504 rfl ?_
    refine v_lxor (pc' := 27) 16 rfl rfl ?_
    refine v_cS (Y2 := Y_X9_ones) (As := [.long ((L2502 444 (p1.toNatClampNeg)) ^^^ (L2502 446 (p1.toNatClampNeg)))]) (pc' := 30) (c1 := 0) (s1 := 0) 17 rfl rfl mf_X9_ones rfl rfl ml_X9_137 ms_X9_ones rfl (Nat.le_of_ble_eq_true rfl) ⟨Nat.le_of_ble_eq_true rfl, Nat.le_of_ble_eq_true rfl⟩ rfl rfl (ok_X9_ones ((L2502 444 (p1.toNatClampNeg)) ^^^ (L2502 446 (p1.toNatClampNeg))) I2501 L2502 h) ?_ ?_
    · intro e9 u9 hx9
      exact hx9.elim
    intro v9 u9 hv9
    obtain ⟨r2505, rfl, rfl, h⟩ := hv9
    refine ⟨fun q => absurd q (Nat.lt_irrefl _), ?_⟩
    show V G Y_X9_wrong 30 _ (.int r2505 :: _) _ _ _ _ _
    exact v_iret 18 rfl rfl (by decide) (by decide) ⟨_, _, _, rfl, rfl, h⟩
  replace h := h.2 hc
  refine v_iconst (v := 0) (pc' := 9) 4 rfl rfl (by decide) ?_
  exact v_iret 5 rfl rfl (by decide) (by decide) ⟨_, _, _, rfl, rfl, h⟩
set_option maxHeartbeats 4000000 in
set_option maxRecDepth 100000 in
theorem d_X9_firstWrong_16 {G : GT} {b d t : Nat} (v1 : Int32) (I : TI) (L : TL)  (Q : Int32 → TI → TL → Prop) (R16 : Int32 → Prop)  (hR16 : ∀ (v2 : Int32), R16 v2 → V G Y_X9_firstWrong 16 [(0, .ref 436), (1, .int v1), (2, .int v2)] [] (I, L, RT b d t, 457) 0 0 (fun v9 u9 => ∃ (r9 : Int32) (I9 : TI) (L9 : TL), v9 = some (.int r9) ∧ u9 = (I9, L9, RT b d t, 457) ∧ Q r9 I9 L9) (fun _ _ => False)) (v2 : Int32)  (h : D_X9_firstWrong_16 v1 I L Q R16 v2) : V G Y_X9_firstWrong 16 [(0, .ref 436), (1, .int v1), (2, .int v2)] [] (I, L, RT b d t, 457) 0 0 (fun v9 u9 => ∃ (r9 : Int32) (I9 : TI) (L9 : TL), v9 = some (.int r9) ∧ u9 = (I9, L9, RT b d t, 457) ∧ Q r9 I9 L9) (fun _ _ => False) := by
  unfold D_X9_firstWrong_16 at h
  refine v_iload_n (pc' := 17) 10 2 rfl rfl rfl rfl ?_
  refine v_aload_n (pc' := 18) 11 0 rfl rfl rfl rfl ?_
  refine v_getI (pc' := 21) 12 rfl rfl pf_X9_86 ly_436 (lay_lt ly_436 (by decide)) ?_
  refine v_icmp_gt (tgt := 53) (pc' := 24) 13 rfl rfl (by decide) (fun hc => ?_) (fun hc => ?_)
  · replace h := h.1 hc
    refine v_iconst (v := -1) (pc' := 54) 31 rfl rfl (by decide) ?_
    exact v_iret 32 rfl rfl (by decide) (by decide) ⟨_, _, _, rfl, rfl, h⟩
  replace h := h.2 hc
  refine v_aload_n (pc' := 25) 14 0 rfl rfl rfl rfl ?_
  refine v_getR (t := 444) (pc' := 28) 15 rfl rfl pf_X9_32 ly_436 (lay_lt ly_436 (by decide)) rt_436_15 ?_
  refine v_iload_n (pc' := 29) 16 1 rfl rfl rfl rfl ?_
  obtain ⟨hi2518, h⟩ := h
  refine v_lald (i := v1) (j := v1.toNatClampNeg) (pc' := 30) 17 rfl rfl ly_444 ln_444 (lay_lt ly_444 (by decide)) hi2518 rfl ?_
  refine v_aload_n (pc' := 31) 18 0 rfl rfl rfl rfl ?_
  refine v_getR (t := 446) (pc' := 34) 19 rfl rfl pf_X9_38 ly_436 (lay_lt ly_436 (by decide)) rt_436_17 ?_
  refine v_iload_n (pc' := 35) 20 1 rfl rfl rfl rfl ?_
  obtain ⟨hi2519, h⟩ := h
  refine v_lald (i := v1) (j := v1.toNatClampNeg) (pc' := 36) 21 rfl rfl ly_446 ln_446 (lay_lt ly_446 (by decide)) hi2519 rfl ?_
  refine v_lxor (pc' := 37) 22 rfl rfl ?_
  refine v_iload_n (pc' := 38) 23 2 rfl rfl rfl rfl ?_
  refine v_cS (Y2 := Y_X9_bit) (As := [.long ((L 444 (v1.toNatClampNeg)) ^^^ (L 446 (v1.toNatClampNeg))), .int v2]) (pc' := 41) (c1 := 0) (s1 := 0) 24 rfl rfl mf_X9_bit rfl rfl ml_X9_113 ms_X9_bit rfl (Nat.le_of_ble_eq_true rfl) ⟨Nat.le_of_ble_eq_true rfl, Nat.le_of_ble_eq_true rfl⟩ rfl rfl (ok_X9_bit ((L 444 (v1.toNatClampNeg)) ^^^ (L 446 (v1.toNatClampNeg))) v2 I L h) ?_ ?_
  · intro e9 u9 hx9
    exact hx9.elim
  intro v9 u9 hv9
  obtain ⟨r2520, rfl, rfl, h⟩ := hv9
  refine ⟨fun q => absurd q (Nat.lt_irrefl _), ?_⟩
  show V G Y_X9_firstWrong 41 _ (.int r2520 :: _) _ _ _ _ _
  refine v_iconst (v := 1) (pc' := 42) 25 rfl rfl (by decide) ?_
  refine v_icmp_ne (tgt := 47) (pc' := 45) 26 rfl rfl (by decide) (fun hc => ?_) (fun hc => ?_)
  · replace h := h.1 hc
    refine v_iinc (v := (v2 + 1)) (ls' := [(2, .int (v2 + 1)), (0, .ref 436), (1, .int v1)]) (pc' := 50) 29 2 rfl rfl rfl rfl (by decide) rfl ?_
    refine v_goto (tgt := 16) 30 rfl (by decide) ?_
    refine V.sub [1, 2, 0] rfl ?_
    exact hR16 (v2 + 1) h
  replace h := h.2 hc
  refine v_iload_n (pc' := 46) 27 2 rfl rfl rfl rfl ?_
  exact v_iret 28 rfl rfl (by decide) (by decide) ⟨_, _, _, rfl, rfl, h⟩
theorem l_X9_firstWrong_16 {G : GT} {b d t : Nat} (v1 : Int32) (I : TI) (L : TL)  (Q : Int32 → TI → TL → Prop)  : ∀ (n9 : Nat) (v2 : Int32), L_X9_firstWrong_16 v1 I L Q n9 v2 → V G Y_X9_firstWrong 16 [(0, .ref 436), (1, .int v1), (2, .int v2)] [] (I, L, RT b d t, 457) 0 0 (fun v9 u9 => ∃ (r9 : Int32) (I9 : TI) (L9 : TL), v9 = some (.int r9) ∧ u9 = (I9, L9, RT b d t, 457) ∧ Q r9 I9 L9) (fun _ _ => False)
  | 0, _, h => h.elim
  | n9 + 1, v2, h => d_X9_firstWrong_16 v1 I L Q _ (l_X9_firstWrong_16 v1 I L Q n9) v2 h
set_option maxHeartbeats 4000000 in
set_option maxRecDepth 100000 in
theorem ok_X9_firstWrong {G : GT} {b d t : Nat} (p1 : Int32) (I : TI) (L : TL)  {Q : Int32 → TI → TL → Prop} (h : W_X9_firstWrong p1 I L Q) : MW G Y_X9_firstWrong [.ref 436, .int p1] (I, L, RT b d t, 457) (fun v9 u9 => ∃ (r9 : Int32) (I9 : TI) (L9 : TL), v9 = some (.int r9) ∧ u9 = (I9, L9, RT b d t, 457) ∧ Q r9 I9 L9) (fun _ _ => False) := by
  unfold W_X9_firstWrong at h
  refine MW.intro rfl (by decide) is_X9_firstWrong (Nat.le_of_ble_eq_true rfl) ?_
  show V G Y_X9_firstWrong 0 [(0, .ref 436), (1, .int p1)] [] (I, L, RT b d t, 457) 0 0 _ _
  refine v_aload_n (pc' := 1) 0 0 rfl rfl rfl rfl ?_
  refine v_iload_n (pc' := 2) 1 1 rfl rfl rfl rfl ?_
  refine v_cV (Y2 := Y_X9_noNet) (As := [.int p1]) (b := 436) (pc' := 5) (c1 := 0) (s1 := 0) 2 rfl rfl mf_X9_noNet rfl rfl ml_X9_297 mi_X9_noNet se_X9_noNet (ci := 8) rfl ly_436 (lay_lt ly_436 (by decide)) rfl (Nat.le_of_ble_eq_true rfl) ⟨Nat.le_of_ble_eq_true rfl, Nat.le_of_ble_eq_true rfl⟩ rfl rfl (ok_X9_noNet p1 I L h) ?_ ?_
  · intro e9 u9 hx9
    exact hx9.elim
  intro v9 u9 hv9
  obtain ⟨r2521, I2522, rfl, rfl, h⟩ := hv9
  refine ⟨fun q => absurd q (Nat.lt_irrefl _), ?_⟩
  show V G Y_X9_firstWrong 5 _ (.int r2521 :: _) _ _ _ _ _
  refine v_if_eq (tgt := 10) (pc' := 8) 3 rfl rfl (by decide) (fun hc => ?_) (fun hc => ?_)
  · replace h := h.1 hc
    refine v_aload_n (pc' := 11) 6 0 rfl rfl rfl rfl ?_
    refine v_cV (Y2 := Y_X9_waves) (As := []) (b := 436) (pc' := 14) (c1 := 0) (s1 := 0) 7 rfl rfl mf_X9_waves rfl rfl ml_X9_302 mi_X9_waves se_X9_waves (ci := 8) rfl ly_436 (lay_lt ly_436 (by decide)) rfl (Nat.le_of_ble_eq_true rfl) ⟨Nat.le_of_ble_eq_true rfl, Nat.le_of_ble_eq_true rfl⟩ rfl rfl (ok_X9_waves I2522 L h) ?_ ?_
    · intro e9 u9 hx9
      exact hx9.elim
    intro v9 u9 hv9
    obtain ⟨L2523, rfl, rfl, h⟩ := hv9
    refine ⟨fun q => absurd q (Nat.lt_irrefl _), ?_⟩
    show V G Y_X9_firstWrong 14 _ _ _ _ _ _ _
    refine v_iconst (v := 0) (pc' := 15) 8 rfl rfl (by decide) ?_
    refine v_istore_n (ls' := [(2, .int 0), (0, .ref 436), (1, .int p1)]) (pc' := 16) 9 rfl rfl rfl (by decide) rfl ?_
    refine V.sub [1, 2, 0] rfl ?_
    obtain ⟨n2524, h⟩ := h
    exact l_X9_firstWrong_16 p1 I2522 L2523 Q n2524 (0 : Int32) h
  replace h := h.2 hc
  refine v_iconst (v := 0) (pc' := 9) 4 rfl rfl (by decide) ?_
  exact v_iret 5 rfl rfl (by decide) (by decide) ⟨_, _, _, rfl, rfl, h⟩
set_option maxHeartbeats 4000000 in
set_option maxRecDepth 100000 in
theorem ok_X9_allWrong {G : GT} {b d t : Nat} (I : TI) (L : TL)  {Q : Int32 → TI → TL → Prop} (h : W_X9_allWrong I L Q) : MW G Y_X9_allWrong [.ref 436] (I, L, RT b d t, 457) (fun v9 u9 => ∃ (r9 : Int32) (I9 : TI) (L9 : TL), v9 = some (.int r9) ∧ u9 = (I9, L9, RT b d t, 457) ∧ Q r9 I9 L9) (fun _ _ => False) := by
  unfold W_X9_allWrong at h
  refine MW.intro rfl (by decide) is_X9_allWrong (Nat.le_of_ble_eq_true rfl) ?_
  show V G Y_X9_allWrong 0 [(0, .ref 436)] [] (I, L, RT b d t, 457) 0 0 _ _
  refine v_aload_n (pc' := 1) 0 0 rfl rfl rfl rfl ?_
  refine v_iconst (v := 0) (pc' := 2) 1 rfl rfl (by decide) ?_
  refine v_putI (pc' := 5) 2 rfl rfl pf_X9_80 (fun q => absurd q (by decide)) ly_436 (lay_lt ly_436 (by decide)) ?_
  refine v_aload_n (pc' := 6) 3 0 rfl rfl rfl rfl ?_
  refine v_cV (Y2 := Y_X9_waves) (As := []) (b := 436) (pc' := 9) (c1 := 0) (s1 := 0) 4 rfl rfl mf_X9_waves rfl rfl ml_X9_302 mi_X9_waves se_X9_waves (ci := 8) rfl ly_436 (lay_lt ly_436 (by decide)) rfl (Nat.le_of_ble_eq_true rfl) ⟨Nat.le_of_ble_eq_true rfl, Nat.le_of_ble_eq_true rfl⟩ rfl rfl (ok_X9_waves (up2 I 436 0 0) L h) ?_ ?_
  · intro e9 u9 hx9
    exact hx9.elim
  intro v9 u9 hv9
  obtain ⟨L2527, rfl, rfl, h⟩ := hv9
  refine ⟨fun q => absurd q (Nat.lt_irrefl _), ?_⟩
  show V G Y_X9_allWrong 9 _ _ _ _ _ _ _
  refine v_aload_n (pc' := 10) 5 0 rfl rfl rfl rfl ?_
  refine v_cV (Y2 := Y_X9_wrongs) (As := []) (b := 436) (pc' := 13) (c1 := 0) (s1 := 0) 6 rfl rfl mf_X9_wrongs rfl rfl ml_X9_325 mi_X9_wrongs se_X9_wrongs (ci := 8) rfl ly_436 (lay_lt ly_436 (by decide)) rfl (Nat.le_of_ble_eq_true rfl) ⟨Nat.le_of_ble_eq_true rfl, Nat.le_of_ble_eq_true rfl⟩ rfl rfl (ok_X9_wrongs (up2 I 436 0 0) L2527 h) ?_ ?_
  · intro e9 u9 hx9
    exact hx9.elim
  intro v9 u9 hv9
  obtain ⟨r2528, rfl, rfl, h⟩ := hv9
  refine ⟨fun q => absurd q (Nat.lt_irrefl _), ?_⟩
  show V G Y_X9_allWrong 13 _ (.int r2528 :: _) _ _ _ _ _
  exact v_iret 7 rfl rfl (by decide) (by decide) ⟨_, _, _, rfl, rfl, h⟩
set_option maxHeartbeats 4000000 in
set_option maxRecDepth 100000 in
theorem b_X9_worst_61 {G : GT} {b d t : Nat} (v2 : Int32) (s0 : Int32) (I : TI) (L : TL)  (Q : Int32 → TI → TL → Prop) (R13 : Int32 → Int32 → Prop) (hR13 : ∀ (v1 : Int32) (v2 : Int32), R13 v1 v2 → V G Y_X9_worst 13 [(0, .ref 436), (1, .int v1), (2, .int v2)] [] (I, L, RT b d t, 457) 0 0 (fun v9 u9 => ∃ (r9 : Int32) (I9 : TI) (L9 : TL), v9 = some (.int r9) ∧ u9 = (I9, L9, RT b d t, 457) ∧ Q r9 I9 L9) (fun _ _ => False)) (h : B_X9_worst_61 v2 s0 I L Q R13) : V G Y_X9_worst 61 [(0, .ref 436), (2, .int v2)] [.int s0] (I, L, RT b d t, 457) 0 0 (fun v9 u9 => ∃ (r9 : Int32) (I9 : TI) (L9 : TL), v9 = some (.int r9) ∧ u9 = (I9, L9, RT b d t, 457) ∧ Q r9 I9 L9) (fun _ _ => False) := by
  unfold B_X9_worst_61 at h
  refine v_istore_n (ls' := [(1, .int s0), (0, .ref 436), (2, .int v2)]) (pc' := 62) 37 rfl rfl rfl (by decide) rfl ?_
  refine v_iinc (v := (v2 + 1)) (ls' := [(2, .int (v2 + 1)), (1, .int s0), (0, .ref 436)]) (pc' := 65) 38 2 rfl rfl rfl rfl (by decide) rfl ?_
  refine v_goto (tgt := 13) 39 rfl (by decide) ?_
  refine V.sub [2, 1, 0] rfl ?_
  exact hR13 s0 (v2 + 1) h
set_option maxHeartbeats 4000000 in
set_option maxRecDepth 100000 in
theorem d_X9_worst_13 {G : GT} {b d t : Nat} (I : TI) (L : TL)  (Q : Int32 → TI → TL → Prop) (R13 : Int32 → Int32 → Prop)  (hR13 : ∀ (v1 : Int32) (v2 : Int32), R13 v1 v2 → V G Y_X9_worst 13 [(0, .ref 436), (1, .int v1), (2, .int v2)] [] (I, L, RT b d t, 457) 0 0 (fun v9 u9 => ∃ (r9 : Int32) (I9 : TI) (L9 : TL), v9 = some (.int r9) ∧ u9 = (I9, L9, RT b d t, 457) ∧ Q r9 I9 L9) (fun _ _ => False)) (v1 : Int32) (v2 : Int32)  (h : D_X9_worst_13 I L Q R13 v1 v2) : V G Y_X9_worst 13 [(0, .ref 436), (1, .int v1), (2, .int v2)] [] (I, L, RT b d t, 457) 0 0 (fun v9 u9 => ∃ (r9 : Int32) (I9 : TI) (L9 : TL), v9 = some (.int r9) ∧ u9 = (I9, L9, RT b d t, 457) ∧ Q r9 I9 L9) (fun _ _ => False) := by
  unfold D_X9_worst_13 at h
  refine v_iload_n (pc' := 14) 9 2 rfl rfl rfl rfl ?_
  refine v_aload_n (pc' := 15) 10 0 rfl rfl rfl rfl ?_
  refine v_cV (Y2 := Y_X9_nets) (As := []) (b := 436) (pc' := 18) (c1 := 0) (s1 := 0) 11 rfl rfl mf_X9_nets rfl rfl ml_X9_95 mi_X9_nets se_X9_nets (ci := 8) rfl ly_436 (lay_lt ly_436 (by decide)) rfl (Nat.le_of_ble_eq_true rfl) ⟨Nat.le_of_ble_eq_true rfl, Nat.le_of_ble_eq_true rfl⟩ rfl rfl (ok_X9_nets I L h) ?_ ?_
  · intro e9 u9 hx9
    exact hx9.elim
  intro v9 u9 hv9
  obtain ⟨r2545, rfl, rfl, h⟩ := hv9
  refine ⟨fun q => absurd q (Nat.lt_irrefl _), ?_⟩
  show V G Y_X9_worst 18 _ (.int r2545 :: _) _ _ _ _ _
  refine v_icmp_ge (tgt := 68) (pc' := 21) 12 rfl rfl (by decide) (fun hc => ?_) (fun hc => ?_)
  · replace h := h.1 hc
    refine v_iload_n (pc' := 69) 40 1 rfl rfl rfl rfl ?_
    exact v_iret 41 rfl rfl (by decide) (by decide) ⟨_, _, _, rfl, rfl, h⟩
  replace h := h.2 hc
  refine v_aload_n (pc' := 22) 13 0 rfl rfl rfl rfl ?_
  refine v_getR (t := 444) (pc' := 25) 14 rfl rfl pf_X9_32 ly_436 (lay_lt ly_436 (by decide)) rt_436_15 ?_
  refine v_iload_n (pc' := 26) 15 2 rfl rfl rfl rfl ?_
  obtain ⟨hi2546, h⟩ := h
  refine v_lald (i := v2) (j := v2.toNatClampNeg) (pc' := 27) 16 rfl rfl ly_444 ln_444 (lay_lt ly_444 (by decide)) hi2546 rfl ?_
  refine v_aload_n (pc' := 28) 17 0 rfl rfl rfl rfl ?_
  refine v_getR (t := 446) (pc' := 31) 18 rfl rfl pf_X9_38 ly_436 (lay_lt ly_436 (by decide)) rt_436_17 ?_
  refine v_iload_n (pc' := 32) 19 2 rfl rfl rfl rfl ?_
  obtain ⟨hi2547, h⟩ := h
  refine v_lald (i := v2) (j := v2.toNatClampNeg) (pc' := 33) 20 rfl rfl ly_446 ln_446 (lay_lt ly_446 (by decide)) hi2547 rfl ?_
  refine v_lxor (pc' := 34) 21 rfl rfl ?_
  refine v_cS (Y2 := Y_X9_ones) (As := [.long ((L 444 (v2.toNatClampNeg)) ^^^ (L 446 (v2.toNatClampNeg)))]) (pc' := 37) (c1 := 0) (s1 := 0) 22 rfl rfl mf_X9_ones rfl rfl ml_X9_137 ms_X9_ones rfl (Nat.le_of_ble_eq_true rfl) ⟨Nat.le_of_ble_eq_true rfl, Nat.le_of_ble_eq_true rfl⟩ rfl rfl (ok_X9_ones ((L 444 (v2.toNatClampNeg)) ^^^ (L 446 (v2.toNatClampNeg))) I L h) ?_ ?_
  · intro e9 u9 hx9
    exact hx9.elim
  intro v9 u9 hv9
  obtain ⟨r2548, rfl, rfl, h⟩ := hv9
  refine ⟨fun q => absurd q (Nat.lt_irrefl _), ?_⟩
  show V G Y_X9_worst 37 _ (.int r2548 :: _) _ _ _ _ _
  refine v_aload_n (pc' := 38) 23 0 rfl rfl rfl rfl ?_
  refine v_getR (t := 444) (pc' := 41) 24 rfl rfl pf_X9_32 ly_436 (lay_lt ly_436 (by decide)) rt_436_15 ?_
  refine v_iload_n (pc' := 42) 25 1 rfl rfl rfl rfl ?_
  obtain ⟨hi2549, h⟩ := h
  refine v_lald (i := v1) (j := v1.toNatClampNeg) (pc' := 43) 26 rfl rfl ly_444 ln_444 (lay_lt ly_444 (by decide)) hi2549 rfl ?_
  refine v_aload_n (pc' := 44) 27 0 rfl rfl rfl rfl ?_
  refine v_getR (t := 446) (pc' := 47) 28 rfl rfl pf_X9_38 ly_436 (lay_lt ly_436 (by decide)) rt_436_17 ?_
  refine v_iload_n (pc' := 48) 29 1 rfl rfl rfl rfl ?_
  obtain ⟨hi2550, h⟩ := h
  refine v_lald (i := v1) (j := v1.toNatClampNeg) (pc' := 49) 30 rfl rfl ly_446 ln_446 (lay_lt ly_446 (by decide)) hi2550 rfl ?_
  refine v_lxor (pc' := 50) 31 rfl rfl ?_
  refine v_cS (Y2 := Y_X9_ones) (As := [.long ((L 444 (v1.toNatClampNeg)) ^^^ (L 446 (v1.toNatClampNeg)))]) (pc' := 53) (c1 := 0) (s1 := 0) 32 rfl rfl mf_X9_ones rfl rfl ml_X9_137 ms_X9_ones rfl (Nat.le_of_ble_eq_true rfl) ⟨Nat.le_of_ble_eq_true rfl, Nat.le_of_ble_eq_true rfl⟩ rfl rfl (ok_X9_ones ((L 444 (v1.toNatClampNeg)) ^^^ (L 446 (v1.toNatClampNeg))) I L h) ?_ ?_
  · intro e9 u9 hx9
    exact hx9.elim
  intro v9 u9 hv9
  obtain ⟨r2551, rfl, rfl, h⟩ := hv9
  refine ⟨fun q => absurd q (Nat.lt_irrefl _), ?_⟩
  show V G Y_X9_worst 53 _ (.int r2551 :: _) _ _ _ _ _
  refine v_icmp_le (tgt := 60) (pc' := 56) 33 rfl rfl (by decide) (fun hc => ?_) (fun hc => ?_)
  · replace h := h.1 hc
    refine v_iload_n (pc' := 61) 36 1 rfl rfl rfl rfl ?_
    refine V.sub [0, 2] rfl ?_
    exact b_X9_worst_61 v2 v1 I L Q R13 hR13 h
  replace h := h.2 hc
  refine v_iload_n (pc' := 57) 34 2 rfl rfl rfl rfl ?_
  refine v_goto (tgt := 61) 35 rfl (by decide) ?_
  refine V.sub [0, 2] rfl ?_
  exact b_X9_worst_61 v2 v2 I L Q R13 hR13 h
theorem l_X9_worst_13 {G : GT} {b d t : Nat} (I : TI) (L : TL)  (Q : Int32 → TI → TL → Prop)  : ∀ (n9 : Nat) (v1 : Int32) (v2 : Int32), L_X9_worst_13 I L Q n9 v1 v2 → V G Y_X9_worst 13 [(0, .ref 436), (1, .int v1), (2, .int v2)] [] (I, L, RT b d t, 457) 0 0 (fun v9 u9 => ∃ (r9 : Int32) (I9 : TI) (L9 : TL), v9 = some (.int r9) ∧ u9 = (I9, L9, RT b d t, 457) ∧ Q r9 I9 L9) (fun _ _ => False)
  | 0, _, _, h => h.elim
  | n9 + 1, v1, v2, h => d_X9_worst_13 I L Q _ (l_X9_worst_13 I L Q n9) v1 v2 h
set_option maxHeartbeats 4000000 in
set_option maxRecDepth 100000 in
theorem ok_X9_worst {G : GT} {b d t : Nat} (I : TI) (L : TL)  {Q : Int32 → TI → TL → Prop} (h : W_X9_worst I L Q) : MW G Y_X9_worst [.ref 436] (I, L, RT b d t, 457) (fun v9 u9 => ∃ (r9 : Int32) (I9 : TI) (L9 : TL), v9 = some (.int r9) ∧ u9 = (I9, L9, RT b d t, 457) ∧ Q r9 I9 L9) (fun _ _ => False) := by
  unfold W_X9_worst at h
  refine MW.intro rfl (by decide) is_X9_worst (Nat.le_of_ble_eq_true rfl) ?_
  show V G Y_X9_worst 0 [(0, .ref 436)] [] (I, L, RT b d t, 457) 0 0 _ _
  refine v_aload_n (pc' := 1) 0 0 rfl rfl rfl rfl ?_
  refine v_iconst (v := 0) (pc' := 2) 1 rfl rfl (by decide) ?_
  refine v_putI (pc' := 5) 2 rfl rfl pf_X9_80 (fun q => absurd q (by decide)) ly_436 (lay_lt ly_436 (by decide)) ?_
  refine v_aload_n (pc' := 6) 3 0 rfl rfl rfl rfl ?_
  refine v_cV (Y2 := Y_X9_waves) (As := []) (b := 436) (pc' := 9) (c1 := 0) (s1 := 0) 4 rfl rfl mf_X9_waves rfl rfl ml_X9_302 mi_X9_waves se_X9_waves (ci := 8) rfl ly_436 (lay_lt ly_436 (by decide)) rfl (Nat.le_of_ble_eq_true rfl) ⟨Nat.le_of_ble_eq_true rfl, Nat.le_of_ble_eq_true rfl⟩ rfl rfl (ok_X9_waves (up2 I 436 0 0) L h) ?_ ?_
  · intro e9 u9 hx9
    exact hx9.elim
  intro v9 u9 hv9
  obtain ⟨L2552, rfl, rfl, h⟩ := hv9
  refine ⟨fun q => absurd q (Nat.lt_irrefl _), ?_⟩
  show V G Y_X9_worst 9 _ _ _ _ _ _ _
  refine v_iconst (v := 0) (pc' := 10) 5 rfl rfl (by decide) ?_
  refine v_istore_n (ls' := [(1, .int 0), (0, .ref 436)]) (pc' := 11) 6 rfl rfl rfl (by decide) rfl ?_
  refine v_iconst (v := 1) (pc' := 12) 7 rfl rfl (by decide) ?_
  refine v_istore_n (ls' := [(2, .int 1), (1, .int 0), (0, .ref 436)]) (pc' := 13) 8 rfl rfl rfl (by decide) rfl ?_
  refine V.sub [2, 1, 0] rfl ?_
  obtain ⟨n2553, h⟩ := h
  exact l_X9_worst_13 (up2 I 436 0 0) L2552 Q n2553 (0 : Int32) (1 : Int32) h
set_option maxHeartbeats 4000000 in
set_option maxRecDepth 100000 in
theorem ok_X9_dependsOn {G : GT} {b d t : Nat} (p1 : Int32) (I : TI) (L : TL)  {Q : Int32 → TI → Prop} (h : W_X9_dependsOn p1 I L Q) : MW G Y_X9_dependsOn [.ref 436, .int p1] (I, L, RT b d t, 457) (fun v9 u9 => ∃ (r9 : Int32) (I9 : TI), v9 = some (.int r9) ∧ u9 = (I9, L, RT b d t, 457) ∧ Q r9 I9) (fun _ _ => False) := by
  unfold W_X9_dependsOn at h
  refine MW.intro rfl (by decide) is_X9_dependsOn (Nat.le_of_ble_eq_true rfl) ?_
  show V G Y_X9_dependsOn 0 [(0, .ref 436), (1, .int p1)] [] (I, L, RT b d t, 457) 0 0 _ _
  refine v_aload_n (pc' := 1) 0 0 rfl rfl rfl rfl ?_
  refine v_iload_n (pc' := 2) 1 1 rfl rfl rfl rfl ?_
  refine v_cV (Y2 := Y_X9_noGate) (As := [.int p1]) (b := 436) (pc' := 5) (c1 := 0) (s1 := 0) 2 rfl rfl mf_X9_noGate rfl rfl ml_X9_307 mi_X9_noGate se_X9_noGate (ci := 8) rfl ly_436 (lay_lt ly_436 (by decide)) rfl (Nat.le_of_ble_eq_true rfl) ⟨Nat.le_of_ble_eq_true rfl, Nat.le_of_ble_eq_true rfl⟩ rfl rfl (ok_X9_noGate p1 I L h) ?_ ?_
  · intro e9 u9 hx9
    exact hx9.elim
  intro v9 u9 hv9
  obtain ⟨r2557, I2558, rfl, rfl, h⟩ := hv9
  refine ⟨fun q => absurd q (Nat.lt_irrefl _), ?_⟩
  show V G Y_X9_dependsOn 5 _ (.int r2557 :: _) _ _ _ _ _
  refine v_if_eq (tgt := 12) (pc' := 8) 3 rfl rfl (by decide) (fun hc => ?_) (fun hc => ?_)
  · replace h := h.1 hc
    refine v_aload_n (pc' := 13) 6 0 rfl rfl rfl rfl ?_
    refine v_iload_n (pc' := 14) 7 1 rfl rfl rfl rfl ?_
    refine v_cV (Y2 := Y_X9_dependence) (As := [.int p1]) (b := 436) (pc' := 17) (c1 := 0) (s1 := 0) 8 rfl rfl mf_X9_dependence rfl rfl ml_X9_99 mi_X9_dependence se_X9_dependence (ci := 8) rfl ly_436 (lay_lt ly_436 (by decide)) rfl (Nat.le_of_ble_eq_true rfl) ⟨Nat.le_of_ble_eq_true rfl, Nat.le_of_ble_eq_true rfl⟩ rfl rfl (ok_X9_dependence p1 I2558 L h) ?_ ?_
    · intro e9 u9 hx9
      exact hx9.elim
    intro v9 u9 hv9
    obtain ⟨r2559, rfl, rfl, h⟩ := hv9
    refine ⟨fun q => absurd q (Nat.lt_irrefl _), ?_⟩
    show V G Y_X9_dependsOn 17 _ (.long r2559 :: _) _ _ _ _ _
    refine v_l2i (pc' := 18) 9 rfl rfl ?_
    exact v_iret 10 rfl rfl (by decide) (by decide) ⟨_, _, rfl, rfl, h⟩
  replace h := h.2 hc
  refine v_iconst (v := 0) (pc' := 9) 4 rfl rfl (by decide) ?_
  refine v_goto (tgt := 18) 5 rfl (by decide) ?_
  exact v_iret 10 rfl rfl (by decide) (by decide) ⟨_, _, rfl, rfl, h⟩
set_option maxHeartbeats 4000000 in
set_option maxRecDepth 100000 in
theorem ok_X9_touches {G : GT} {b d t : Nat} (p1 : Int32) (I : TI) (L : TL)  {Q : Int32 → TI → Prop} (h : W_X9_touches p1 I L Q) : MW G Y_X9_touches [.ref 436, .int p1] (I, L, RT b d t, 457) (fun v9 u9 => ∃ (r9 : Int32) (I9 : TI), v9 = some (.int r9) ∧ u9 = (I9, L, RT b d t, 457) ∧ Q r9 I9) (fun _ _ => False) := by
  unfold W_X9_touches at h
  refine MW.intro rfl (by decide) is_X9_touches (Nat.le_of_ble_eq_true rfl) ?_
  show V G Y_X9_touches 0 [(0, .ref 436), (1, .int p1)] [] (I, L, RT b d t, 457) 0 0 _ _
  refine v_aload_n (pc' := 1) 0 0 rfl rfl rfl rfl ?_
  refine v_iload_n (pc' := 2) 1 1 rfl rfl rfl rfl ?_
  refine v_cV (Y2 := Y_X9_noNet) (As := [.int p1]) (b := 436) (pc' := 5) (c1 := 0) (s1 := 0) 2 rfl rfl mf_X9_noNet rfl rfl ml_X9_297 mi_X9_noNet se_X9_noNet (ci := 8) rfl ly_436 (lay_lt ly_436 (by decide)) rfl (Nat.le_of_ble_eq_true rfl) ⟨Nat.le_of_ble_eq_true rfl, Nat.le_of_ble_eq_true rfl⟩ rfl rfl (ok_X9_noNet p1 I L h) ?_ ?_
  · intro e9 u9 hx9
    exact hx9.elim
  intro v9 u9 hv9
  obtain ⟨r2563, I2564, rfl, rfl, h⟩ := hv9
  refine ⟨fun q => absurd q (Nat.lt_irrefl _), ?_⟩
  show V G Y_X9_touches 5 _ (.int r2563 :: _) _ _ _ _ _
  refine v_if_eq (tgt := 12) (pc' := 8) 3 rfl rfl (by decide) (fun hc => ?_) (fun hc => ?_)
  · replace h := h.1 hc
    refine v_aload_n (pc' := 13) 6 0 rfl rfl rfl rfl ?_
    refine v_iload_n (pc' := 14) 7 1 rfl rfl rfl rfl ?_
    refine v_cV (Y2 := Y_X9_touched) (As := [.int p1]) (b := 436) (pc' := 17) (c1 := 0) (s1 := 0) 8 rfl rfl mf_X9_touched rfl rfl ml_X9_328 mi_X9_touched se_X9_touched (ci := 8) rfl ly_436 (lay_lt ly_436 (by decide)) rfl (Nat.le_of_ble_eq_true rfl) ⟨Nat.le_of_ble_eq_true rfl, Nat.le_of_ble_eq_true rfl⟩ rfl rfl (ok_X9_touched p1 I2564 L h) ?_ ?_
    · intro e9 u9 hx9
      exact hx9.elim
    intro v9 u9 hv9
    obtain ⟨r2565, rfl, rfl, h⟩ := hv9
    refine ⟨fun q => absurd q (Nat.lt_irrefl _), ?_⟩
    show V G Y_X9_touches 17 _ (.long r2565 :: _) _ _ _ _ _
    refine v_l2i (pc' := 18) 9 rfl rfl ?_
    exact v_iret 10 rfl rfl (by decide) (by decide) ⟨_, _, rfl, rfl, h⟩
  replace h := h.2 hc
  refine v_iconst (v := 0) (pc' := 9) 4 rfl rfl (by decide) ?_
  refine v_goto (tgt := 18) 5 rfl (by decide) ?_
  exact v_iret 10 rfl rfl (by decide) (by decide) ⟨_, _, rfl, rfl, h⟩
set_option maxHeartbeats 4000000 in
set_option maxRecDepth 100000 in
theorem b_X9_longest_103 {G : GT} {b d t : Nat} (v1 : Int32) (v2 : Int32) (I : TI) (L : TL)  (Q : Int32 → TI → Prop) (R12 : Int32 → TI → Prop) (hR12 : ∀ (v2 : Int32) (I : TI), R12 v2 I → V G Y_X9_longest 12 [(0, .ref 436), (1, .int v1), (2, .int v2)] [] (I, L, RT b d t, 457) 0 0 (fun v9 u9 => ∃ (r9 : Int32) (I9 : TI), v9 = some (.int r9) ∧ u9 = (I9, L, RT b d t, 457) ∧ Q r9 I9) (fun _ _ => False)) (h : B_X9_longest_103 v1 v2 I L Q R12) : V G Y_X9_longest 103 [(0, .ref 436), (1, .int v1), (2, .int v2)] [] (I, L, RT b d t, 457) 0 0 (fun v9 u9 => ∃ (r9 : Int32) (I9 : TI), v9 = some (.int r9) ∧ u9 = (I9, L, RT b d t, 457) ∧ Q r9 I9) (fun _ _ => False) := by
  unfold B_X9_longest_103 at h
  refine v_iinc (v := (v2 + 1)) (ls' := [(2, .int (v2 + 1)), (0, .ref 436), (1, .int v1)]) (pc' := 106) 63 2 rfl rfl rfl rfl (by decide) rfl ?_
  refine v_goto (tgt := 12) 64 rfl (by decide) ?_
  refine V.sub [1, 2, 0] rfl ?_
  exact hR12 (v2 + 1) I h
set_option maxHeartbeats 4000000 in
set_option maxRecDepth 100000 in
theorem b_X9_longest_98 {G : GT} {b d t : Nat} (v1 : Int32) (v2 : Int32) (s1 : Int32) (s2 : Int32) (s3 : Int32) (s4 : Int32) (I : TI) (L : TL)  (Q : Int32 → TI → Prop) (R12 : Int32 → TI → Prop) (hR12 : ∀ (v2 : Int32) (I : TI), R12 v2 I → V G Y_X9_longest 12 [(0, .ref 436), (1, .int v1), (2, .int v2)] [] (I, L, RT b d t, 457) 0 0 (fun v9 u9 => ∃ (r9 : Int32) (I9 : TI), v9 = some (.int r9) ∧ u9 = (I9, L, RT b d t, 457) ∧ Q r9 I9) (fun _ _ => False)) (h : B_X9_longest_98 v1 v2 s1 s2 s3 s4 I L Q R12) : V G Y_X9_longest 98 [(0, .ref 436), (1, .int v1), (2, .int v2)] [.int s4, .int s3, .int s2, .int s1, .ref 451] (I, L, RT b d t, 457) 0 0 (fun v9 u9 => ∃ (r9 : Int32) (I9 : TI), v9 = some (.int r9) ∧ u9 = (I9, L, RT b d t, 457) ∧ Q r9 I9) (fun _ _ => False) := by
  unfold B_X9_longest_98 at h
  refine v_cS (Y2 := Y_X9_greater) (As := [.int s3, .int s4]) (pc' := 101) (c1 := 0) (s1 := 0) 60 rfl rfl mf_X9_greater rfl rfl ml_X9_331 ms_X9_greater rfl (Nat.le_of_ble_eq_true rfl) ⟨Nat.le_of_ble_eq_true rfl, Nat.le_of_ble_eq_true rfl⟩ rfl rfl (ok_X9_greater s3 s4 I L h) ?_ ?_
  · intro e9 u9 hx9
    exact hx9.elim
  intro v9 u9 hv9
  obtain ⟨r2590, rfl, rfl, h⟩ := hv9
  refine ⟨fun q => absurd q (Nat.lt_irrefl _), ?_⟩
  show V G Y_X9_longest 101 _ (.int r2590 :: _) _ _ _ _ _
  refine v_iadd (pc' := 102) 61 rfl rfl ?_
  obtain ⟨hi2591, h⟩ := h
  refine v_iast (i := s1) (j := s1.toNatClampNeg) (pc' := 103) 62 rfl rfl ly_451 ln_451 (lay_lt ly_451 (by decide)) hi2591 rfl ?_
  exact b_X9_longest_103 v1 v2 (up2 I 451 (s1.toNatClampNeg) (s2 + r2590)) L Q R12 hR12 h
set_option maxHeartbeats 4000000 in
set_option maxRecDepth 100000 in
theorem d_X9_longest_12 {G : GT} {b d t : Nat} (v1 : Int32) (L : TL)  (Q : Int32 → TI → Prop) (R12 : Int32 → TI → Prop)  (hR12 : ∀ (v2 : Int32) (I : TI), R12 v2 I → V G Y_X9_longest 12 [(0, .ref 436), (1, .int v1), (2, .int v2)] [] (I, L, RT b d t, 457) 0 0 (fun v9 u9 => ∃ (r9 : Int32) (I9 : TI), v9 = some (.int r9) ∧ u9 = (I9, L, RT b d t, 457) ∧ Q r9 I9) (fun _ _ => False)) (v2 : Int32) (I : TI)  (h : D_X9_longest_12 v1 L Q R12 v2 I) : V G Y_X9_longest 12 [(0, .ref 436), (1, .int v1), (2, .int v2)] [] (I, L, RT b d t, 457) 0 0 (fun v9 u9 => ∃ (r9 : Int32) (I9 : TI), v9 = some (.int r9) ∧ u9 = (I9, L, RT b d t, 457) ∧ Q r9 I9) (fun _ _ => False) := by
  unfold D_X9_longest_12 at h
  refine v_iload_n (pc' := 13) 8 2 rfl rfl rfl rfl ?_
  refine v_iload_n (pc' := 14) 9 1 rfl rfl rfl rfl ?_
  refine v_icmp_gt (tgt := 109) (pc' := 17) 10 rfl rfl (by decide) (fun hc => ?_) (fun hc => ?_)
  · replace h := h.1 hc
    refine v_aload_n (pc' := 110) 65 0 rfl rfl rfl rfl ?_
    refine v_getR (t := 451) (pc' := 113) 66 rfl rfl pf_X9_57 ly_436 (lay_lt ly_436 (by decide)) rt_436_34 ?_
    refine v_iload_n (pc' := 114) 67 1 rfl rfl rfl rfl ?_
    obtain ⟨hi2592, h⟩ := h
    refine v_iald (i := v1) (j := v1.toNatClampNeg) (pc' := 115) 68 rfl rfl ly_451 ln_451 (lay_lt ly_451 (by decide)) hi2592 rfl ?_
    exact v_iret 69 rfl rfl (by decide) (by decide) ⟨_, _, rfl, rfl, h⟩
  replace h := h.2 hc
  refine v_aload_n (pc' := 18) 11 0 rfl rfl rfl rfl ?_
  refine v_getR (t := 451) (pc' := 21) 12 rfl rfl pf_X9_57 ly_436 (lay_lt ly_436 (by decide)) rt_436_34 ?_
  refine v_iload_n (pc' := 22) 13 2 rfl rfl rfl rfl ?_
  refine v_iconst (v := 0) (pc' := 23) 14 rfl rfl (by decide) ?_
  obtain ⟨hi2593, h⟩ := h
  refine v_iast (i := v2) (j := v2.toNatClampNeg) (pc' := 24) 15 rfl rfl ly_451 ln_451 (lay_lt ly_451 (by decide)) hi2593 rfl ?_
  refine v_iload_n (pc' := 25) 16 2 rfl rfl rfl rfl ?_
  refine v_aload_n (pc' := 26) 17 0 rfl rfl rfl rfl ?_
  refine v_getI (pc' := 29) 18 rfl rfl pf_X9_77 ly_436 (lay_lt ly_436 (by decide)) ?_
  refine v_icmp_ge (tgt := 35) (pc' := 32) 19 rfl rfl (by decide) (fun hc => ?_) (fun hc => ?_)
  · replace h := h.1 hc
    refine v_aload_n (pc' := 36) 21 0 rfl rfl rfl rfl ?_
    refine v_getR (t := 443) (pc' := 39) 22 rfl rfl pf_X9_29 ly_436 (lay_lt ly_436 (by decide)) rt_436_14 ?_
    refine v_iload_n (pc' := 40) 23 2 rfl rfl rfl rfl ?_
    refine v_aload_n (pc' := 41) 24 0 rfl rfl rfl rfl ?_
    refine v_getI (pc' := 44) 25 rfl rfl pf_X9_77 ly_436 (lay_lt ly_436 (by decide)) ?_
    refine v_isub (pc' := 45) 26 rfl rfl ?_
    obtain ⟨hi2594, h⟩ := h
    refine v_iald (i := (v2 - ((up2 I 451 (v2.toNatClampNeg) 0) 436 10))) (j := (v2 - ((up2 I 451 (v2.toNatClampNeg) 0) 436 10)).toNatClampNeg) (pc' := 46) 27 rfl rfl ly_443 ln_443 (lay_lt ly_443 (by decide)) hi2594 rfl ?_
    refine nm_I (e := ((up2 I 451 (v2.toNatClampNeg) 0) 443 ((v2 - ((up2 I 451 (v2.toNatClampNeg) 0) 436 10)).toNatClampNeg))) (fun x2595 hx2595 => ?_)
    replace h := h x2595 hx2595
    refine v_istore_n (ls' := [(3, .int x2595), (0, .ref 436), (1, .int v1), (2, .int v2)]) (pc' := 47) 28 rfl rfl rfl (by decide) rfl ?_
    refine v_aload_n (pc' := 48) 29 1 rfl rfl rfl rfl ?_
    refine v_getR (t := 451) (pc' := 51) 30 rfl rfl pf_X9_57 ly_436 (lay_lt ly_436 (by decide)) rt_436_34 ?_
    refine v_iload_n (pc' := 52) 31 3 rfl rfl rfl rfl ?_
    refine v_aload_n (pc' := 53) 32 1 rfl rfl rfl rfl ?_
    refine v_iload_n (pc' := 54) 33 3 rfl rfl rfl rfl ?_
    refine v_iconst (v := 0) (pc' := 55) 34 rfl rfl (by decide) ?_
    refine v_cV (Y2 := Y_X9_delayOf) (As := [.int v2, .int 0]) (b := 436) (pc' := 58) (c1 := 0) (s1 := 0) 35 rfl rfl mf_X9_delayOf rfl rfl ml_X9_160 mi_X9_delayOf se_X9_delayOf (ci := 8) rfl ly_436 (lay_lt ly_436 (by decide)) rfl (Nat.le_of_ble_eq_true rfl) ⟨Nat.le_of_ble_eq_true rfl, Nat.le_of_ble_eq_true rfl⟩ rfl rfl (ok_X9_delayOf v2 (0 : Int32) (up2 I 451 (v2.toNatClampNeg) 0) L h) ?_ ?_
    · intro e9 u9 hx9
      exact hx9.elim
    intro v9 u9 hv9
    obtain ⟨r2596, rfl, rfl, h⟩ := hv9
    refine ⟨fun q => absurd q (Nat.lt_irrefl _), ?_⟩
    show V G Y_X9_longest 58 _ (.int r2596 :: _) _ _ _ _ _
    refine v_aload_n (pc' := 59) 36 1 rfl rfl rfl rfl ?_
    refine v_iload_n (pc' := 60) 37 3 rfl rfl rfl rfl ?_
    refine v_iconst (v := 1) (pc' := 61) 38 rfl rfl (by decide) ?_
    refine v_cV (Y2 := Y_X9_delayOf) (As := [.int v2, .int 1]) (b := 436) (pc' := 64) (c1 := 0) (s1 := 0) 39 rfl rfl mf_X9_delayOf rfl rfl ml_X9_160 mi_X9_delayOf se_X9_delayOf (ci := 8) rfl ly_436 (lay_lt ly_436 (by decide)) rfl (Nat.le_of_ble_eq_true rfl) ⟨Nat.le_of_ble_eq_true rfl, Nat.le_of_ble_eq_true rfl⟩ rfl rfl (ok_X9_delayOf v2 (1 : Int32) (up2 I 451 (v2.toNatClampNeg) 0) L h) ?_ ?_
    · intro e9 u9 hx9
      exact hx9.elim
    intro v9 u9 hv9
    obtain ⟨r2597, rfl, rfl, h⟩ := hv9
    refine ⟨fun q => absurd q (Nat.lt_irrefl _), ?_⟩
    show V G Y_X9_longest 64 _ (.int r2597 :: _) _ _ _ _ _
    refine v_cS (Y2 := Y_X9_greater) (As := [.int r2596, .int r2597]) (pc' := 67) (c1 := 0) (s1 := 0) 40 rfl rfl mf_X9_greater rfl rfl ml_X9_331 ms_X9_greater rfl (Nat.le_of_ble_eq_true rfl) ⟨Nat.le_of_ble_eq_true rfl, Nat.le_of_ble_eq_true rfl⟩ rfl rfl (ok_X9_greater r2596 r2597 (up2 I 451 (v2.toNatClampNeg) 0) L h) ?_ ?_
    · intro e9 u9 hx9
      exact hx9.elim
    intro v9 u9 hv9
    obtain ⟨r2598, rfl, rfl, h⟩ := hv9
    refine ⟨fun q => absurd q (Nat.lt_irrefl _), ?_⟩
    show V G Y_X9_longest 67 _ (.int r2598 :: _) _ _ _ _ _
    refine v_aload_n (pc' := 68) 41 1 rfl rfl rfl rfl ?_
    refine v_getR (t := 451) (pc' := 71) 42 rfl rfl pf_X9_57 ly_436 (lay_lt ly_436 (by decide)) rt_436_34 ?_
    refine v_aload_n (pc' := 72) 43 1 rfl rfl rfl rfl ?_
    refine v_getR (t := 442) (pc' := 75) 44 rfl rfl pf_X9_26 ly_436 (lay_lt ly_436 (by decide)) rt_436_13 ?_
    refine v_iload_n (pc' := 76) 45 3 rfl rfl rfl rfl ?_
    refine v_aload_n (pc' := 77) 46 1 rfl rfl rfl rfl ?_
    refine v_getI (pc' := 80) 47 rfl rfl pf_X9_77 ly_436 (lay_lt ly_436 (by decide)) ?_
    refine v_isub (pc' := 81) 48 rfl rfl ?_
    obtain ⟨hi2599, h⟩ := h
    refine v_iald (i := (v2 - ((up2 I 451 (v2.toNatClampNeg) 0) 436 10))) (j := (v2 - ((up2 I 451 (v2.toNatClampNeg) 0) 436 10)).toNatClampNeg) (pc' := 82) 49 rfl rfl ly_442 ln_442 (lay_lt ly_442 (by decide)) hi2599 rfl ?_
    obtain ⟨hi2600, h⟩ := h
    refine v_iald (i := ((up2 I 451 (v2.toNatClampNeg) 0) 442 ((v2 - ((up2 I 451 (v2.toNatClampNeg) 0) 436 10)).toNatClampNeg))) (j := ((up2 I 451 (v2.toNatClampNeg) 0) 442 ((v2 - ((up2 I 451 (v2.toNatClampNeg) 0) 436 10)).toNatClampNeg)).toNatClampNeg) (pc' := 83) 50 rfl rfl ly_451 ln_451 (lay_lt ly_451 (by decide)) hi2600 rfl ?_
    refine v_iload_n (pc' := 84) 51 0 rfl rfl rfl rfl ?_
    refine v_iconst (v := -1) (pc' := 85) 52 rfl rfl (by decide) ?_
    refine v_icmp_ne (tgt := 92) (pc' := 88) 53 rfl rfl (by decide) (fun hc => ?_) (fun hc => ?_)
    · replace h := h.1 hc
      refine v_aload_n (pc' := 93) 56 1 rfl rfl rfl rfl ?_
      refine v_getR (t := 451) (pc' := 96) 57 rfl rfl pf_X9_57 ly_436 (lay_lt ly_436 (by decide)) rt_436_34 ?_
      refine v_iload_n (pc' := 97) 58 0 rfl rfl rfl rfl ?_
      obtain ⟨hi2601, h⟩ := h
      refine v_iald (i := x2595) (j := x2595.toNatClampNeg) (pc' := 98) 59 rfl rfl ly_451 ln_451 (lay_lt ly_451 (by decide)) hi2601 rfl ?_
      refine V.sub [1, 2, 3] rfl ?_
      exact b_X9_longest_98 v1 v2 v2 r2598 ((up2 I 451 (v2.toNatClampNeg) 0) 451 (((up2 I 451 (v2.toNatClampNeg) 0) 442 ((v2 - ((up2 I 451 (v2.toNatClampNeg) 0) 436 10)).toNatClampNeg)).toNatClampNeg)) ((up2 I 451 (v2.toNatClampNeg) 0) 451 (x2595.toNatClampNeg)) (up2 I 451 (v2.toNatClampNeg) 0) L Q R12 hR12 h
    replace h := h.2 hc
    refine v_iconst (v := 0) (pc' := 89) 54 rfl rfl (by decide) ?_
    refine v_goto (tgt := 98) 55 rfl (by decide) ?_
    refine V.sub [1, 2, 3] rfl ?_
    exact b_X9_longest_98 v1 v2 v2 r2598 ((up2 I 451 (v2.toNatClampNeg) 0) 451 (((up2 I 451 (v2.toNatClampNeg) 0) 442 ((v2 - ((up2 I 451 (v2.toNatClampNeg) 0) 436 10)).toNatClampNeg)).toNatClampNeg)) (0 : Int32) (up2 I 451 (v2.toNatClampNeg) 0) L Q R12 hR12 h
  replace h := h.2 hc
  refine v_goto (tgt := 103) 20 rfl (by decide) ?_
  exact b_X9_longest_103 v1 v2 (up2 I 451 (v2.toNatClampNeg) 0) L Q R12 hR12 h
theorem l_X9_longest_12 {G : GT} {b d t : Nat} (v1 : Int32) (L : TL)  (Q : Int32 → TI → Prop)  : ∀ (n9 : Nat) (v2 : Int32) (I : TI), L_X9_longest_12 v1 L Q n9 v2 I → V G Y_X9_longest 12 [(0, .ref 436), (1, .int v1), (2, .int v2)] [] (I, L, RT b d t, 457) 0 0 (fun v9 u9 => ∃ (r9 : Int32) (I9 : TI), v9 = some (.int r9) ∧ u9 = (I9, L, RT b d t, 457) ∧ Q r9 I9) (fun _ _ => False)
  | 0, _, _, h => h.elim
  | n9 + 1, v2, I, h => d_X9_longest_12 v1 L Q _ (l_X9_longest_12 v1 L Q n9) v2 I h
set_option maxHeartbeats 4000000 in
set_option maxRecDepth 100000 in
theorem ok_X9_longest {G : GT} {b d t : Nat} (p1 : Int32) (I : TI) (L : TL)  {Q : Int32 → TI → Prop} (h : W_X9_longest p1 I L Q) : MW G Y_X9_longest [.ref 436, .int p1] (I, L, RT b d t, 457) (fun v9 u9 => ∃ (r9 : Int32) (I9 : TI), v9 = some (.int r9) ∧ u9 = (I9, L, RT b d t, 457) ∧ Q r9 I9) (fun _ _ => False) := by
  unfold W_X9_longest at h
  refine MW.intro rfl (by decide) is_X9_longest (Nat.le_of_ble_eq_true rfl) ?_
  show V G Y_X9_longest 0 [(0, .ref 436), (1, .int p1)] [] (I, L, RT b d t, 457) 0 0 _ _
  refine v_aload_n (pc' := 1) 0 0 rfl rfl rfl rfl ?_
  refine v_iload_n (pc' := 2) 1 1 rfl rfl rfl rfl ?_
  refine v_cV (Y2 := Y_X9_noNet) (As := [.int p1]) (b := 436) (pc' := 5) (c1 := 0) (s1 := 0) 2 rfl rfl mf_X9_noNet rfl rfl ml_X9_297 mi_X9_noNet se_X9_noNet (ci := 8) rfl ly_436 (lay_lt ly_436 (by decide)) rfl (Nat.le_of_ble_eq_true rfl) ⟨Nat.le_of_ble_eq_true rfl, Nat.le_of_ble_eq_true rfl⟩ rfl rfl (ok_X9_noNet p1 I L h) ?_ ?_
  · intro e9 u9 hx9
    exact hx9.elim
  intro v9 u9 hv9
  obtain ⟨r2602, I2603, rfl, rfl, h⟩ := hv9
  refine ⟨fun q => absurd q (Nat.lt_irrefl _), ?_⟩
  show V G Y_X9_longest 5 _ (.int r2602 :: _) _ _ _ _ _
  refine v_if_eq (tgt := 10) (pc' := 8) 3 rfl rfl (by decide) (fun hc => ?_) (fun hc => ?_)
  · replace h := h.1 hc
    refine v_iconst (v := 0) (pc' := 11) 6 rfl rfl (by decide) ?_
    refine v_istore_n (ls' := [(2, .int 0), (0, .ref 436), (1, .int p1)]) (pc' := 12) 7 rfl rfl rfl (by decide) rfl ?_
    refine V.sub [1, 2, 0] rfl ?_
    obtain ⟨n2604, h⟩ := h
    exact l_X9_longest_12 p1 L Q n2604 (0 : Int32) I2603 h
  replace h := h.2 hc
  refine v_iconst (v := 0) (pc' := 9) 4 rfl rfl (by decide) ?_
  exact v_iret 5 rfl rfl (by decide) (by decide) ⟨_, _, rfl, rfl, h⟩
set_option maxHeartbeats 4000000 in
set_option maxRecDepth 100000 in
theorem b_X9_noPulse_33 {G : GT} {b d t : Nat} (s1 : Int32) (I : TI) (L : TL)  (Q : Int32 → TI → TL → Prop)  (h : B_X9_noPulse_33 s1 I L Q) : V G Y_X9_noPulse 33 [] [.int s1, .ref 436] (I, L, RT b d t, 457) 0 0 (fun v9 u9 => ∃ (r9 : Int32) (I9 : TI) (L9 : TL), v9 = some (.int r9) ∧ u9 = (I9, L9, RT b d t, 457) ∧ Q r9 I9 L9) (fun _ _ => False) := by
  unfold B_X9_noPulse_33 at h
  refine v_iconst (v := 1) (pc' := 34) 19 rfl rfl (by decide) ?_
  refine v_cV (Y2 := Y_X9_fails) (As := [.int s1, .int 1]) (b := 436) (pc' := 37) (c1 := 0) (s1 := 0) 20 rfl rfl mf_X9_fails rfl rfl ml_X9_280 mi_X9_fails se_X9_fails (ci := 8) rfl ly_436 (lay_lt ly_436 (by decide)) rfl (Nat.le_of_ble_eq_true rfl) ⟨Nat.le_of_ble_eq_true rfl, Nat.le_of_ble_eq_true rfl⟩ rfl rfl (ok_X9_fails s1 (1 : Int32) I L h) ?_ ?_
  · intro e9 u9 hx9
    exact hx9.elim
  intro v9 u9 hv9
  obtain ⟨r2621, I2622, rfl, rfl, h⟩ := hv9
  refine ⟨fun q => absurd q (Nat.lt_irrefl _), ?_⟩
  show V G Y_X9_noPulse 37 _ (.int r2621 :: _) _ _ _ _ _
  obtain ⟨hz2623, h⟩ := h
  exact v_bret 21 rfl rfl hz2623 (by decide) (by decide) ⟨_, _, _, rfl, rfl, h⟩
set_option maxHeartbeats 4000000 in
set_option maxRecDepth 100000 in
theorem b_X9_noPulse_32 {G : GT} {b d t : Nat} (I : TI) (L : TL)  (Q : Int32 → TI → TL → Prop)  (h : B_X9_noPulse_32 I L Q) : V G Y_X9_noPulse 32 [] [.ref 436] (I, L, RT b d t, 457) 0 0 (fun v9 u9 => ∃ (r9 : Int32) (I9 : TI) (L9 : TL), v9 = some (.int r9) ∧ u9 = (I9, L9, RT b d t, 457) ∧ Q r9 I9 L9) (fun _ _ => False) := by
  unfold B_X9_noPulse_32 at h
  refine v_iconst (v := 0) (pc' := 33) 18 rfl rfl (by decide) ?_
  exact b_X9_noPulse_33 (0 : Int32) I L Q h
set_option maxHeartbeats 4000000 in
set_option maxRecDepth 100000 in
theorem ok_X9_noPulse {G : GT} {b d t : Nat} (p1 : Int32) (p2 : Int32) (I : TI) (L : TL)  {Q : Int32 → TI → TL → Prop} (h : W_X9_noPulse p1 p2 I L Q) : MW G Y_X9_noPulse [.ref 436, .int p1, .int p2] (I, L, RT b d t, 457) (fun v9 u9 => ∃ (r9 : Int32) (I9 : TI) (L9 : TL), v9 = some (.int r9) ∧ u9 = (I9, L9, RT b d t, 457) ∧ Q r9 I9 L9) (fun _ _ => False) := by
  unfold W_X9_noPulse at h
  refine MW.intro rfl (by decide) is_X9_noPulse (Nat.le_of_ble_eq_true rfl) ?_
  show V G Y_X9_noPulse 0 [(0, .ref 436), (1, .int p1), (2, .int p2)] [] (I, L, RT b d t, 457) 0 0 _ _
  refine v_aload_n (pc' := 1) 0 0 rfl rfl rfl rfl ?_
  refine v_iload_n (pc' := 2) 1 1 rfl rfl rfl rfl ?_
  refine v_cV (Y2 := Y_X9_noGate) (As := [.int p1]) (b := 436) (pc' := 5) (c1 := 0) (s1 := 0) 2 rfl rfl mf_X9_noGate rfl rfl ml_X9_307 mi_X9_noGate se_X9_noGate (ci := 8) rfl ly_436 (lay_lt ly_436 (by decide)) rfl (Nat.le_of_ble_eq_true rfl) ⟨Nat.le_of_ble_eq_true rfl, Nat.le_of_ble_eq_true rfl⟩ rfl rfl (ok_X9_noGate p1 I L h) ?_ ?_
  · intro e9 u9 hx9
    exact hx9.elim
  intro v9 u9 hv9
  obtain ⟨r2624, I2625, rfl, rfl, h⟩ := hv9
  refine ⟨fun q => absurd q (Nat.lt_irrefl _), ?_⟩
  show V G Y_X9_noPulse 5 _ (.int r2624 :: _) _ _ _ _ _
  refine v_if_eq (tgt := 10) (pc' := 8) 3 rfl rfl (by decide) (fun hc => ?_) (fun hc => ?_)
  · replace h := h.1 hc
    refine v_aload_n (pc' := 11) 6 0 rfl rfl rfl rfl ?_
    refine v_cV (Y2 := Y_X9_waves) (As := []) (b := 436) (pc' := 14) (c1 := 0) (s1 := 0) 7 rfl rfl mf_X9_waves rfl rfl ml_X9_302 mi_X9_waves se_X9_waves (ci := 8) rfl ly_436 (lay_lt ly_436 (by decide)) rfl (Nat.le_of_ble_eq_true rfl) ⟨Nat.le_of_ble_eq_true rfl, Nat.le_of_ble_eq_true rfl⟩ rfl rfl (ok_X9_waves I2625 L h) ?_ ?_
    · intro e9 u9 hx9
      exact hx9.elim
    intro v9 u9 hv9
    obtain ⟨L2626, rfl, rfl, h⟩ := hv9
    refine ⟨fun q => absurd q (Nat.lt_irrefl _), ?_⟩
    show V G Y_X9_noPulse 14 _ _ _ _ _ _ _
    refine v_aload_n (pc' := 15) 8 0 rfl rfl rfl rfl ?_
    refine v_iload_n (pc' := 16) 9 2 rfl rfl rfl rfl ?_
    refine v_if_lt (tgt := 32) (pc' := 19) 10 rfl rfl (by decide) (fun hc => ?_) (fun hc => ?_)
    · replace h := h.1 hc
      refine V.sub [] rfl ?_
      exact b_X9_noPulse_32 I2625 L2626 Q h
    replace h := h.2 hc
    refine v_aload_n (pc' := 20) 11 0 rfl rfl rfl rfl ?_
    refine v_iload_n (pc' := 21) 12 1 rfl rfl rfl rfl ?_
    refine v_iload_n (pc' := 22) 13 2 rfl rfl rfl rfl ?_
    refine v_cV (Y2 := Y_X9_findsPulse) (As := [.int p1, .int p2]) (b := 436) (pc' := 25) (c1 := 0) (s1 := 0) 14 rfl rfl mf_X9_findsPulse rfl rfl ml_X9_157 mi_X9_findsPulse se_X9_findsPulse (ci := 8) rfl ly_436 (lay_lt ly_436 (by decide)) rfl (Nat.le_of_ble_eq_true rfl) ⟨Nat.le_of_ble_eq_true rfl, Nat.le_of_ble_eq_true rfl⟩ rfl rfl (ok_X9_findsPulse p1 p2 I2625 L2626 h) ?_ ?_
    · intro e9 u9 hx9
      exact hx9.elim
    intro v9 u9 hv9
    obtain ⟨r2627, I2628, rfl, rfl, h⟩ := hv9
    refine ⟨fun q => absurd q (Nat.lt_irrefl _), ?_⟩
    show V G Y_X9_noPulse 25 _ (.int r2627 :: _) _ _ _ _ _
    refine v_if_eq (tgt := 32) (pc' := 28) 15 rfl rfl (by decide) (fun hc => ?_) (fun hc => ?_)
    · replace h := h.1 hc
      refine V.sub [] rfl ?_
      exact b_X9_noPulse_32 I2628 L2626 Q h
    replace h := h.2 hc
    refine v_iconst (v := 1) (pc' := 29) 16 rfl rfl (by decide) ?_
    refine v_goto (tgt := 33) 17 rfl (by decide) ?_
    refine V.sub [] rfl ?_
    exact b_X9_noPulse_33 (1 : Int32) I2628 L2626 Q h
  replace h := h.2 hc
  refine v_iconst (v := 1) (pc' := 9) 4 rfl rfl (by decide) ?_
  exact v_bret 5 rfl rfl (by decide) (by decide) (by decide) ⟨_, _, _, rfl, rfl, h⟩
set_option maxHeartbeats 4000000 in
set_option maxRecDepth 100000 in
theorem ok_X9_pulse {G : GT} {b d t : Nat} (p1 : Int32) (p2 : Int32) (p3 : Int32) (I : TI) (L : TL)  {Q : Int32 → TI → TL → Prop} (h : W_X9_pulse p1 p2 p3 I L Q) : MW G Y_X9_pulse [.ref 436, .int p1, .int p2, .int p3] (I, L, RT b d t, 457) (fun v9 u9 => ∃ (r9 : Int32) (I9 : TI) (L9 : TL), v9 = some (.int r9) ∧ u9 = (I9, L9, RT b d t, 457) ∧ Q r9 I9 L9) (fun _ _ => False) := by
  unfold W_X9_pulse at h
  refine MW.intro rfl (by decide) is_X9_pulse (Nat.le_of_ble_eq_true rfl) ?_
  show V G Y_X9_pulse 0 [(0, .ref 436), (1, .int p1), (2, .int p2), (3, .int p3)] [] (I, L, RT b d t, 457) 0 0 _ _
  refine v_aload_n (pc' := 1) 0 0 rfl rfl rfl rfl ?_
  refine v_iload_n (pc' := 2) 1 1 rfl rfl rfl rfl ?_
  refine v_iload_n (pc' := 3) 2 2 rfl rfl rfl rfl ?_
  refine v_cV (Y2 := Y_X9_noPulse) (As := [.int p1, .int p2]) (b := 436) (pc' := 6) (c1 := 0) (s1 := 0) 3 rfl rfl mf_X9_noPulse rfl rfl ml_X9_334 mi_X9_noPulse se_X9_noPulse (ci := 8) rfl ly_436 (lay_lt ly_436 (by decide)) rfl (Nat.le_of_ble_eq_true rfl) ⟨Nat.le_of_ble_eq_true rfl, Nat.le_of_ble_eq_true rfl⟩ rfl rfl (ok_X9_noPulse p1 p2 I L h) ?_ ?_
  · intro e9 u9 hx9
    exact hx9.elim
  intro v9 u9 hv9
  obtain ⟨r2639, I2640, L2641, rfl, rfl, h⟩ := hv9
  refine ⟨fun q => absurd q (Nat.lt_irrefl _), ?_⟩
  show V G Y_X9_pulse 6 _ (.int r2639 :: _) _ _ _ _ _
  refine v_if_ne (tgt := 26) (pc' := 9) 4 rfl rfl (by decide) (fun hc => ?_) (fun hc => ?_)
  · replace h := h.1 hc
    refine v_iconst (v := 0) (pc' := 27) 14 rfl rfl (by decide) ?_
    exact v_iret 15 rfl rfl (by decide) (by decide) ⟨_, _, _, rfl, rfl, h⟩
  replace h := h.2 hc
  refine v_aload_n (pc' := 10) 5 0 rfl rfl rfl rfl ?_
  refine v_iload_n (pc' := 11) 6 3 rfl rfl rfl rfl ?_
  refine v_i2l (pc' := 12) 7 rfl rfl ?_
  refine v_lconst (v := 0) (pc' := 13) 8 rfl rfl (by decide) ?_
  refine v_ldc2 (v := 4) (pc' := 16) 9 rfl rfl kl_X9_337 ?_
  refine v_cS (Y2 := Y_X9_in) (As := [.long (p3.toInt64), .long 0, .long 4]) (pc' := 19) (c1 := 0) (s1 := 0) 10 rfl rfl mf_X9_in rfl rfl ml_X9_232 ms_X9_in rfl (Nat.le_of_ble_eq_true rfl) ⟨Nat.le_of_ble_eq_true rfl, Nat.le_of_ble_eq_true rfl⟩ rfl rfl (ok_X9_in (p3.toInt64) (0 : Int64) (4 : Int64) I2640 L2641 h) ?_ ?_
  · intro e9 u9 hx9
    exact hx9.elim
  intro v9 u9 hv9
  obtain ⟨r2642, rfl, rfl, h⟩ := hv9
  refine ⟨fun q => absurd q (Nat.lt_irrefl _), ?_⟩
  show V G Y_X9_pulse 19 _ (.int r2642 :: _) _ _ _ _ _
  refine v_iconst (v := 1) (pc' := 20) 11 rfl rfl (by decide) ?_
  refine v_cV (Y2 := Y_X9_fails) (As := [.int r2642, .int 1]) (b := 436) (pc' := 23) (c1 := 0) (s1 := 0) 12 rfl rfl mf_X9_fails rfl rfl ml_X9_280 mi_X9_fails se_X9_fails (ci := 8) rfl ly_436 (lay_lt ly_436 (by decide)) rfl (Nat.le_of_ble_eq_true rfl) ⟨Nat.le_of_ble_eq_true rfl, Nat.le_of_ble_eq_true rfl⟩ rfl rfl (ok_X9_fails r2642 (1 : Int32) I2640 L2641 h) ?_ ?_
  · intro e9 u9 hx9
    exact hx9.elim
  intro v9 u9 hv9
  obtain ⟨r2643, I2644, rfl, rfl, h⟩ := hv9
  refine ⟨fun q => absurd q (Nat.lt_irrefl _), ?_⟩
  show V G Y_X9_pulse 23 _ (.int r2643 :: _) _ _ _ _ _
  refine v_if_eq (tgt := 28) (pc' := 26) 13 rfl rfl (by decide) (fun hc => ?_) (fun hc => ?_)
  · replace h := h.1 hc
    refine v_aload_n (pc' := 29) 16 0 rfl rfl rfl rfl ?_
    refine v_getR (t := 444) (pc' := 32) 17 rfl rfl pf_X9_32 ly_436 (lay_lt ly_436 (by decide)) rt_436_15 ?_
    refine v_iload_n (pc' := 33) 18 1 rfl rfl rfl rfl ?_
    obtain ⟨hi2645, h⟩ := h
    refine v_lald (i := p1) (j := p1.toNatClampNeg) (pc' := 34) 19 rfl rfl ly_444 ln_444 (lay_lt ly_444 (by decide)) hi2645 rfl ?_
    refine v_aload_n (pc' := 35) 20 0 rfl rfl rfl rfl ?_
    refine v_getI (pc' := 38) 21 rfl rfl pf_X9_151 ly_436 (lay_lt ly_436 (by decide)) ?_
    refine v_cS (Y2 := Y_X9_bit) (As := [.long (L2641 444 (p1.toNatClampNeg)), .int (I2644 436 18)]) (pc' := 41) (c1 := 0) (s1 := 0) 22 rfl rfl mf_X9_bit rfl rfl ml_X9_113 ms_X9_bit rfl (Nat.le_of_ble_eq_true rfl) ⟨Nat.le_of_ble_eq_true rfl, Nat.le_of_ble_eq_true rfl⟩ rfl rfl (ok_X9_bit (L2641 444 (p1.toNatClampNeg)) (I2644 436 18) I2644 L2641 h) ?_ ?_
    · intro e9 u9 hx9
      exact hx9.elim
    intro v9 u9 hv9
    obtain ⟨r2646, rfl, rfl, h⟩ := hv9
    refine ⟨fun q => absurd q (Nat.lt_irrefl _), ?_⟩
    show V G Y_X9_pulse 41 _ (.int r2646 :: _) _ _ _ _ _
    refine v_istore (ls' := [(4, .int r2646), (0, .ref 436), (1, .int p1), (2, .int p2), (3, .int p3)]) (pc' := 43) 23 rfl rfl (by decide) rfl ?_
    refine v_iload_n (pc' := 44) 24 4 rfl rfl rfl rfl ?_
    refine v_ts (clo := 0) (chi := 3) (dt := 103) 25 4 [76, 81, 86, 89] rfl (by decide) (by decide) (by decide) (by decide) (by decide) ?_ (fun hc => ?_)
    · intro j9 t9 ht9 hj9 hx9
      match j9, ht9, hj9, hx9 with
      | 0, ht9, hj9, hx9 =>
        cases ht9
        replace hx9 := hx9.trans (show Int32.ofInt _ = (0 : Int32) by decide)
        replace h := h.1 hx9
        refine v_aload_n (pc' := 77) 26 1 rfl rfl rfl rfl ?_
        refine v_getI (pc' := 80) 27 rfl rfl pf_X9_151 ly_436 (lay_lt ly_436 (by decide)) ?_
        exact v_iret 28 rfl rfl (by decide) (by decide) ⟨_, _, _, rfl, rfl, h⟩
      | 1, ht9, hj9, hx9 =>
        cases ht9
        replace hx9 := hx9.trans (show Int32.ofInt _ = (1 : Int32) by decide)
        replace h := h.2.1 hx9
        refine v_aload_n (pc' := 82) 29 1 rfl rfl rfl rfl ?_
        refine v_getI (pc' := 85) 30 rfl rfl pf_X9_154 ly_436 (lay_lt ly_436 (by decide)) ?_
        exact v_iret 31 rfl rfl (by decide) (by decide) ⟨_, _, _, rfl, rfl, h⟩
      | 2, ht9, hj9, hx9 =>
        cases ht9
        replace hx9 := hx9.trans (show Int32.ofInt _ = (2 : Int32) by decide)
        replace h := h.2.2.1 hx9
        refine v_iload (pc' := 88) 32 0 rfl rfl rfl ?_
        exact v_iret 33 rfl rfl (by decide) (by decide) ⟨_, _, _, rfl, rfl, h⟩
      | 3, ht9, hj9, hx9 =>
        cases ht9
        replace hx9 := hx9.trans (show Int32.ofInt _ = (3 : Int32) by decide)
        replace h := h.2.2.2.1 hx9
        refine v_aload_n (pc' := 90) 34 1 rfl rfl rfl rfl ?_
        refine v_iload_n (pc' := 91) 35 2 rfl rfl rfl rfl ?_
        refine v_aload_n (pc' := 92) 36 1 rfl rfl rfl rfl ?_
        refine v_getI (pc' := 95) 37 rfl rfl pf_X9_151 ly_436 (lay_lt ly_436 (by decide)) ?_
        refine v_aload_n (pc' := 96) 38 1 rfl rfl rfl rfl ?_
        refine v_getI (pc' := 99) 39 rfl rfl pf_X9_154 ly_436 (lay_lt ly_436 (by decide)) ?_
        refine v_cV (Y2 := Y_X9_costOf) (As := [.int p1, .int (I2644 436 18), .int (I2644 436 19)]) (b := 436) (pc' := 102) (c1 := 0) (s1 := 0) 40 rfl rfl mf_X9_costOf rfl rfl ml_X9_339 mi_X9_costOf se_X9_costOf (ci := 8) rfl ly_436 (lay_lt ly_436 (by decide)) rfl (Nat.le_of_ble_eq_true rfl) ⟨Nat.le_of_ble_eq_true rfl, Nat.le_of_ble_eq_true rfl⟩ rfl rfl (ok_X9_costOf p1 (I2644 436 18) (I2644 436 19) I2644 L2641 h) ?_ ?_
        · intro e9 u9 hx9
          exact hx9.elim
        intro v9 u9 hv9
        obtain ⟨r2647, rfl, rfl, h⟩ := hv9
        refine ⟨fun q => absurd q (Nat.lt_irrefl _), ?_⟩
        show V G Y_X9_pulse 102 _ (.int r2647 :: _) _ _ _ _ _
        exact v_iret 41 rfl rfl (by decide) (by decide) ⟨_, _, _, rfl, rfl, h⟩
      | q9 + 4, ht9, hj9, hx9 => exact absurd hj9 (by omega)
    replace h := h.2.2.2.2 hc
    refine v_aload_n (pc' := 104) 42 1 rfl rfl rfl rfl ?_
    refine v_getI (pc' := 107) 43 rfl rfl pf_X9_154 ly_436 (lay_lt ly_436 (by decide)) ?_
    refine v_aload_n (pc' := 108) 44 1 rfl rfl rfl rfl ?_
    refine v_getI (pc' := 111) 45 rfl rfl pf_X9_151 ly_436 (lay_lt ly_436 (by decide)) ?_
    refine v_isub (pc' := 112) 46 rfl rfl ?_
    refine v_iconst (v := 1) (pc' := 113) 47 rfl rfl (by decide) ?_
    refine v_iadd (pc' := 114) 48 rfl rfl ?_
    refine v_aload_n (pc' := 115) 49 1 rfl rfl rfl rfl ?_
    refine v_iload_n (pc' := 116) 50 2 rfl rfl rfl rfl ?_
    refine v_iload (pc' := 118) 51 0 rfl rfl rfl ?_
    refine v_cV (Y2 := Y_X9_delayFor) (As := [.int p1, .int r2646]) (b := 436) (pc' := 121) (c1 := 0) (s1 := 0) 52 rfl rfl mf_X9_delayFor rfl rfl ml_X9_343 mi_X9_delayFor se_X9_delayFor (ci := 8) rfl ly_436 (lay_lt ly_436 (by decide)) rfl (Nat.le_of_ble_eq_true rfl) ⟨Nat.le_of_ble_eq_true rfl, Nat.le_of_ble_eq_true rfl⟩ rfl rfl (ok_X9_delayFor p1 r2646 I2644 L2641 h) ?_ ?_
    · intro e9 u9 hx9
      exact hx9.elim
    intro v9 u9 hv9
    obtain ⟨r2648, rfl, rfl, h⟩ := hv9
    refine ⟨fun q => absurd q (Nat.lt_irrefl _), ?_⟩
    show V G Y_X9_pulse 121 _ (.int r2648 :: _) _ _ _ _ _
    refine v_icmp_le (tgt := 128) (pc' := 124) 53 rfl rfl (by decide) (fun hc => ?_) (fun hc => ?_)
    · replace h := h.1 hc
      refine v_iconst (v := 0) (pc' := 129) 56 rfl rfl (by decide) ?_
      exact v_iret 57 rfl rfl (by decide) (by decide) ⟨_, _, _, rfl, rfl, h⟩
    replace h := h.2 hc
    refine v_iconst (v := 1) (pc' := 125) 54 rfl rfl (by decide) ?_
    refine v_goto (tgt := 129) 55 rfl (by decide) ?_
    exact v_iret 57 rfl rfl (by decide) (by decide) ⟨_, _, _, rfl, rfl, h⟩
  replace h := h.2 hc
  refine v_iconst (v := 0) (pc' := 27) 14 rfl rfl (by decide) ?_
  exact v_iret 15 rfl rfl (by decide) (by decide) ⟨_, _, _, rfl, rfl, h⟩
set_option maxHeartbeats 4000000 in
set_option maxRecDepth 100000 in
theorem ok_X9_of {G : GT} {b d t : Nat} (p1 : Int32) (p2 : Int32) (I : TI) (L : TL)  {Q : Int32 → Prop} (h : W_X9_of p1 p2 I L Q) : MW G Y_X9_of [.ref 436, .int p1, .int p2] (I, L, RT b d t, 457) (fun v9 u9 => ∃ (r9 : Int32), v9 = some (.int r9) ∧ u9 = (I, L, RT b d t, 457) ∧ Q r9) (fun _ _ => False) := by
  unfold W_X9_of at h
  refine MW.intro rfl (by decide) is_X9_of (Nat.le_of_ble_eq_true rfl) ?_
  show V G Y_X9_of 0 [(0, .ref 436), (1, .int p1), (2, .int p2)] [] (I, L, RT b d t, 457) 0 0 _ _
  refine v_aload_n (pc' := 1) 0 0 rfl rfl rfl rfl ?_
  refine v_getR (t := 437) (pc' := 4) 1 rfl rfl pf_X9_7 ly_436 (lay_lt ly_436 (by decide)) rt_436_1 ?_
  refine v_bipush (v := 81) (pc' := 6) 2 rfl rfl (by decide) ?_
  refine v_bipush (v := 8) (pc' := 8) 3 rfl rfl (by decide) ?_
  refine v_iload_n (pc' := 9) 4 1 rfl rfl rfl rfl ?_
  refine v_imul (pc' := 10) 5 rfl rfl ?_
  refine v_iadd (pc' := 11) 6 rfl rfl ?_
  refine v_iload_n (pc' := 12) 7 2 rfl rfl rfl rfl ?_
  refine v_iadd (pc' := 13) 8 rfl rfl ?_
  obtain ⟨hi2650, h⟩ := h
  refine v_lald (i := (((81 : Int32) + ((8 : Int32) * p1)) + p2)) (j := (((81 : Int32) + ((8 : Int32) * p1)) + p2).toNatClampNeg) (pc' := 14) 9 rfl rfl ly_437 ln_437 (lay_lt ly_437 (by decide)) hi2650 rfl ?_
  refine v_l2i (pc' := 15) 10 rfl rfl ?_
  exact v_iret 11 rfl rfl (by decide) (by decide) ⟨_, rfl, rfl, h⟩
set_option maxHeartbeats 4000000 in
set_option maxRecDepth 100000 in
theorem ok_X9_sets {G : GT} {b d t : Nat} (p1 : Int32) (p2 : Int32) (p3 : Int32) (I : TI) (L : TL)  {Q : TL → Prop} (h : W_X9_sets p1 p2 p3 I L Q) : MW G Y_X9_sets [.ref 436, .int p1, .int p2, .int p3] (I, L, RT b d t, 457) (fun v9 u9 => ∃ (L9 : TL), v9 = none ∧ u9 = (I, L9, RT b d t, 457) ∧ Q L9) (fun _ _ => False) := by
  unfold W_X9_sets at h
  refine MW.intro rfl (by decide) is_X9_sets (Nat.le_of_ble_eq_true rfl) ?_
  show V G Y_X9_sets 0 [(0, .ref 436), (1, .int p1), (2, .int p2), (3, .int p3)] [] (I, L, RT b d t, 457) 0 0 _ _
  refine v_aload_n (pc' := 1) 0 0 rfl rfl rfl rfl ?_
  refine v_getR (t := 437) (pc' := 4) 1 rfl rfl pf_X9_7 ly_436 (lay_lt ly_436 (by decide)) rt_436_1 ?_
  refine v_bipush (v := 81) (pc' := 6) 2 rfl rfl (by decide) ?_
  refine v_bipush (v := 8) (pc' := 8) 3 rfl rfl (by decide) ?_
  refine v_iload_n (pc' := 9) 4 1 rfl rfl rfl rfl ?_
  refine v_imul (pc' := 10) 5 rfl rfl ?_
  refine v_iadd (pc' := 11) 6 rfl rfl ?_
  refine v_iload_n (pc' := 12) 7 2 rfl rfl rfl rfl ?_
  refine v_iadd (pc' := 13) 8 rfl rfl ?_
  refine v_iload_n (pc' := 14) 9 3 rfl rfl rfl rfl ?_
  refine v_i2l (pc' := 15) 10 rfl rfl ?_
  obtain ⟨hi2652, h⟩ := h
  refine v_last (i := (((81 : Int32) + ((8 : Int32) * p1)) + p2)) (j := (((81 : Int32) + ((8 : Int32) * p1)) + p2).toNatClampNeg) (pc' := 16) 11 rfl rfl ly_437 ln_437 (lay_lt ly_437 (by decide)) hi2652 rfl ?_
  refine nm_N (e := (up2 L 437 ((((81 : Int32) + ((8 : Int32) * p1)) + p2).toNatClampNeg) (p3.toInt64))) (fun L2653 hL2653 => ?_)
  replace h := h L2653 hL2653
  exact v_vret 12 rfl rfl (by decide) (by decide) ⟨_, rfl, rfl, h⟩
set_option maxHeartbeats 4000000 in
set_option maxRecDepth 100000 in
theorem ok_X9_noDispute {G : GT} {b d t : Nat} (p1 : Int32) (I : TI) (L : TL)  {Q : Int32 → TI → Prop} (h : W_X9_noDispute p1 I L Q) : MW G Y_X9_noDispute [.ref 436, .int p1] (I, L, RT b d t, 457) (fun v9 u9 => ∃ (r9 : Int32) (I9 : TI), v9 = some (.int r9) ∧ u9 = (I9, L, RT b d t, 457) ∧ Q r9 I9) (fun _ _ => False) := by
  unfold W_X9_noDispute at h
  refine MW.intro rfl (by decide) is_X9_noDispute (Nat.le_of_ble_eq_true rfl) ?_
  show V G Y_X9_noDispute 0 [(0, .ref 436), (1, .int p1)] [] (I, L, RT b d t, 457) 0 0 _ _
  refine v_aload_n (pc' := 1) 0 0 rfl rfl rfl rfl ?_
  refine v_iconst (v := 0) (pc' := 2) 1 rfl rfl (by decide) ?_
  refine v_putI (pc' := 5) 2 rfl rfl pf_X9_80 (fun q => absurd q (by decide)) ly_436 (lay_lt ly_436 (by decide)) ?_
  refine v_aload_n (pc' := 6) 3 0 rfl rfl rfl rfl ?_
  refine v_iload_n (pc' := 7) 4 1 rfl rfl rfl rfl ?_
  refine v_i2l (pc' := 8) 5 rfl rfl ?_
  refine v_lconst (v := 0) (pc' := 9) 6 rfl rfl (by decide) ?_
  refine v_aload_n (pc' := 10) 7 0 rfl rfl rfl rfl ?_
  refine v_getR (t := 437) (pc' := 13) 8 rfl rfl pf_X9_7 ly_436 (lay_lt ly_436 (by decide)) rt_436_1 ?_
  refine v_iconst (v := 4) (pc' := 14) 9 rfl rfl (by decide) ?_
  refine v_lald (i := 4) (j := 4) (pc' := 15) 10 rfl rfl ly_437 ln_437 (lay_lt ly_437 (by decide)) (vp_lit (by decide)) (by decide) ?_
  refine v_lconst (v := 1) (pc' := 16) 11 rfl rfl (by decide) ?_
  refine v_lsub (pc' := 17) 12 rfl rfl ?_
  refine v_cS (Y2 := Y_X9_in) (As := [.long (p1.toInt64), .long 0, .long ((L 437 4) - 1)]) (pc' := 20) (c1 := 0) (s1 := 0) 13 rfl rfl mf_X9_in rfl rfl ml_X9_232 ms_X9_in rfl (Nat.le_of_ble_eq_true rfl) ⟨Nat.le_of_ble_eq_true rfl, Nat.le_of_ble_eq_true rfl⟩ rfl rfl (ok_X9_in (p1.toInt64) (0 : Int64) ((L 437 4) - 1) (up2 I 436 0 0) L h) ?_ ?_
  · intro e9 u9 hx9
    exact hx9.elim
  intro v9 u9 hv9
  obtain ⟨r2658, rfl, rfl, h⟩ := hv9
  refine ⟨fun q => absurd q (Nat.lt_irrefl _), ?_⟩
  show V G Y_X9_noDispute 20 _ (.int r2658 :: _) _ _ _ _ _
  refine v_iconst (v := 1) (pc' := 21) 14 rfl rfl (by decide) ?_
  refine v_cV (Y2 := Y_X9_fails) (As := [.int r2658, .int 1]) (b := 436) (pc' := 24) (c1 := 0) (s1 := 0) 15 rfl rfl mf_X9_fails rfl rfl ml_X9_280 mi_X9_fails se_X9_fails (ci := 8) rfl ly_436 (lay_lt ly_436 (by decide)) rfl (Nat.le_of_ble_eq_true rfl) ⟨Nat.le_of_ble_eq_true rfl, Nat.le_of_ble_eq_true rfl⟩ rfl rfl (ok_X9_fails r2658 (1 : Int32) (up2 I 436 0 0) L h) ?_ ?_
  · intro e9 u9 hx9
    exact hx9.elim
  intro v9 u9 hv9
  obtain ⟨r2659, I2660, rfl, rfl, h⟩ := hv9
  refine ⟨fun q => absurd q (Nat.lt_irrefl _), ?_⟩
  show V G Y_X9_noDispute 24 _ (.int r2659 :: _) _ _ _ _ _
  obtain ⟨hz2661, h⟩ := h
  exact v_bret 16 rfl rfl hz2661 (by decide) (by decide) ⟨_, _, rfl, rfl, h⟩
set_option maxHeartbeats 4000000 in
set_option maxRecDepth 100000 in
theorem ok_X9_loserOf {G : GT} {b d t : Nat} (p1 : Int32) (I : TI) (L : TL)  {Q : Int32 → Prop} (h : W_X9_loserOf p1 I L Q) : MW G Y_X9_loserOf [.ref 436, .int p1] (I, L, RT b d t, 457) (fun v9 u9 => ∃ (r9 : Int32), v9 = some (.int r9) ∧ u9 = (I, L, RT b d t, 457) ∧ Q r9) (fun _ _ => False) := by
  unfold W_X9_loserOf at h
  refine MW.intro rfl (by decide) is_X9_loserOf (Nat.le_of_ble_eq_true rfl) ?_
  show V G Y_X9_loserOf 0 [(0, .ref 436), (1, .int p1)] [] (I, L, RT b d t, 457) 0 0 _ _
  refine v_aload_n (pc' := 1) 0 0 rfl rfl rfl rfl ?_
  refine v_iload_n (pc' := 2) 1 1 rfl rfl rfl rfl ?_
  refine v_iconst (v := 5) (pc' := 3) 2 rfl rfl (by decide) ?_
  refine v_cV (Y2 := Y_X9_of) (As := [.int p1, .int 5]) (b := 436) (pc' := 6) (c1 := 0) (s1 := 0) 3 rfl rfl mf_X9_of rfl rfl ml_X9_346 mi_X9_of se_X9_of (ci := 8) rfl ly_436 (lay_lt ly_436 (by decide)) rfl (Nat.le_of_ble_eq_true rfl) ⟨Nat.le_of_ble_eq_true rfl, Nat.le_of_ble_eq_true rfl⟩ rfl rfl (ok_X9_of p1 (5 : Int32) I L h) ?_ ?_
  · intro e9 u9 hx9
    exact hx9.elim
  intro v9 u9 hv9
  obtain ⟨r2666, rfl, rfl, h⟩ := hv9
  refine ⟨fun q => absurd q (Nat.lt_irrefl _), ?_⟩
  show V G Y_X9_loserOf 6 _ (.int r2666 :: _) _ _ _ _ _
  refine v_aload_n (pc' := 7) 4 0 rfl rfl rfl rfl ?_
  refine v_iload_n (pc' := 8) 5 1 rfl rfl rfl rfl ?_
  refine v_bipush (v := 7) (pc' := 10) 6 rfl rfl (by decide) ?_
  refine v_cV (Y2 := Y_X9_of) (As := [.int p1, .int 7]) (b := 436) (pc' := 13) (c1 := 0) (s1 := 0) 7 rfl rfl mf_X9_of rfl rfl ml_X9_346 mi_X9_of se_X9_of (ci := 8) rfl ly_436 (lay_lt ly_436 (by decide)) rfl (Nat.le_of_ble_eq_true rfl) ⟨Nat.le_of_ble_eq_true rfl, Nat.le_of_ble_eq_true rfl⟩ rfl rfl (ok_X9_of p1 (7 : Int32) I L h) ?_ ?_
  · intro e9 u9 hx9
    exact hx9.elim
  intro v9 u9 hv9
  obtain ⟨r2667, rfl, rfl, h⟩ := hv9
  refine ⟨fun q => absurd q (Nat.lt_irrefl _), ?_⟩
  show V G Y_X9_loserOf 13 _ (.int r2667 :: _) _ _ _ _ _
  refine v_icmp_ne (tgt := 27) (pc' := 16) 8 rfl rfl (by decide) (fun hc => ?_) (fun hc => ?_)
  · replace h := h.1 hc
    refine v_aload_n (pc' := 28) 16 0 rfl rfl rfl rfl ?_
    refine v_iload_n (pc' := 29) 17 1 rfl rfl rfl rfl ?_
    refine v_iconst (v := 4) (pc' := 30) 18 rfl rfl (by decide) ?_
    refine v_cV (Y2 := Y_X9_of) (As := [.int p1, .int 4]) (b := 436) (pc' := 33) (c1 := 0) (s1 := 0) 19 rfl rfl mf_X9_of rfl rfl ml_X9_346 mi_X9_of se_X9_of (ci := 8) rfl ly_436 (lay_lt ly_436 (by decide)) rfl (Nat.le_of_ble_eq_true rfl) ⟨Nat.le_of_ble_eq_true rfl, Nat.le_of_ble_eq_true rfl⟩ rfl rfl (ok_X9_of p1 (4 : Int32) I L h) ?_ ?_
    · intro e9 u9 hx9
      exact hx9.elim
    intro v9 u9 hv9
    obtain ⟨r2668, rfl, rfl, h⟩ := hv9
    refine ⟨fun q => absurd q (Nat.lt_irrefl _), ?_⟩
    show V G Y_X9_loserOf 33 _ (.int r2668 :: _) _ _ _ _ _
    exact v_iret 20 rfl rfl (by decide) (by decide) ⟨_, rfl, rfl, h⟩
  replace h := h.2 hc
  refine v_iconst (v := 1) (pc' := 17) 9 rfl rfl (by decide) ?_
  refine v_aload_n (pc' := 18) 10 0 rfl rfl rfl rfl ?_
  refine v_iload_n (pc' := 19) 11 1 rfl rfl rfl rfl ?_
  refine v_iconst (v := 4) (pc' := 20) 12 rfl rfl (by decide) ?_
  refine v_cV (Y2 := Y_X9_of) (As := [.int p1, .int 4]) (b := 436) (pc' := 23) (c1 := 0) (s1 := 0) 13 rfl rfl mf_X9_of rfl rfl ml_X9_346 mi_X9_of se_X9_of (ci := 8) rfl ly_436 (lay_lt ly_436 (by decide)) rfl (Nat.le_of_ble_eq_true rfl) ⟨Nat.le_of_ble_eq_true rfl, Nat.le_of_ble_eq_true rfl⟩ rfl rfl (ok_X9_of p1 (4 : Int32) I L h) ?_ ?_
  · intro e9 u9 hx9
    exact hx9.elim
  intro v9 u9 hv9
  obtain ⟨r2669, rfl, rfl, h⟩ := hv9
  refine ⟨fun q => absurd q (Nat.lt_irrefl _), ?_⟩
  show V G Y_X9_loserOf 23 _ (.int r2669 :: _) _ _ _ _ _
  refine v_isub (pc' := 24) 14 rfl rfl ?_
  refine v_goto (tgt := 33) 15 rfl (by decide) ?_
  exact v_iret 20 rfl rfl (by decide) (by decide) ⟨_, rfl, rfl, h⟩
set_option maxHeartbeats 4000000 in
set_option maxRecDepth 100000 in
theorem ok_X9_stakeOf {G : GT} {b d t : Nat} (p1 : Int32) (I : TI) (L : TL)  {Q : Int32 → Prop} (h : W_X9_stakeOf p1 I L Q) : MW G Y_X9_stakeOf [.ref 436, .int p1] (I, L, RT b d t, 457) (fun v9 u9 => ∃ (r9 : Int32), v9 = some (.int r9) ∧ u9 = (I, L, RT b d t, 457) ∧ Q r9) (fun _ _ => False) := by
  unfold W_X9_stakeOf at h
  refine MW.intro rfl (by decide) is_X9_stakeOf (Nat.le_of_ble_eq_true rfl) ?_
  show V G Y_X9_stakeOf 0 [(0, .ref 436), (1, .int p1)] [] (I, L, RT b d t, 457) 0 0 _ _
  refine v_aload_n (pc' := 1) 0 0 rfl rfl rfl rfl ?_
  refine v_aload_n (pc' := 2) 1 0 rfl rfl rfl rfl ?_
  refine v_iload_n (pc' := 3) 2 1 rfl rfl rfl rfl ?_
  refine v_iconst (v := 0) (pc' := 4) 3 rfl rfl (by decide) ?_
  refine v_cV (Y2 := Y_X9_of) (As := [.int p1, .int 0]) (b := 436) (pc' := 7) (c1 := 0) (s1 := 0) 4 rfl rfl mf_X9_of rfl rfl ml_X9_346 mi_X9_of se_X9_of (ci := 8) rfl ly_436 (lay_lt ly_436 (by decide)) rfl (Nat.le_of_ble_eq_true rfl) ⟨Nat.le_of_ble_eq_true rfl, Nat.le_of_ble_eq_true rfl⟩ rfl rfl (ok_X9_of p1 (0 : Int32) I L h) ?_ ?_
  · intro e9 u9 hx9
    exact hx9.elim
  intro v9 u9 hv9
  obtain ⟨r2674, rfl, rfl, h⟩ := hv9
  refine ⟨fun q => absurd q (Nat.lt_irrefl _), ?_⟩
  show V G Y_X9_stakeOf 7 _ (.int r2674 :: _) _ _ _ _ _
  refine v_aload_n (pc' := 8) 5 0 rfl rfl rfl rfl ?_
  refine v_iload_n (pc' := 9) 6 1 rfl rfl rfl rfl ?_
  refine v_iconst (v := 1) (pc' := 10) 7 rfl rfl (by decide) ?_
  refine v_cV (Y2 := Y_X9_of) (As := [.int p1, .int 1]) (b := 436) (pc' := 13) (c1 := 0) (s1 := 0) 8 rfl rfl mf_X9_of rfl rfl ml_X9_346 mi_X9_of se_X9_of (ci := 8) rfl ly_436 (lay_lt ly_436 (by decide)) rfl (Nat.le_of_ble_eq_true rfl) ⟨Nat.le_of_ble_eq_true rfl, Nat.le_of_ble_eq_true rfl⟩ rfl rfl (ok_X9_of p1 (1 : Int32) I L h) ?_ ?_
  · intro e9 u9 hx9
    exact hx9.elim
  intro v9 u9 hv9
  obtain ⟨r2675, rfl, rfl, h⟩ := hv9
  refine ⟨fun q => absurd q (Nat.lt_irrefl _), ?_⟩
  show V G Y_X9_stakeOf 13 _ (.int r2675 :: _) _ _ _ _ _
  refine v_aload_n (pc' := 14) 9 0 rfl rfl rfl rfl ?_
  refine v_iload_n (pc' := 15) 10 1 rfl rfl rfl rfl ?_
  refine v_iconst (v := 2) (pc' := 16) 11 rfl rfl (by decide) ?_
  refine v_cV (Y2 := Y_X9_of) (As := [.int p1, .int 2]) (b := 436) (pc' := 19) (c1 := 0) (s1 := 0) 12 rfl rfl mf_X9_of rfl rfl ml_X9_346 mi_X9_of se_X9_of (ci := 8) rfl ly_436 (lay_lt ly_436 (by decide)) rfl (Nat.le_of_ble_eq_true rfl) ⟨Nat.le_of_ble_eq_true rfl, Nat.le_of_ble_eq_true rfl⟩ rfl rfl (ok_X9_of p1 (2 : Int32) I L h) ?_ ?_
  · intro e9 u9 hx9
    exact hx9.elim
  intro v9 u9 hv9
  obtain ⟨r2676, rfl, rfl, h⟩ := hv9
  refine ⟨fun q => absurd q (Nat.lt_irrefl _), ?_⟩
  show V G Y_X9_stakeOf 19 _ (.int r2676 :: _) _ _ _ _ _
  refine v_cV (Y2 := Y_X9_costOf) (As := [.int r2674, .int r2675, .int r2676]) (b := 436) (pc' := 22) (c1 := 0) (s1 := 0) 13 rfl rfl mf_X9_costOf rfl rfl ml_X9_339 mi_X9_costOf se_X9_costOf (ci := 8) rfl ly_436 (lay_lt ly_436 (by decide)) rfl (Nat.le_of_ble_eq_true rfl) ⟨Nat.le_of_ble_eq_true rfl, Nat.le_of_ble_eq_true rfl⟩ rfl rfl (ok_X9_costOf r2674 r2675 r2676 I L h) ?_ ?_
  · intro e9 u9 hx9
    exact hx9.elim
  intro v9 u9 hv9
  obtain ⟨r2677, rfl, rfl, h⟩ := hv9
  refine ⟨fun q => absurd q (Nat.lt_irrefl _), ?_⟩
  show V G Y_X9_stakeOf 22 _ (.int r2677 :: _) _ _ _ _ _
  exact v_iret 14 rfl rfl (by decide) (by decide) ⟨_, rfl, rfl, h⟩
set_option maxHeartbeats 4000000 in
set_option maxRecDepth 100000 in
theorem ok_X9_windowOf {G : GT} {b d t : Nat} (p1 : Int32) (I : TI) (L : TL)  {Q : Int64 → Prop} (h : W_X9_windowOf p1 I L Q) : MW G Y_X9_windowOf [.ref 436, .int p1] (I, L, RT b d t, 457) (fun v9 u9 => ∃ (r9 : Int64), v9 = some (.long r9) ∧ u9 = (I, L, RT b d t, 457) ∧ Q r9) (fun _ _ => False) := by
  unfold W_X9_windowOf at h
  refine MW.intro rfl (by decide) is_X9_windowOf (Nat.le_of_ble_eq_true rfl) ?_
  show V G Y_X9_windowOf 0 [(0, .ref 436), (1, .int p1)] [] (I, L, RT b d t, 457) 0 0 _ _
  refine v_aload_n (pc' := 1) 0 0 rfl rfl rfl rfl ?_
  refine v_iload_n (pc' := 2) 1 1 rfl rfl rfl rfl ?_
  refine v_iconst (v := 1) (pc' := 3) 2 rfl rfl (by decide) ?_
  refine v_cV (Y2 := Y_X9_of) (As := [.int p1, .int 1]) (b := 436) (pc' := 6) (c1 := 0) (s1 := 0) 3 rfl rfl mf_X9_of rfl rfl ml_X9_346 mi_X9_of se_X9_of (ci := 8) rfl ly_436 (lay_lt ly_436 (by decide)) rfl (Nat.le_of_ble_eq_true rfl) ⟨Nat.le_of_ble_eq_true rfl, Nat.le_of_ble_eq_true rfl⟩ rfl rfl (ok_X9_of p1 (1 : Int32) I L h) ?_ ?_
  · intro e9 u9 hx9
    exact hx9.elim
  intro v9 u9 hv9
  obtain ⟨r2681, rfl, rfl, h⟩ := hv9
  refine ⟨fun q => absurd q (Nat.lt_irrefl _), ?_⟩
  show V G Y_X9_windowOf 6 _ (.int r2681 :: _) _ _ _ _ _
  refine v_aload_n (pc' := 7) 4 0 rfl rfl rfl rfl ?_
  refine v_iload_n (pc' := 8) 5 1 rfl rfl rfl rfl ?_
  refine v_iconst (v := 2) (pc' := 9) 6 rfl rfl (by decide) ?_
  refine v_cV (Y2 := Y_X9_of) (As := [.int p1, .int 2]) (b := 436) (pc' := 12) (c1 := 0) (s1 := 0) 7 rfl rfl mf_X9_of rfl rfl ml_X9_346 mi_X9_of se_X9_of (ci := 8) rfl ly_436 (lay_lt ly_436 (by decide)) rfl (Nat.le_of_ble_eq_true rfl) ⟨Nat.le_of_ble_eq_true rfl, Nat.le_of_ble_eq_true rfl⟩ rfl rfl (ok_X9_of p1 (2 : Int32) I L h) ?_ ?_
  · intro e9 u9 hx9
    exact hx9.elim
  intro v9 u9 hv9
  obtain ⟨r2682, rfl, rfl, h⟩ := hv9
  refine ⟨fun q => absurd q (Nat.lt_irrefl _), ?_⟩
  show V G Y_X9_windowOf 12 _ (.int r2682 :: _) _ _ _ _ _
  refine v_cS (Y2 := Y_X9_times) (As := [.int r2681, .int r2682]) (pc' := 15) (c1 := 0) (s1 := 0) 8 rfl rfl mf_X9_times rfl rfl ml_X9_107 ms_X9_times rfl (Nat.le_of_ble_eq_true rfl) ⟨Nat.le_of_ble_eq_true rfl, Nat.le_of_ble_eq_true rfl⟩ rfl rfl (ok_X9_times r2681 r2682 I L h) ?_ ?_
  · intro e9 u9 hx9
    exact hx9.elim
  intro v9 u9 hv9
  obtain ⟨r2683, rfl, rfl, h⟩ := hv9
  refine ⟨fun q => absurd q (Nat.lt_irrefl _), ?_⟩
  show V G Y_X9_windowOf 15 _ (.long r2683 :: _) _ _ _ _ _
  exact v_lret 9 rfl rfl (by decide) (by decide) ⟨_, rfl, rfl, h⟩
set_option maxHeartbeats 4000000 in
set_option maxRecDepth 100000 in
theorem b_X9_replayed_31 {G : GT} {b d t : Nat} (v1 : Int32) (s0 : Int64) (I : TI) (L : TL)  (Q : Int32 → Prop)  (h : B_X9_replayed_31 v1 s0 I L Q) : V G Y_X9_replayed 31 [(0, .ref 436), (1, .int v1)] [.long s0] (I, L, RT b d t, 457) 0 0 (fun v9 u9 => ∃ (r9 : Int32), v9 = some (.int r9) ∧ u9 = (I, L, RT b d t, 457) ∧ Q r9) (fun _ _ => False) := by
  unfold B_X9_replayed_31 at h
  refine v_lstore (ls' := [(4, .long s0), (0, .ref 436), (1, .int v1)]) (pc' := 33) 19 rfl rfl (by decide) rfl ?_
  refine v_lload (pc' := 35) 20 0 rfl rfl rfl ?_
  refine v_aload_n (pc' := 36) 21 1 rfl rfl rfl rfl ?_
  refine v_iload_n (pc' := 37) 22 2 rfl rfl rfl rfl ?_
  refine v_cV (Y2 := Y_X9_windowOf) (As := [.int v1]) (b := 436) (pc' := 40) (c1 := 0) (s1 := 0) 23 rfl rfl mf_X9_windowOf rfl rfl ml_X9_349 mi_X9_windowOf se_X9_windowOf (ci := 8) rfl ly_436 (lay_lt ly_436 (by decide)) rfl (Nat.le_of_ble_eq_true rfl) ⟨Nat.le_of_ble_eq_true rfl, Nat.le_of_ble_eq_true rfl⟩ rfl rfl (ok_X9_windowOf v1 I L h) ?_ ?_
  · intro e9 u9 hx9
    exact hx9.elim
  intro v9 u9 hv9
  obtain ⟨r2692, rfl, rfl, h⟩ := hv9
  refine ⟨fun q => absurd q (Nat.lt_irrefl _), ?_⟩
  show V G Y_X9_replayed 40 _ (.long r2692 :: _) _ _ _ _ _
  refine v_land (pc' := 41) 24 rfl rfl ?_
  refine v_lconst (v := 0) (pc' := 42) 25 rfl rfl (by decide) ?_
  refine v_lc_ne (tgt := 50) (pc' := 46) 26 27 rfl rfl rfl (by decide) (fun hc => ?_) (fun hc => ?_)
  · replace h := h.1 hc
    refine v_iconst (v := 1) (pc' := 51) 30 rfl rfl (by decide) ?_
    exact v_iret 31 rfl rfl (by decide) (by decide) ⟨_, rfl, rfl, h⟩
  replace h := h.2 hc
  refine v_iconst (v := 0) (pc' := 47) 28 rfl rfl (by decide) ?_
  refine v_goto (tgt := 51) 29 rfl (by decide) ?_
  exact v_iret 31 rfl rfl (by decide) (by decide) ⟨_, rfl, rfl, h⟩
set_option maxHeartbeats 4000000 in
set_option maxRecDepth 100000 in
theorem ok_X9_replayed {G : GT} {b d t : Nat} (p1 : Int32) (I : TI) (L : TL)  {Q : Int32 → Prop} (h : W_X9_replayed p1 I L Q) : MW G Y_X9_replayed [.ref 436, .int p1] (I, L, RT b d t, 457) (fun v9 u9 => ∃ (r9 : Int32), v9 = some (.int r9) ∧ u9 = (I, L, RT b d t, 457) ∧ Q r9) (fun _ _ => False) := by
  unfold W_X9_replayed at h
  refine MW.intro rfl (by decide) is_X9_replayed (Nat.le_of_ble_eq_true rfl) ?_
  show V G Y_X9_replayed 0 [(0, .ref 436), (1, .int p1)] [] (I, L, RT b d t, 457) 0 0 _ _
  refine v_aload_n (pc' := 1) 0 0 rfl rfl rfl rfl ?_
  refine v_getR (t := 446) (pc' := 4) 1 rfl rfl pf_X9_38 ly_436 (lay_lt ly_436 (by decide)) rt_436_17 ?_
  refine v_aload_n (pc' := 5) 2 0 rfl rfl rfl rfl ?_
  refine v_iload_n (pc' := 6) 3 1 rfl rfl rfl rfl ?_
  refine v_iconst (v := 0) (pc' := 7) 4 rfl rfl (by decide) ?_
  refine v_cV (Y2 := Y_X9_of) (As := [.int p1, .int 0]) (b := 436) (pc' := 10) (c1 := 0) (s1 := 0) 5 rfl rfl mf_X9_of rfl rfl ml_X9_346 mi_X9_of se_X9_of (ci := 8) rfl ly_436 (lay_lt ly_436 (by decide)) rfl (Nat.le_of_ble_eq_true rfl) ⟨Nat.le_of_ble_eq_true rfl, Nat.le_of_ble_eq_true rfl⟩ rfl rfl (ok_X9_of p1 (0 : Int32) I L h) ?_ ?_
  · intro e9 u9 hx9
    exact hx9.elim
  intro v9 u9 hv9
  obtain ⟨r2693, rfl, rfl, h⟩ := hv9
  refine ⟨fun q => absurd q (Nat.lt_irrefl _), ?_⟩
  show V G Y_X9_replayed 10 _ (.int r2693 :: _) _ _ _ _ _
  obtain ⟨hi2694, h⟩ := h
  refine v_lald (i := r2693) (j := r2693.toNatClampNeg) (pc' := 11) 6 rfl rfl ly_446 ln_446 (lay_lt ly_446 (by decide)) hi2694 rfl ?_
  refine nm_J (e := (L 446 (r2693.toNatClampNeg))) (fun x2695 hx2695 => ?_)
  replace h := h x2695 hx2695
  refine v_lstore_n (ls' := [(2, .long x2695), (0, .ref 436), (1, .int p1)]) (pc' := 12) 7 rfl rfl rfl (by decide) rfl ?_
  refine v_aload_n (pc' := 13) 8 1 rfl rfl rfl rfl ?_
  refine v_iload_n (pc' := 14) 9 2 rfl rfl rfl rfl ?_
  refine v_iconst (v := 3) (pc' := 15) 10 rfl rfl (by decide) ?_
  refine v_cV (Y2 := Y_X9_of) (As := [.int p1, .int 3]) (b := 436) (pc' := 18) (c1 := 0) (s1 := 0) 11 rfl rfl mf_X9_of rfl rfl ml_X9_346 mi_X9_of se_X9_of (ci := 8) rfl ly_436 (lay_lt ly_436 (by decide)) rfl (Nat.le_of_ble_eq_true rfl) ⟨Nat.le_of_ble_eq_true rfl, Nat.le_of_ble_eq_true rfl⟩ rfl rfl (ok_X9_of p1 (3 : Int32) I L h) ?_ ?_
  · intro e9 u9 hx9
    exact hx9.elim
  intro v9 u9 hv9
  obtain ⟨r2696, rfl, rfl, h⟩ := hv9
  refine ⟨fun q => absurd q (Nat.lt_irrefl _), ?_⟩
  show V G Y_X9_replayed 18 _ (.int r2696 :: _) _ _ _ _ _
  refine v_iconst (v := 1) (pc' := 19) 12 rfl rfl (by decide) ?_
  refine v_icmp_ne (tgt := 26) (pc' := 22) 13 rfl rfl (by decide) (fun hc => ?_) (fun hc => ?_)
  · replace h := h.1 hc
    refine v_lload_n (pc' := 27) 16 0 rfl rfl rfl rfl ?_
    refine v_ldc2 (v := -1) (pc' := 30) 17 rfl rfl kl_X9_111 ?_
    refine v_lxor (pc' := 31) 18 rfl rfl ?_
    refine V.sub [1, 2] rfl ?_
    exact b_X9_replayed_31 p1 (x2695 ^^^ (-1)) I L Q h
  replace h := h.2 hc
  refine v_lload_n (pc' := 23) 14 0 rfl rfl rfl rfl ?_
  refine v_goto (tgt := 31) 15 rfl (by decide) ?_
  refine V.sub [1, 2] rfl ?_
  exact b_X9_replayed_31 p1 x2695 I L Q h
set_option maxHeartbeats 4000000 in
set_option maxRecDepth 100000 in
theorem ok_X9_dispute {G : GT} {b d t : Nat} (p1 : Int32) (p2 : Int32) (I : TI) (L : TL)  {Q : Int32 → TI → Prop} (h : W_X9_dispute p1 p2 I L Q) : MW G Y_X9_dispute [.ref 436, .int p1, .int p2] (I, L, RT b d t, 457) (fun v9 u9 => ∃ (r9 : Int32) (I9 : TI), v9 = some (.int r9) ∧ u9 = (I9, L, RT b d t, 457) ∧ Q r9 I9) (fun _ _ => False) := by
  unfold W_X9_dispute at h
  refine MW.intro rfl (by decide) is_X9_dispute (Nat.le_of_ble_eq_true rfl) ?_
  show V G Y_X9_dispute 0 [(0, .ref 436), (1, .int p1), (2, .int p2)] [] (I, L, RT b d t, 457) 0 0 _ _
  refine v_aload_n (pc' := 1) 0 0 rfl rfl rfl rfl ?_
  refine v_iload_n (pc' := 2) 1 1 rfl rfl rfl rfl ?_
  refine v_cV (Y2 := Y_X9_noDispute) (As := [.int p1]) (b := 436) (pc' := 5) (c1 := 0) (s1 := 0) 2 rfl rfl mf_X9_noDispute rfl rfl ml_X9_352 mi_X9_noDispute se_X9_noDispute (ci := 8) rfl ly_436 (lay_lt ly_436 (by decide)) rfl (Nat.le_of_ble_eq_true rfl) ⟨Nat.le_of_ble_eq_true rfl, Nat.le_of_ble_eq_true rfl⟩ rfl rfl (ok_X9_noDispute p1 I L h) ?_ ?_
  · intro e9 u9 hx9
    exact hx9.elim
  intro v9 u9 hv9
  obtain ⟨r2706, I2707, rfl, rfl, h⟩ := hv9
  refine ⟨fun q => absurd q (Nat.lt_irrefl _), ?_⟩
  show V G Y_X9_dispute 5 _ (.int r2706 :: _) _ _ _ _ _
  refine v_if_ne (tgt := 25) (pc' := 8) 3 rfl rfl (by decide) (fun hc => ?_) (fun hc => ?_)
  · replace h := h.1 hc
    refine v_iconst (v := 0) (pc' := 26) 13 rfl rfl (by decide) ?_
    exact v_iret 14 rfl rfl (by decide) (by decide) ⟨_, _, rfl, rfl, h⟩
  replace h := h.2 hc
  refine v_aload_n (pc' := 9) 4 0 rfl rfl rfl rfl ?_
  refine v_iload_n (pc' := 10) 5 2 rfl rfl rfl rfl ?_
  refine v_i2l (pc' := 11) 6 rfl rfl ?_
  refine v_lconst (v := 0) (pc' := 12) 7 rfl rfl (by decide) ?_
  refine v_ldc2 (v := 9) (pc' := 15) 8 rfl rfl kl_X9_305 ?_
  refine v_cS (Y2 := Y_X9_in) (As := [.long (p2.toInt64), .long 0, .long 9]) (pc' := 18) (c1 := 0) (s1 := 0) 9 rfl rfl mf_X9_in rfl rfl ml_X9_232 ms_X9_in rfl (Nat.le_of_ble_eq_true rfl) ⟨Nat.le_of_ble_eq_true rfl, Nat.le_of_ble_eq_true rfl⟩ rfl rfl (ok_X9_in (p2.toInt64) (0 : Int64) (9 : Int64) I2707 L h) ?_ ?_
  · intro e9 u9 hx9
    exact hx9.elim
  intro v9 u9 hv9
  obtain ⟨r2708, rfl, rfl, h⟩ := hv9
  refine ⟨fun q => absurd q (Nat.lt_irrefl _), ?_⟩
  show V G Y_X9_dispute 18 _ (.int r2708 :: _) _ _ _ _ _
  refine v_iconst (v := 1) (pc' := 19) 10 rfl rfl (by decide) ?_
  refine v_cV (Y2 := Y_X9_fails) (As := [.int r2708, .int 1]) (b := 436) (pc' := 22) (c1 := 0) (s1 := 0) 11 rfl rfl mf_X9_fails rfl rfl ml_X9_280 mi_X9_fails se_X9_fails (ci := 8) rfl ly_436 (lay_lt ly_436 (by decide)) rfl (Nat.le_of_ble_eq_true rfl) ⟨Nat.le_of_ble_eq_true rfl, Nat.le_of_ble_eq_true rfl⟩ rfl rfl (ok_X9_fails r2708 (1 : Int32) I2707 L h) ?_ ?_
  · intro e9 u9 hx9
    exact hx9.elim
  intro v9 u9 hv9
  obtain ⟨r2709, I2710, rfl, rfl, h⟩ := hv9
  refine ⟨fun q => absurd q (Nat.lt_irrefl _), ?_⟩
  show V G Y_X9_dispute 22 _ (.int r2709 :: _) _ _ _ _ _
  refine v_if_eq (tgt := 27) (pc' := 25) 12 rfl rfl (by decide) (fun hc => ?_) (fun hc => ?_)
  · replace h := h.1 hc
    refine v_iload_n (pc' := 28) 15 2 rfl rfl rfl rfl ?_
    refine v_bipush (v := 8) (pc' := 30) 16 rfl rfl (by decide) ?_
    refine v_icmp_ge (tgt := 40) (pc' := 33) 17 rfl rfl (by decide) (fun hc => ?_) (fun hc => ?_)
    · replace h := h.1 hc
      refine v_iload_n (pc' := 41) 23 2 rfl rfl rfl rfl ?_
      refine v_bipush (v := 9) (pc' := 43) 24 rfl rfl (by decide) ?_
      refine v_icmp_ne (tgt := 52) (pc' := 46) 25 rfl rfl (by decide) (fun hc => ?_) (fun hc => ?_)
      · replace h := h.1 hc
        refine v_aload_n (pc' := 53) 30 0 rfl rfl rfl rfl ?_
        refine v_iload_n (pc' := 54) 31 1 rfl rfl rfl rfl ?_
        refine v_bipush (v := 7) (pc' := 56) 32 rfl rfl (by decide) ?_
        refine v_cV (Y2 := Y_X9_of) (As := [.int p1, .int 7]) (b := 436) (pc' := 59) (c1 := 0) (s1 := 0) 33 rfl rfl mf_X9_of rfl rfl ml_X9_346 mi_X9_of se_X9_of (ci := 8) rfl ly_436 (lay_lt ly_436 (by decide)) rfl (Nat.le_of_ble_eq_true rfl) ⟨Nat.le_of_ble_eq_true rfl, Nat.le_of_ble_eq_true rfl⟩ rfl rfl (ok_X9_of p1 (7 : Int32) I2710 L h) ?_ ?_
        · intro e9 u9 hx9
          exact hx9.elim
        intro v9 u9 hv9
        obtain ⟨r2711, rfl, rfl, h⟩ := hv9
        refine ⟨fun q => absurd q (Nat.lt_irrefl _), ?_⟩
        show V G Y_X9_dispute 59 _ (.int r2711 :: _) _ _ _ _ _
        refine v_iconst (v := -1) (pc' := 60) 34 rfl rfl (by decide) ?_
        refine v_icmp_ne (tgt := 67) (pc' := 63) 35 rfl rfl (by decide) (fun hc => ?_) (fun hc => ?_)
        · replace h := h.1 hc
          refine v_aload_n (pc' := 68) 38 0 rfl rfl rfl rfl ?_
          refine v_iload_n (pc' := 69) 39 1 rfl rfl rfl rfl ?_
          refine v_cV (Y2 := Y_X9_loserOf) (As := [.int p1]) (b := 436) (pc' := 72) (c1 := 0) (s1 := 0) 40 rfl rfl mf_X9_loserOf rfl rfl ml_X9_358 mi_X9_loserOf se_X9_loserOf (ci := 8) rfl ly_436 (lay_lt ly_436 (by decide)) rfl (Nat.le_of_ble_eq_true rfl) ⟨Nat.le_of_ble_eq_true rfl, Nat.le_of_ble_eq_true rfl⟩ rfl rfl (ok_X9_loserOf p1 I2710 L h) ?_ ?_
          · intro e9 u9 hx9
            exact hx9.elim
          intro v9 u9 hv9
          obtain ⟨r2712, rfl, rfl, h⟩ := hv9
          refine ⟨fun q => absurd q (Nat.lt_irrefl _), ?_⟩
          show V G Y_X9_dispute 72 _ (.int r2712 :: _) _ _ _ _ _
          exact v_iret 41 rfl rfl (by decide) (by decide) ⟨_, _, rfl, rfl, h⟩
        replace h := h.2 hc
        refine v_iconst (v := -1) (pc' := 64) 36 rfl rfl (by decide) ?_
        refine v_goto (tgt := 72) 37 rfl (by decide) ?_
        exact v_iret 41 rfl rfl (by decide) (by decide) ⟨_, _, rfl, rfl, h⟩
      replace h := h.2 hc
      refine v_aload_n (pc' := 47) 26 0 rfl rfl rfl rfl ?_
      refine v_iload_n (pc' := 48) 27 1 rfl rfl rfl rfl ?_
      refine v_cV (Y2 := Y_X9_stakeOf) (As := [.int p1]) (b := 436) (pc' := 51) (c1 := 0) (s1 := 0) 28 rfl rfl mf_X9_stakeOf rfl rfl ml_X9_355 mi_X9_stakeOf se_X9_stakeOf (ci := 8) rfl ly_436 (lay_lt ly_436 (by decide)) rfl (Nat.le_of_ble_eq_true rfl) ⟨Nat.le_of_ble_eq_true rfl, Nat.le_of_ble_eq_true rfl⟩ rfl rfl (ok_X9_stakeOf p1 I2710 L h) ?_ ?_
      · intro e9 u9 hx9
        exact hx9.elim
      intro v9 u9 hv9
      obtain ⟨r2713, rfl, rfl, h⟩ := hv9
      refine ⟨fun q => absurd q (Nat.lt_irrefl _), ?_⟩
      show V G Y_X9_dispute 51 _ (.int r2713 :: _) _ _ _ _ _
      exact v_iret 29 rfl rfl (by decide) (by decide) ⟨_, _, rfl, rfl, h⟩
    replace h := h.2 hc
    refine v_aload_n (pc' := 34) 18 0 rfl rfl rfl rfl ?_
    refine v_iload_n (pc' := 35) 19 1 rfl rfl rfl rfl ?_
    refine v_iload_n (pc' := 36) 20 2 rfl rfl rfl rfl ?_
    refine v_cV (Y2 := Y_X9_of) (As := [.int p1, .int p2]) (b := 436) (pc' := 39) (c1 := 0) (s1 := 0) 21 rfl rfl mf_X9_of rfl rfl ml_X9_346 mi_X9_of se_X9_of (ci := 8) rfl ly_436 (lay_lt ly_436 (by decide)) rfl (Nat.le_of_ble_eq_true rfl) ⟨Nat.le_of_ble_eq_true rfl, Nat.le_of_ble_eq_true rfl⟩ rfl rfl (ok_X9_of p1 p2 I2710 L h) ?_ ?_
    · intro e9 u9 hx9
      exact hx9.elim
    intro v9 u9 hv9
    obtain ⟨r2714, rfl, rfl, h⟩ := hv9
    refine ⟨fun q => absurd q (Nat.lt_irrefl _), ?_⟩
    show V G Y_X9_dispute 39 _ (.int r2714 :: _) _ _ _ _ _
    exact v_iret 22 rfl rfl (by decide) (by decide) ⟨_, _, rfl, rfl, h⟩
  replace h := h.2 hc
  refine v_iconst (v := 0) (pc' := 26) 13 rfl rfl (by decide) ?_
  exact v_iret 14 rfl rfl (by decide) (by decide) ⟨_, _, rfl, rfl, h⟩
set_option maxHeartbeats 4000000 in
set_option maxRecDepth 100000 in
theorem b_X9_disputes_57 {G : GT} {b d t : Nat} (v1 : Int32) (v3 : Int32) (s0 : Int32) (s1 : Int32) (I : TI) (L : TL)  (Q : Int32 → TI → Prop) (R28 : Int32 → Int32 → Prop) (hR28 : ∀ (v2 : Int32) (v3 : Int32), R28 v2 v3 → V G Y_X9_disputes 28 [(0, .ref 436), (1, .int v1), (2, .int v2), (3, .int v3)] [] (I, L, RT b d t, 457) 0 0 (fun v9 u9 => ∃ (r9 : Int32) (I9 : TI), v9 = some (.int r9) ∧ u9 = (I9, L, RT b d t, 457) ∧ Q r9 I9) (fun _ _ => False)) (h : B_X9_disputes_57 v1 v3 s0 s1 I L Q R28) : V G Y_X9_disputes 57 [(0, .ref 436), (1, .int v1), (3, .int v3)] [.int s1, .int s0] (I, L, RT b d t, 457) 0 0 (fun v9 u9 => ∃ (r9 : Int32) (I9 : TI), v9 = some (.int r9) ∧ u9 = (I9, L, RT b d t, 457) ∧ Q r9 I9) (fun _ _ => False) := by
  unfold B_X9_disputes_57 at h
  refine v_iadd (pc' := 58) 36 rfl rfl ?_
  refine v_istore_n (ls' := [(2, .int (s0 + s1)), (0, .ref 436), (1, .int v1), (3, .int v3)]) (pc' := 59) 37 rfl rfl rfl (by decide) rfl ?_
  refine v_iinc (v := (v3 + 1)) (ls' := [(3, .int (v3 + 1)), (2, .int (s0 + s1)), (0, .ref 436), (1, .int v1)]) (pc' := 62) 38 3 rfl rfl rfl rfl (by decide) rfl ?_
  refine v_goto (tgt := 28) 39 rfl (by decide) ?_
  refine V.sub [2, 3, 1, 0] rfl ?_
  exact hR28 (s0 + s1) (v3 + 1) h
set_option maxHeartbeats 4000000 in
set_option maxRecDepth 100000 in
theorem d_X9_disputes_28 {G : GT} {b d t : Nat} (v1 : Int32) (I : TI) (L : TL)  (Q : Int32 → TI → Prop) (R28 : Int32 → Int32 → Prop)  (hR28 : ∀ (v2 : Int32) (v3 : Int32), R28 v2 v3 → V G Y_X9_disputes 28 [(0, .ref 436), (1, .int v1), (2, .int v2), (3, .int v3)] [] (I, L, RT b d t, 457) 0 0 (fun v9 u9 => ∃ (r9 : Int32) (I9 : TI), v9 = some (.int r9) ∧ u9 = (I9, L, RT b d t, 457) ∧ Q r9 I9) (fun _ _ => False)) (v2 : Int32) (v3 : Int32)  (h : D_X9_disputes_28 v1 I L Q R28 v2 v3) : V G Y_X9_disputes 28 [(0, .ref 436), (1, .int v1), (2, .int v2), (3, .int v3)] [] (I, L, RT b d t, 457) 0 0 (fun v9 u9 => ∃ (r9 : Int32) (I9 : TI), v9 = some (.int r9) ∧ u9 = (I9, L, RT b d t, 457) ∧ Q r9 I9) (fun _ _ => False) := by
  unfold D_X9_disputes_28 at h
  refine v_iload_n (pc' := 29) 18 3 rfl rfl rfl rfl ?_
  refine v_i2l (pc' := 30) 19 rfl rfl ?_
  refine v_aload_n (pc' := 31) 20 0 rfl rfl rfl rfl ?_
  refine v_getR (t := 437) (pc' := 34) 21 rfl rfl pf_X9_7 ly_436 (lay_lt ly_436 (by decide)) rt_436_1 ?_
  refine v_iconst (v := 4) (pc' := 35) 22 rfl rfl (by decide) ?_
  refine v_lald (i := 4) (j := 4) (pc' := 36) 23 rfl rfl ly_437 ln_437 (lay_lt ly_437 (by decide)) (vp_lit (by decide)) (by decide) ?_
  refine v_lc_ge (tgt := 65) (pc' := 40) 24 25 rfl rfl rfl (by decide) (fun hc => ?_) (fun hc => ?_)
  · replace h := h.1 hc
    refine v_iload_n (pc' := 66) 40 2 rfl rfl rfl rfl ?_
    exact v_iret 41 rfl rfl (by decide) (by decide) ⟨_, _, rfl, rfl, h⟩
  replace h := h.2 hc
  refine v_iload_n (pc' := 41) 26 2 rfl rfl rfl rfl ?_
  refine v_aload_n (pc' := 42) 27 0 rfl rfl rfl rfl ?_
  refine v_iload_n (pc' := 43) 28 3 rfl rfl rfl rfl ?_
  refine v_bipush (v := 6) (pc' := 45) 29 rfl rfl (by decide) ?_
  refine v_cV (Y2 := Y_X9_of) (As := [.int v3, .int 6]) (b := 436) (pc' := 48) (c1 := 0) (s1 := 0) 30 rfl rfl mf_X9_of rfl rfl ml_X9_346 mi_X9_of se_X9_of (ci := 8) rfl ly_436 (lay_lt ly_436 (by decide)) rfl (Nat.le_of_ble_eq_true rfl) ⟨Nat.le_of_ble_eq_true rfl, Nat.le_of_ble_eq_true rfl⟩ rfl rfl (ok_X9_of v3 (6 : Int32) I L h) ?_ ?_
  · intro e9 u9 hx9
    exact hx9.elim
  intro v9 u9 hv9
  obtain ⟨r2723, rfl, rfl, h⟩ := hv9
  refine ⟨fun q => absurd q (Nat.lt_irrefl _), ?_⟩
  show V G Y_X9_disputes 48 _ (.int r2723 :: _) _ _ _ _ _
  refine v_iload_n (pc' := 49) 31 1 rfl rfl rfl rfl ?_
  refine v_icmp_ne (tgt := 56) (pc' := 52) 32 rfl rfl (by decide) (fun hc => ?_) (fun hc => ?_)
  · replace h := h.1 hc
    refine v_iconst (v := 0) (pc' := 57) 35 rfl rfl (by decide) ?_
    refine V.sub [0, 1, 3] rfl ?_
    exact b_X9_disputes_57 v1 v3 v2 (0 : Int32) I L Q R28 hR28 h
  replace h := h.2 hc
  refine v_iconst (v := 1) (pc' := 53) 33 rfl rfl (by decide) ?_
  refine v_goto (tgt := 57) 34 rfl (by decide) ?_
  refine V.sub [0, 1, 3] rfl ?_
  exact b_X9_disputes_57 v1 v3 v2 (1 : Int32) I L Q R28 hR28 h
theorem l_X9_disputes_28 {G : GT} {b d t : Nat} (v1 : Int32) (I : TI) (L : TL)  (Q : Int32 → TI → Prop)  : ∀ (n9 : Nat) (v2 : Int32) (v3 : Int32), L_X9_disputes_28 v1 I L Q n9 v2 v3 → V G Y_X9_disputes 28 [(0, .ref 436), (1, .int v1), (2, .int v2), (3, .int v3)] [] (I, L, RT b d t, 457) 0 0 (fun v9 u9 => ∃ (r9 : Int32) (I9 : TI), v9 = some (.int r9) ∧ u9 = (I9, L, RT b d t, 457) ∧ Q r9 I9) (fun _ _ => False)
  | 0, _, _, h => h.elim
  | n9 + 1, v2, v3, h => d_X9_disputes_28 v1 I L Q _ (l_X9_disputes_28 v1 I L Q n9) v2 v3 h
set_option maxHeartbeats 4000000 in
set_option maxRecDepth 100000 in
theorem ok_X9_disputes {G : GT} {b d t : Nat} (p1 : Int32) (I : TI) (L : TL)  {Q : Int32 → TI → Prop} (h : W_X9_disputes p1 I L Q) : MW G Y_X9_disputes [.ref 436, .int p1] (I, L, RT b d t, 457) (fun v9 u9 => ∃ (r9 : Int32) (I9 : TI), v9 = some (.int r9) ∧ u9 = (I9, L, RT b d t, 457) ∧ Q r9 I9) (fun _ _ => False) := by
  unfold W_X9_disputes at h
  refine MW.intro rfl (by decide) is_X9_disputes (Nat.le_of_ble_eq_true rfl) ?_
  show V G Y_X9_disputes 0 [(0, .ref 436), (1, .int p1)] [] (I, L, RT b d t, 457) 0 0 _ _
  refine v_aload_n (pc' := 1) 0 0 rfl rfl rfl rfl ?_
  refine v_iconst (v := 0) (pc' := 2) 1 rfl rfl (by decide) ?_
  refine v_putI (pc' := 5) 2 rfl rfl pf_X9_80 (fun q => absurd q (by decide)) ly_436 (lay_lt ly_436 (by decide)) ?_
  refine v_aload_n (pc' := 6) 3 0 rfl rfl rfl rfl ?_
  refine v_iload_n (pc' := 7) 4 1 rfl rfl rfl rfl ?_
  refine v_i2l (pc' := 8) 5 rfl rfl ?_
  refine v_lconst (v := 0) (pc' := 9) 6 rfl rfl (by decide) ?_
  refine v_ldc2 (v := 4) (pc' := 12) 7 rfl rfl kl_X9_337 ?_
  refine v_cS (Y2 := Y_X9_in) (As := [.long (p1.toInt64), .long 0, .long 4]) (pc' := 15) (c1 := 0) (s1 := 0) 8 rfl rfl mf_X9_in rfl rfl ml_X9_232 ms_X9_in rfl (Nat.le_of_ble_eq_true rfl) ⟨Nat.le_of_ble_eq_true rfl, Nat.le_of_ble_eq_true rfl⟩ rfl rfl (ok_X9_in (p1.toInt64) (0 : Int64) (4 : Int64) (up2 I 436 0 0) L h) ?_ ?_
  · intro e9 u9 hx9
    exact hx9.elim
  intro v9 u9 hv9
  obtain ⟨r2724, rfl, rfl, h⟩ := hv9
  refine ⟨fun q => absurd q (Nat.lt_irrefl _), ?_⟩
  show V G Y_X9_disputes 15 _ (.int r2724 :: _) _ _ _ _ _
  refine v_iconst (v := 1) (pc' := 16) 9 rfl rfl (by decide) ?_
  refine v_cV (Y2 := Y_X9_fails) (As := [.int r2724, .int 1]) (b := 436) (pc' := 19) (c1 := 0) (s1 := 0) 10 rfl rfl mf_X9_fails rfl rfl ml_X9_280 mi_X9_fails se_X9_fails (ci := 8) rfl ly_436 (lay_lt ly_436 (by decide)) rfl (Nat.le_of_ble_eq_true rfl) ⟨Nat.le_of_ble_eq_true rfl, Nat.le_of_ble_eq_true rfl⟩ rfl rfl (ok_X9_fails r2724 (1 : Int32) (up2 I 436 0 0) L h) ?_ ?_
  · intro e9 u9 hx9
    exact hx9.elim
  intro v9 u9 hv9
  obtain ⟨r2725, I2726, rfl, rfl, h⟩ := hv9
  refine ⟨fun q => absurd q (Nat.lt_irrefl _), ?_⟩
  show V G Y_X9_disputes 19 _ (.int r2725 :: _) _ _ _ _ _
  refine v_if_eq (tgt := 24) (pc' := 22) 11 rfl rfl (by decide) (fun hc => ?_) (fun hc => ?_)
  · replace h := h.1 hc
    refine v_iconst (v := 0) (pc' := 25) 14 rfl rfl (by decide) ?_
    refine v_istore_n (ls' := [(2, .int 0), (0, .ref 436), (1, .int p1)]) (pc' := 26) 15 rfl rfl rfl (by decide) rfl ?_
    refine v_iconst (v := 0) (pc' := 27) 16 rfl rfl (by decide) ?_
    refine v_istore_n (ls' := [(3, .int 0), (2, .int 0), (0, .ref 436), (1, .int p1)]) (pc' := 28) 17 rfl rfl rfl (by decide) rfl ?_
    refine V.sub [2, 3, 1, 0] rfl ?_
    obtain ⟨n2727, h⟩ := h
    exact l_X9_disputes_28 p1 I2726 L Q n2727 (0 : Int32) (0 : Int32) h
  replace h := h.2 hc
  refine v_iconst (v := 0) (pc' := 23) 12 rfl rfl (by decide) ?_
  exact v_iret 13 rfl rfl (by decide) (by decide) ⟨_, _, rfl, rfl, h⟩
set_option maxHeartbeats 4000000 in
set_option maxRecDepth 100000 in
theorem b_X9_noTimes_43 {G : GT} {b d t : Nat} (s1 : Int32) (I : TI) (L : TL)  (Q : Int32 → TI → Prop)  (h : B_X9_noTimes_43 s1 I L Q) : V G Y_X9_noTimes 43 [] [.int s1, .ref 436] (I, L, RT b d t, 457) 0 0 (fun v9 u9 => ∃ (r9 : Int32) (I9 : TI), v9 = some (.int r9) ∧ u9 = (I9, L, RT b d t, 457) ∧ Q r9 I9) (fun _ _ => False) := by
  unfold B_X9_noTimes_43 at h
  refine v_iconst (v := 2) (pc' := 44) 25 rfl rfl (by decide) ?_
  refine v_cV (Y2 := Y_X9_fails) (As := [.int s1, .int 2]) (b := 436) (pc' := 47) (c1 := 0) (s1 := 0) 26 rfl rfl mf_X9_fails rfl rfl ml_X9_280 mi_X9_fails se_X9_fails (ci := 8) rfl ly_436 (lay_lt ly_436 (by decide)) rfl (Nat.le_of_ble_eq_true rfl) ⟨Nat.le_of_ble_eq_true rfl, Nat.le_of_ble_eq_true rfl⟩ rfl rfl (ok_X9_fails s1 (2 : Int32) I L h) ?_ ?_
  · intro e9 u9 hx9
    exact hx9.elim
  intro v9 u9 hv9
  obtain ⟨r2740, I2741, rfl, rfl, h⟩ := hv9
  refine ⟨fun q => absurd q (Nat.lt_irrefl _), ?_⟩
  show V G Y_X9_noTimes 47 _ (.int r2740 :: _) _ _ _ _ _
  refine v_if_eq (tgt := 54) (pc' := 50) 27 rfl rfl (by decide) (fun hc => ?_) (fun hc => ?_)
  · replace h := h.1 hc
    refine v_iconst (v := 0) (pc' := 55) 30 rfl rfl (by decide) ?_
    exact v_bret 31 rfl rfl (by decide) (by decide) (by decide) ⟨_, _, rfl, rfl, h⟩
  replace h := h.2 hc
  refine v_iconst (v := 1) (pc' := 51) 28 rfl rfl (by decide) ?_
  refine v_goto (tgt := 55) 29 rfl (by decide) ?_
  exact v_bret 31 rfl rfl (by decide) (by decide) (by decide) ⟨_, _, rfl, rfl, h⟩
set_option maxHeartbeats 4000000 in
set_option maxRecDepth 100000 in
theorem b_X9_noTimes_42 {G : GT} {b d t : Nat} (I : TI) (L : TL)  (Q : Int32 → TI → Prop)  (h : B_X9_noTimes_42 I L Q) : V G Y_X9_noTimes 42 [] [.ref 436] (I, L, RT b d t, 457) 0 0 (fun v9 u9 => ∃ (r9 : Int32) (I9 : TI), v9 = some (.int r9) ∧ u9 = (I9, L, RT b d t, 457) ∧ Q r9 I9) (fun _ _ => False) := by
  unfold B_X9_noTimes_42 at h
  refine v_iconst (v := 0) (pc' := 43) 24 rfl rfl (by decide) ?_
  exact b_X9_noTimes_43 (0 : Int32) I L Q h
set_option maxHeartbeats 4000000 in
set_option maxRecDepth 100000 in
theorem ok_X9_noTimes {G : GT} {b d t : Nat} (p1 : Int32) (p2 : Int32) (p3 : Int32) (I : TI) (L : TL)  {Q : Int32 → TI → Prop} (h : W_X9_noTimes p1 p2 p3 I L Q) : MW G Y_X9_noTimes [.ref 436, .int p1, .int p2, .int p3] (I, L, RT b d t, 457) (fun v9 u9 => ∃ (r9 : Int32) (I9 : TI), v9 = some (.int r9) ∧ u9 = (I9, L, RT b d t, 457) ∧ Q r9 I9) (fun _ _ => False) := by
  unfold W_X9_noTimes at h
  refine MW.intro rfl (by decide) is_X9_noTimes (Nat.le_of_ble_eq_true rfl) ?_
  show V G Y_X9_noTimes 0 [(0, .ref 436), (1, .int p1), (2, .int p2), (3, .int p3)] [] (I, L, RT b d t, 457) 0 0 _ _
  refine v_aload_n (pc' := 1) 0 0 rfl rfl rfl rfl ?_
  refine v_iload_n (pc' := 2) 1 1 rfl rfl rfl rfl ?_
  refine v_cV (Y2 := Y_X9_noGate) (As := [.int p1]) (b := 436) (pc' := 5) (c1 := 0) (s1 := 0) 2 rfl rfl mf_X9_noGate rfl rfl ml_X9_307 mi_X9_noGate se_X9_noGate (ci := 8) rfl ly_436 (lay_lt ly_436 (by decide)) rfl (Nat.le_of_ble_eq_true rfl) ⟨Nat.le_of_ble_eq_true rfl, Nat.le_of_ble_eq_true rfl⟩ rfl rfl (ok_X9_noGate p1 I L h) ?_ ?_
  · intro e9 u9 hx9
    exact hx9.elim
  intro v9 u9 hv9
  obtain ⟨r2742, I2743, rfl, rfl, h⟩ := hv9
  refine ⟨fun q => absurd q (Nat.lt_irrefl _), ?_⟩
  show V G Y_X9_noTimes 5 _ (.int r2742 :: _) _ _ _ _ _
  refine v_if_ne (tgt := 50) (pc' := 8) 3 rfl rfl (by decide) (fun hc => ?_) (fun hc => ?_)
  · replace h := h.1 hc
    refine v_iconst (v := 1) (pc' := 51) 28 rfl rfl (by decide) ?_
    refine v_goto (tgt := 55) 29 rfl (by decide) ?_
    exact v_bret 31 rfl rfl (by decide) (by decide) (by decide) ⟨_, _, rfl, rfl, h⟩
  replace h := h.2 hc
  refine v_aload_n (pc' := 9) 4 0 rfl rfl rfl rfl ?_
  refine v_iload_n (pc' := 10) 5 2 rfl rfl rfl rfl ?_
  refine v_i2l (pc' := 11) 6 rfl rfl ?_
  refine v_lconst (v := 0) (pc' := 12) 7 rfl rfl (by decide) ?_
  refine v_aload_n (pc' := 13) 8 0 rfl rfl rfl rfl ?_
  refine v_getI (pc' := 16) 9 rfl rfl pf_X9_86 ly_436 (lay_lt ly_436 (by decide)) ?_
  refine v_i2l (pc' := 17) 10 rfl rfl ?_
  refine v_cS (Y2 := Y_X9_in) (As := [.long (p2.toInt64), .long 0, .long ((I2743 436 7).toInt64)]) (pc' := 20) (c1 := 0) (s1 := 0) 11 rfl rfl mf_X9_in rfl rfl ml_X9_232 ms_X9_in rfl (Nat.le_of_ble_eq_true rfl) ⟨Nat.le_of_ble_eq_true rfl, Nat.le_of_ble_eq_true rfl⟩ rfl rfl (ok_X9_in (p2.toInt64) (0 : Int64) ((I2743 436 7).toInt64) I2743 L h) ?_ ?_
  · intro e9 u9 hx9
    exact hx9.elim
  intro v9 u9 hv9
  obtain ⟨r2744, rfl, rfl, h⟩ := hv9
  refine ⟨fun q => absurd q (Nat.lt_irrefl _), ?_⟩
  show V G Y_X9_noTimes 20 _ (.int r2744 :: _) _ _ _ _ _
  refine v_if_eq (tgt := 42) (pc' := 23) 12 rfl rfl (by decide) (fun hc => ?_) (fun hc => ?_)
  · replace h := h.1 hc
    refine V.sub [] rfl ?_
    exact b_X9_noTimes_42 I2743 L Q h
  replace h := h.2 hc
  refine v_iload_n (pc' := 24) 13 3 rfl rfl rfl rfl ?_
  refine v_i2l (pc' := 25) 14 rfl rfl ?_
  refine v_iload_n (pc' := 26) 15 2 rfl rfl rfl rfl ?_
  refine v_i2l (pc' := 27) 16 rfl rfl ?_
  refine v_aload_n (pc' := 28) 17 0 rfl rfl rfl rfl ?_
  refine v_getI (pc' := 31) 18 rfl rfl pf_X9_86 ly_436 (lay_lt ly_436 (by decide)) ?_
  refine v_i2l (pc' := 32) 19 rfl rfl ?_
  refine v_cS (Y2 := Y_X9_in) (As := [.long (p3.toInt64), .long (p2.toInt64), .long ((I2743 436 7).toInt64)]) (pc' := 35) (c1 := 0) (s1 := 0) 20 rfl rfl mf_X9_in rfl rfl ml_X9_232 ms_X9_in rfl (Nat.le_of_ble_eq_true rfl) ⟨Nat.le_of_ble_eq_true rfl, Nat.le_of_ble_eq_true rfl⟩ rfl rfl (ok_X9_in (p3.toInt64) (p2.toInt64) ((I2743 436 7).toInt64) I2743 L h) ?_ ?_
  · intro e9 u9 hx9
    exact hx9.elim
  intro v9 u9 hv9
  obtain ⟨r2745, rfl, rfl, h⟩ := hv9
  refine ⟨fun q => absurd q (Nat.lt_irrefl _), ?_⟩
  show V G Y_X9_noTimes 35 _ (.int r2745 :: _) _ _ _ _ _
  refine v_if_eq (tgt := 42) (pc' := 38) 21 rfl rfl (by decide) (fun hc => ?_) (fun hc => ?_)
  · replace h := h.1 hc
    refine V.sub [] rfl ?_
    exact b_X9_noTimes_42 I2743 L Q h
  replace h := h.2 hc
  refine v_iconst (v := 1) (pc' := 39) 22 rfl rfl (by decide) ?_
  refine v_goto (tgt := 43) 23 rfl (by decide) ?_
  refine V.sub [] rfl ?_
  exact b_X9_noTimes_43 (1 : Int32) I2743 L Q h
set_option maxHeartbeats 4000000 in
set_option maxRecDepth 100000 in
theorem ok_X9_cost {G : GT} {b d t : Nat} (p1 : Int32) (p2 : Int32) (p3 : Int32) (I : TI) (L : TL)  {Q : Int32 → TI → Prop} (h : W_X9_cost p1 p2 p3 I L Q) : MW G Y_X9_cost [.ref 436, .int p1, .int p2, .int p3] (I, L, RT b d t, 457) (fun v9 u9 => ∃ (r9 : Int32) (I9 : TI), v9 = some (.int r9) ∧ u9 = (I9, L, RT b d t, 457) ∧ Q r9 I9) (fun _ _ => False) := by
  unfold W_X9_cost at h
  refine MW.intro rfl (by decide) is_X9_cost (Nat.le_of_ble_eq_true rfl) ?_
  show V G Y_X9_cost 0 [(0, .ref 436), (1, .int p1), (2, .int p2), (3, .int p3)] [] (I, L, RT b d t, 457) 0 0 _ _
  refine v_aload_n (pc' := 1) 0 0 rfl rfl rfl rfl ?_
  refine v_iload_n (pc' := 2) 1 1 rfl rfl rfl rfl ?_
  refine v_iload_n (pc' := 3) 2 2 rfl rfl rfl rfl ?_
  refine v_iload_n (pc' := 4) 3 3 rfl rfl rfl rfl ?_
  refine v_cV (Y2 := Y_X9_noTimes) (As := [.int p1, .int p2, .int p3]) (b := 436) (pc' := 7) (c1 := 0) (s1 := 0) 4 rfl rfl mf_X9_noTimes rfl rfl ml_X9_361 mi_X9_noTimes se_X9_noTimes (ci := 8) rfl ly_436 (lay_lt ly_436 (by decide)) rfl (Nat.le_of_ble_eq_true rfl) ⟨Nat.le_of_ble_eq_true rfl, Nat.le_of_ble_eq_true rfl⟩ rfl rfl (ok_X9_noTimes p1 p2 p3 I L h) ?_ ?_
  · intro e9 u9 hx9
    exact hx9.elim
  intro v9 u9 hv9
  obtain ⟨r2749, I2750, rfl, rfl, h⟩ := hv9
  refine ⟨fun q => absurd q (Nat.lt_irrefl _), ?_⟩
  show V G Y_X9_cost 7 _ (.int r2749 :: _) _ _ _ _ _
  refine v_if_eq (tgt := 14) (pc' := 10) 5 rfl rfl (by decide) (fun hc => ?_) (fun hc => ?_)
  · replace h := h.1 hc
    refine v_aload_n (pc' := 15) 8 0 rfl rfl rfl rfl ?_
    refine v_iload_n (pc' := 16) 9 1 rfl rfl rfl rfl ?_
    refine v_iload_n (pc' := 17) 10 2 rfl rfl rfl rfl ?_
    refine v_iload_n (pc' := 18) 11 3 rfl rfl rfl rfl ?_
    refine v_cV (Y2 := Y_X9_costOf) (As := [.int p1, .int p2, .int p3]) (b := 436) (pc' := 21) (c1 := 0) (s1 := 0) 12 rfl rfl mf_X9_costOf rfl rfl ml_X9_339 mi_X9_costOf se_X9_costOf (ci := 8) rfl ly_436 (lay_lt ly_436 (by decide)) rfl (Nat.le_of_ble_eq_true rfl) ⟨Nat.le_of_ble_eq_true rfl, Nat.le_of_ble_eq_true rfl⟩ rfl rfl (ok_X9_costOf p1 p2 p3 I2750 L h) ?_ ?_
    · intro e9 u9 hx9
      exact hx9.elim
    intro v9 u9 hv9
    obtain ⟨r2751, rfl, rfl, h⟩ := hv9
    refine ⟨fun q => absurd q (Nat.lt_irrefl _), ?_⟩
    show V G Y_X9_cost 21 _ (.int r2751 :: _) _ _ _ _ _
    exact v_iret 13 rfl rfl (by decide) (by decide) ⟨_, _, rfl, rfl, h⟩
  replace h := h.2 hc
  refine v_iconst (v := 0) (pc' := 11) 6 rfl rfl (by decide) ?_
  refine v_goto (tgt := 21) 7 rfl (by decide) ?_
  exact v_iret 13 rfl rfl (by decide) (by decide) ⟨_, _, rfl, rfl, h⟩
set_option maxHeartbeats 4000000 in
set_option maxRecDepth 100000 in
theorem ok_X9_wrongBehind {G : GT} {b d t : Nat} (p1 : Int32) (p2 : Int32) (p3 : Int32) (I : TI) (L : TL)  {Q : Int32 → TL → Prop} (h : W_X9_wrongBehind p1 p2 p3 I L Q) : MW G Y_X9_wrongBehind [.ref 436, .int p1, .int p2, .int p3] (I, L, RT b d t, 457) (fun v9 u9 => ∃ (r9 : Int32) (L9 : TL), v9 = some (.int r9) ∧ u9 = (I, L9, RT b d t, 457) ∧ Q r9 L9) (fun _ _ => False) := by
  unfold W_X9_wrongBehind at h
  refine MW.intro rfl (by decide) is_X9_wrongBehind (Nat.le_of_ble_eq_true rfl) ?_
  show V G Y_X9_wrongBehind 0 [(0, .ref 436), (1, .int p1), (2, .int p2), (3, .int p3)] [] (I, L, RT b d t, 457) 0 0 _ _
  refine v_aload_n (pc' := 1) 0 0 rfl rfl rfl rfl ?_
  refine v_getR (t := 437) (pc' := 4) 1 rfl rfl pf_X9_7 ly_436 (lay_lt ly_436 (by decide)) rt_436_1 ?_
  refine v_bipush (v := 9) (pc' := 6) 2 rfl rfl (by decide) ?_
  refine v_iload_n (pc' := 7) 3 1 rfl rfl rfl rfl ?_
  refine v_iadd (pc' := 8) 4 rfl rfl ?_
  refine v_aload_n (pc' := 9) 5 0 rfl rfl rfl rfl ?_
  refine v_getI (pc' := 12) 6 rfl rfl pf_X9_77 ly_436 (lay_lt ly_436 (by decide)) ?_
  refine v_isub (pc' := 13) 7 rfl rfl ?_
  obtain ⟨hi2759, h⟩ := h
  refine v_lald (i := (((9 : Int32) + p1) - (I 436 10))) (j := (((9 : Int32) + p1) - (I 436 10)).toNatClampNeg) (pc' := 14) 8 rfl rfl ly_437 ln_437 (lay_lt ly_437 (by decide)) hi2759 rfl ?_
  refine nm_J (e := (L 437 ((((9 : Int32) + p1) - (I 436 10)).toNatClampNeg))) (fun x2760 hx2760 => ?_)
  replace h := h x2760 hx2760
  refine v_lstore (ls' := [(4, .long x2760), (0, .ref 436), (1, .int p1), (2, .int p2), (3, .int p3)]) (pc' := 16) 9 rfl rfl (by decide) rfl ?_
  refine v_aload_n (pc' := 17) 10 1 rfl rfl rfl rfl ?_
  refine v_getR (t := 437) (pc' := 20) 11 rfl rfl pf_X9_7 ly_436 (lay_lt ly_436 (by decide)) rt_436_1 ?_
  refine v_bipush (v := 9) (pc' := 22) 12 rfl rfl (by decide) ?_
  refine v_iload_n (pc' := 23) 13 2 rfl rfl rfl rfl ?_
  refine v_iadd (pc' := 24) 14 rfl rfl ?_
  refine v_aload_n (pc' := 25) 15 1 rfl rfl rfl rfl ?_
  refine v_getI (pc' := 28) 16 rfl rfl pf_X9_77 ly_436 (lay_lt ly_436 (by decide)) ?_
  refine v_isub (pc' := 29) 17 rfl rfl ?_
  refine v_lload (pc' := 31) 18 0 rfl rfl rfl ?_
  refine v_iload_n (pc' := 32) 19 3 rfl rfl rfl rfl ?_
  refine v_iload_n (pc' := 33) 20 4 rfl rfl rfl rfl ?_
  refine v_cS (Y2 := Y_X9_times) (As := [.int p2, .int p3]) (pc' := 36) (c1 := 0) (s1 := 0) 21 rfl rfl mf_X9_times rfl rfl ml_X9_107 ms_X9_times rfl (Nat.le_of_ble_eq_true rfl) ⟨Nat.le_of_ble_eq_true rfl, Nat.le_of_ble_eq_true rfl⟩ rfl rfl (ok_X9_times p2 p3 I L h) ?_ ?_
  · intro e9 u9 hx9
    exact hx9.elim
  intro v9 u9 hv9
  obtain ⟨r2761, rfl, rfl, h⟩ := hv9
  refine ⟨fun q => absurd q (Nat.lt_irrefl _), ?_⟩
  show V G Y_X9_wrongBehind 36 _ (.long r2761 :: _) _ _ _ _ _
  refine v_lor (pc' := 37) 22 rfl rfl ?_
  obtain ⟨hi2762, h⟩ := h
  refine v_last (i := (((9 : Int32) + p1) - (I 436 10))) (j := (((9 : Int32) + p1) - (I 436 10)).toNatClampNeg) (pc' := 38) 23 rfl rfl ly_437 ln_437 (lay_lt ly_437 (by decide)) hi2762 rfl ?_
  refine nm_N (e := (up2 L 437 ((((9 : Int32) + p1) - (I 436 10)).toNatClampNeg) (x2760 ||| r2761))) (fun L2763 hL2763 => ?_)
  replace h := h L2763 hL2763
  refine v_aload_n (pc' := 39) 24 1 rfl rfl rfl rfl ?_
  refine v_cV (Y2 := Y_X9_waves) (As := []) (b := 436) (pc' := 42) (c1 := 0) (s1 := 0) 25 rfl rfl mf_X9_waves rfl rfl ml_X9_302 mi_X9_waves se_X9_waves (ci := 8) rfl ly_436 (lay_lt ly_436 (by decide)) rfl (Nat.le_of_ble_eq_true rfl) ⟨Nat.le_of_ble_eq_true rfl, Nat.le_of_ble_eq_true rfl⟩ rfl rfl (ok_X9_waves I L2763 h) ?_ ?_
  · intro e9 u9 hx9
    exact hx9.elim
  intro v9 u9 hv9
  obtain ⟨L2764, rfl, rfl, h⟩ := hv9
  refine ⟨fun q => absurd q (Nat.lt_irrefl _), ?_⟩
  show V G Y_X9_wrongBehind 42 _ _ _ _ _ _ _
  refine v_aload_n (pc' := 43) 26 1 rfl rfl rfl rfl ?_
  refine v_cV (Y2 := Y_X9_wrongs) (As := []) (b := 436) (pc' := 46) (c1 := 0) (s1 := 0) 27 rfl rfl mf_X9_wrongs rfl rfl ml_X9_325 mi_X9_wrongs se_X9_wrongs (ci := 8) rfl ly_436 (lay_lt ly_436 (by decide)) rfl (Nat.le_of_ble_eq_true rfl) ⟨Nat.le_of_ble_eq_true rfl, Nat.le_of_ble_eq_true rfl⟩ rfl rfl (ok_X9_wrongs I L2764 h) ?_ ?_
  · intro e9 u9 hx9
    exact hx9.elim
  intro v9 u9 hv9
  obtain ⟨r2765, rfl, rfl, h⟩ := hv9
  refine ⟨fun q => absurd q (Nat.lt_irrefl _), ?_⟩
  show V G Y_X9_wrongBehind 46 _ (.int r2765 :: _) _ _ _ _ _
  refine v_istore (ls' := [(6, .int r2765), (4, .long x2760), (0, .ref 436), (1, .int p1), (2, .int p2), (3, .int p3)]) (pc' := 48) 28 rfl rfl (by decide) rfl ?_
  refine v_aload_n (pc' := 49) 29 2 rfl rfl rfl rfl ?_
  refine v_getR (t := 437) (pc' := 52) 30 rfl rfl pf_X9_7 ly_436 (lay_lt ly_436 (by decide)) rt_436_1 ?_
  refine v_bipush (v := 9) (pc' := 54) 31 rfl rfl (by decide) ?_
  refine v_iload_n (pc' := 55) 32 3 rfl rfl rfl rfl ?_
  refine v_iadd (pc' := 56) 33 rfl rfl ?_
  refine v_aload_n (pc' := 57) 34 2 rfl rfl rfl rfl ?_
  refine v_getI (pc' := 60) 35 rfl rfl pf_X9_77 ly_436 (lay_lt ly_436 (by decide)) ?_
  refine v_isub (pc' := 61) 36 rfl rfl ?_
  refine v_lload (pc' := 63) 37 1 rfl rfl rfl ?_
  obtain ⟨hi2766, h⟩ := h
  refine v_last (i := (((9 : Int32) + p1) - (I 436 10))) (j := (((9 : Int32) + p1) - (I 436 10)).toNatClampNeg) (pc' := 64) 38 rfl rfl ly_437 ln_437 (lay_lt ly_437 (by decide)) hi2766 rfl ?_
  refine nm_N (e := (up2 L2764 437 ((((9 : Int32) + p1) - (I 436 10)).toNatClampNeg) x2760)) (fun L2767 hL2767 => ?_)
  replace h := h L2767 hL2767
  refine v_aload_n (pc' := 65) 39 2 rfl rfl rfl rfl ?_
  refine v_cV (Y2 := Y_X9_waves) (As := []) (b := 436) (pc' := 68) (c1 := 0) (s1 := 0) 40 rfl rfl mf_X9_waves rfl rfl ml_X9_302 mi_X9_waves se_X9_waves (ci := 8) rfl ly_436 (lay_lt ly_436 (by decide)) rfl (Nat.le_of_ble_eq_true rfl) ⟨Nat.le_of_ble_eq_true rfl, Nat.le_of_ble_eq_true rfl⟩ rfl rfl (ok_X9_waves I L2767 h) ?_ ?_
  · intro e9 u9 hx9
    exact hx9.elim
  intro v9 u9 hv9
  obtain ⟨L2768, rfl, rfl, h⟩ := hv9
  refine ⟨fun q => absurd q (Nat.lt_irrefl _), ?_⟩
  show V G Y_X9_wrongBehind 68 _ _ _ _ _ _ _
  refine v_iload (pc' := 70) 41 0 rfl rfl rfl ?_
  exact v_iret 42 rfl rfl (by decide) (by decide) ⟨_, _, rfl, rfl, h⟩
set_option maxHeartbeats 4000000 in
set_option maxRecDepth 100000 in
theorem ok_X9_gain {G : GT} {b d t : Nat} (p1 : Int32) (p2 : Int32) (p3 : Int32) (I : TI) (L : TL)  {Q : Int32 → TI → TL → Prop} (h : W_X9_gain p1 p2 p3 I L Q) : MW G Y_X9_gain [.ref 436, .int p1, .int p2, .int p3] (I, L, RT b d t, 457) (fun v9 u9 => ∃ (r9 : Int32) (I9 : TI) (L9 : TL), v9 = some (.int r9) ∧ u9 = (I9, L9, RT b d t, 457) ∧ Q r9 I9 L9) (fun _ _ => False) := by
  unfold W_X9_gain at h
  refine MW.intro rfl (by decide) is_X9_gain (Nat.le_of_ble_eq_true rfl) ?_
  show V G Y_X9_gain 0 [(0, .ref 436), (1, .int p1), (2, .int p2), (3, .int p3)] [] (I, L, RT b d t, 457) 0 0 _ _
  refine v_aload_n (pc' := 1) 0 0 rfl rfl rfl rfl ?_
  refine v_iload_n (pc' := 2) 1 1 rfl rfl rfl rfl ?_
  refine v_iload_n (pc' := 3) 2 2 rfl rfl rfl rfl ?_
  refine v_iload_n (pc' := 4) 3 3 rfl rfl rfl rfl ?_
  refine v_cV (Y2 := Y_X9_noTimes) (As := [.int p1, .int p2, .int p3]) (b := 436) (pc' := 7) (c1 := 0) (s1 := 0) 4 rfl rfl mf_X9_noTimes rfl rfl ml_X9_361 mi_X9_noTimes se_X9_noTimes (ci := 8) rfl ly_436 (lay_lt ly_436 (by decide)) rfl (Nat.le_of_ble_eq_true rfl) ⟨Nat.le_of_ble_eq_true rfl, Nat.le_of_ble_eq_true rfl⟩ rfl rfl (ok_X9_noTimes p1 p2 p3 I L h) ?_ ?_
  · intro e9 u9 hx9
    exact hx9.elim
  intro v9 u9 hv9
  obtain ⟨r2775, I2776, rfl, rfl, h⟩ := hv9
  refine ⟨fun q => absurd q (Nat.lt_irrefl _), ?_⟩
  show V G Y_X9_gain 7 _ (.int r2775 :: _) _ _ _ _ _
  refine v_if_eq (tgt := 12) (pc' := 10) 5 rfl rfl (by decide) (fun hc => ?_) (fun hc => ?_)
  · replace h := h.1 hc
    refine v_aload_n (pc' := 13) 8 0 rfl rfl rfl rfl ?_
    refine v_cV (Y2 := Y_X9_waves) (As := []) (b := 436) (pc' := 16) (c1 := 0) (s1 := 0) 9 rfl rfl mf_X9_waves rfl rfl ml_X9_302 mi_X9_waves se_X9_waves (ci := 8) rfl ly_436 (lay_lt ly_436 (by decide)) rfl (Nat.le_of_ble_eq_true rfl) ⟨Nat.le_of_ble_eq_true rfl, Nat.le_of_ble_eq_true rfl⟩ rfl rfl (ok_X9_waves I2776 L h) ?_ ?_
    · intro e9 u9 hx9
      exact hx9.elim
    intro v9 u9 hv9
    obtain ⟨L2777, rfl, rfl, h⟩ := hv9
    refine ⟨fun q => absurd q (Nat.lt_irrefl _), ?_⟩
    show V G Y_X9_gain 16 _ _ _ _ _ _ _
    refine v_aload_n (pc' := 17) 10 0 rfl rfl rfl rfl ?_
    refine v_cV (Y2 := Y_X9_wrongs) (As := []) (b := 436) (pc' := 20) (c1 := 0) (s1 := 0) 11 rfl rfl mf_X9_wrongs rfl rfl ml_X9_325 mi_X9_wrongs se_X9_wrongs (ci := 8) rfl ly_436 (lay_lt ly_436 (by decide)) rfl (Nat.le_of_ble_eq_true rfl) ⟨Nat.le_of_ble_eq_true rfl, Nat.le_of_ble_eq_true rfl⟩ rfl rfl (ok_X9_wrongs I2776 L2777 h) ?_ ?_
    · intro e9 u9 hx9
      exact hx9.elim
    intro v9 u9 hv9
    obtain ⟨r2778, rfl, rfl, h⟩ := hv9
    refine ⟨fun q => absurd q (Nat.lt_irrefl _), ?_⟩
    show V G Y_X9_gain 20 _ (.int r2778 :: _) _ _ _ _ _
    refine v_istore (ls' := [(4, .int r2778), (0, .ref 436), (1, .int p1), (2, .int p2), (3, .int p3)]) (pc' := 22) 12 rfl rfl (by decide) rfl ?_
    refine v_iload (pc' := 24) 13 0 rfl rfl rfl ?_
    refine v_aload_n (pc' := 25) 14 1 rfl rfl rfl rfl ?_
    refine v_iload_n (pc' := 26) 15 2 rfl rfl rfl rfl ?_
    refine v_iload_n (pc' := 27) 16 3 rfl rfl rfl rfl ?_
    refine v_iload_n (pc' := 28) 17 4 rfl rfl rfl rfl ?_
    refine v_cV (Y2 := Y_X9_wrongBehind) (As := [.int p1, .int p2, .int p3]) (b := 436) (pc' := 31) (c1 := 0) (s1 := 0) 18 rfl rfl mf_X9_wrongBehind rfl rfl ml_X9_364 mi_X9_wrongBehind se_X9_wrongBehind (ci := 8) rfl ly_436 (lay_lt ly_436 (by decide)) rfl (Nat.le_of_ble_eq_true rfl) ⟨Nat.le_of_ble_eq_true rfl, Nat.le_of_ble_eq_true rfl⟩ rfl rfl (ok_X9_wrongBehind p1 p2 p3 I2776 L2777 h) ?_ ?_
    · intro e9 u9 hx9
      exact hx9.elim
    intro v9 u9 hv9
    obtain ⟨r2779, L2780, rfl, rfl, h⟩ := hv9
    refine ⟨fun q => absurd q (Nat.lt_irrefl _), ?_⟩
    show V G Y_X9_gain 31 _ (.int r2779 :: _) _ _ _ _ _
    refine v_isub (pc' := 32) 19 rfl rfl ?_
    exact v_iret 20 rfl rfl (by decide) (by decide) ⟨_, _, _, rfl, rfl, h⟩
  replace h := h.2 hc
  refine v_iconst (v := 0) (pc' := 11) 6 rfl rfl (by decide) ?_
  exact v_iret 7 rfl rfl (by decide) (by decide) ⟨_, _, _, rfl, rfl, h⟩
set_option maxHeartbeats 4000000 in
set_option maxRecDepth 100000 in
theorem b_X9_bestReplay_152 {G : GT} {b d t : Nat} (v1 : Int32) (v2 : Int32) (v3 : Int32) (v4 : Int32) (v5 : Int32) (I : TI) (L : TL)  (Q : Int32 → TI → TL → Prop) (R24 : Int32 → Int32 → Int32 → Int32 → TI → TL → Prop) (R36 : Int32 → Int32 → Int32 → Int32 → TI → TL → Prop) (hR24 : ∀ (v1 : Int32) (v2 : Int32) (v3 : Int32) (v4 : Int32) (I : TI) (L : TL), R24 v1 v2 v3 v4 I L → V G Y_X9_bestReplay 24 [(0, .ref 436), (1, .int v1), (2, .int v2), (3, .int v3), (4, .int v4)] [] (I, L, RT b d t, 457) 0 0 (fun v9 u9 => ∃ (r9 : Int32) (I9 : TI) (L9 : TL), v9 = some (.int r9) ∧ u9 = (I9, L9, RT b d t, 457) ∧ Q r9 I9 L9) (fun _ _ => False)) (hR36 : ∀ (v1 : Int32) (v2 : Int32) (v3 : Int32) (v5 : Int32) (I : TI) (L : TL), R36 v1 v2 v3 v5 I L → V G Y_X9_bestReplay 36 [(0, .ref 436), (1, .int v1), (2, .int v2), (3, .int v3), (4, .int v4), (5, .int v5)] [] (I, L, RT b d t, 457) 0 0 (fun v9 u9 => ∃ (r9 : Int32) (I9 : TI) (L9 : TL), v9 = some (.int r9) ∧ u9 = (I9, L9, RT b d t, 457) ∧ Q r9 I9 L9) (fun _ _ => False)) (h : B_X9_bestReplay_152 v1 v2 v3 v4 v5 I L Q R24 R36) : V G Y_X9_bestReplay 152 [(0, .ref 436), (1, .int v1), (2, .int v2), (3, .int v3), (4, .int v4), (5, .int v5)] [] (I, L, RT b d t, 457) 0 0 (fun v9 u9 => ∃ (r9 : Int32) (I9 : TI) (L9 : TL), v9 = some (.int r9) ∧ u9 = (I9, L9, RT b d t, 457) ∧ Q r9 I9 L9) (fun _ _ => False) := by
  unfold B_X9_bestReplay_152 at h
  refine v_iinc (v := (v5 + 1)) (ls' := [(5, .int (v5 + 1)), (0, .ref 436), (1, .int v1), (2, .int v2), (3, .int v3), (4, .int v4)]) (pc' := 155) 82 5 rfl rfl rfl rfl (by decide) rfl ?_
  refine v_goto (tgt := 36) 83 rfl (by decide) ?_
  refine V.sub [1, 2, 3, 4, 5, 0] rfl ?_
  exact hR36 v1 v2 v3 (v5 + 1) I L h
set_option maxHeartbeats 4000000 in
set_option maxRecDepth 100000 in
theorem b_X9_bestReplay_127 {G : GT} {b d t : Nat} (v1 : Int32) (v2 : Int32) (v3 : Int32) (v4 : Int32) (v5 : Int32) (v8 : Int32) (v9 : Int32) (s0 : Int32) (I : TI) (L : TL)  (Q : Int32 → TI → TL → Prop) (R24 : Int32 → Int32 → Int32 → Int32 → TI → TL → Prop) (R36 : Int32 → Int32 → Int32 → Int32 → TI → TL → Prop) (hR24 : ∀ (v1 : Int32) (v2 : Int32) (v3 : Int32) (v4 : Int32) (I : TI) (L : TL), R24 v1 v2 v3 v4 I L → V G Y_X9_bestReplay 24 [(0, .ref 436), (1, .int v1), (2, .int v2), (3, .int v3), (4, .int v4)] [] (I, L, RT b d t, 457) 0 0 (fun v9 u9 => ∃ (r9 : Int32) (I9 : TI) (L9 : TL), v9 = some (.int r9) ∧ u9 = (I9, L9, RT b d t, 457) ∧ Q r9 I9 L9) (fun _ _ => False)) (hR36 : ∀ (v1 : Int32) (v2 : Int32) (v3 : Int32) (v5 : Int32) (I : TI) (L : TL), R36 v1 v2 v3 v5 I L → V G Y_X9_bestReplay 36 [(0, .ref 436), (1, .int v1), (2, .int v2), (3, .int v3), (4, .int v4), (5, .int v5)] [] (I, L, RT b d t, 457) 0 0 (fun v9 u9 => ∃ (r9 : Int32) (I9 : TI) (L9 : TL), v9 = some (.int r9) ∧ u9 = (I9, L9, RT b d t, 457) ∧ Q r9 I9 L9) (fun _ _ => False)) (h : B_X9_bestReplay_127 v1 v2 v3 v4 v5 v8 v9 s0 I L Q R24 R36) : V G Y_X9_bestReplay 127 [(0, .ref 436), (1, .int v1), (2, .int v2), (3, .int v3), (4, .int v4), (5, .int v5), (8, .int v8), (9, .int v9)] [.int s0] (I, L, RT b d t, 457) 0 0 (fun v9 u9 => ∃ (r9 : Int32) (I9 : TI) (L9 : TL), v9 = some (.int r9) ∧ u9 = (I9, L9, RT b d t, 457) ∧ Q r9 I9 L9) (fun _ _ => False) := by
  unfold B_X9_bestReplay_127 at h
  refine v_istore (ls' := [(10, .int s0), (0, .ref 436), (1, .int v1), (2, .int v2), (3, .int v3), (4, .int v4), (5, .int v5), (8, .int v8), (9, .int v9)]) (pc' := 129) 68 rfl rfl (by decide) rfl ?_
  refine v_iload (pc' := 131) 69 0 rfl rfl rfl ?_
  refine v_if_ne (tgt := 137) (pc' := 134) 70 rfl rfl (by decide) (fun hc => ?_) (fun hc => ?_)
  · replace h := h.1 hc
    refine v_bipush (v := 100) (pc' := 139) 72 rfl rfl (by decide) ?_
    refine v_iload (pc' := 141) 73 5 rfl rfl rfl ?_
    refine v_imul (pc' := 142) 74 rfl rfl ?_
    refine v_iload (pc' := 144) 75 6 rfl rfl rfl ?_
    refine v_iadd (pc' := 145) 76 rfl rfl ?_
    refine v_istore_n (ls' := [(1, .int (((100 : Int32) * v4) + v5)), (10, .int s0), (0, .ref 436), (2, .int v2), (3, .int v3), (4, .int v4), (5, .int v5), (8, .int v8), (9, .int v9)]) (pc' := 146) 77 rfl rfl rfl (by decide) rfl ?_
    refine v_iload (pc' := 148) 78 8 rfl rfl rfl ?_
    refine v_istore_n (ls' := [(2, .int v9), (1, .int (((100 : Int32) * v4) + v5)), (10, .int s0), (0, .ref 436), (3, .int v3), (4, .int v4), (5, .int v5), (8, .int v8), (9, .int v9)]) (pc' := 149) 79 rfl rfl rfl (by decide) rfl ?_
    refine v_iload (pc' := 151) 80 7 rfl rfl rfl ?_
    refine v_istore_n (ls' := [(3, .int v8), (2, .int v9), (1, .int (((100 : Int32) * v4) + v5)), (10, .int s0), (0, .ref 436), (4, .int v4), (5, .int v5), (8, .int v8), (9, .int v9)]) (pc' := 152) 81 rfl rfl rfl (by decide) rfl ?_
    refine V.sub [4, 2, 1, 0, 5, 6] rfl ?_
    exact b_X9_bestReplay_152 (((100 : Int32) * v4) + v5) v9 v8 v4 v5 I L Q R24 R36 hR24 hR36 h
  replace h := h.2 hc
  refine v_goto (tgt := 152) 71 rfl (by decide) ?_
  refine V.sub [1, 2, 3, 4, 5, 6] rfl ?_
  exact b_X9_bestReplay_152 v1 v2 v3 v4 v5 I L Q R24 R36 hR24 hR36 h
set_option maxHeartbeats 4000000 in
set_option maxRecDepth 100000 in
theorem b_X9_bestReplay_126 {G : GT} {b d t : Nat} (v1 : Int32) (v2 : Int32) (v3 : Int32) (v4 : Int32) (v5 : Int32) (v8 : Int32) (v9 : Int32) (I : TI) (L : TL)  (Q : Int32 → TI → TL → Prop) (R24 : Int32 → Int32 → Int32 → Int32 → TI → TL → Prop) (R36 : Int32 → Int32 → Int32 → Int32 → TI → TL → Prop) (hR24 : ∀ (v1 : Int32) (v2 : Int32) (v3 : Int32) (v4 : Int32) (I : TI) (L : TL), R24 v1 v2 v3 v4 I L → V G Y_X9_bestReplay 24 [(0, .ref 436), (1, .int v1), (2, .int v2), (3, .int v3), (4, .int v4)] [] (I, L, RT b d t, 457) 0 0 (fun v9 u9 => ∃ (r9 : Int32) (I9 : TI) (L9 : TL), v9 = some (.int r9) ∧ u9 = (I9, L9, RT b d t, 457) ∧ Q r9 I9 L9) (fun _ _ => False)) (hR36 : ∀ (v1 : Int32) (v2 : Int32) (v3 : Int32) (v5 : Int32) (I : TI) (L : TL), R36 v1 v2 v3 v5 I L → V G Y_X9_bestReplay 36 [(0, .ref 436), (1, .int v1), (2, .int v2), (3, .int v3), (4, .int v4), (5, .int v5)] [] (I, L, RT b d t, 457) 0 0 (fun v9 u9 => ∃ (r9 : Int32) (I9 : TI) (L9 : TL), v9 = some (.int r9) ∧ u9 = (I9, L9, RT b d t, 457) ∧ Q r9 I9 L9) (fun _ _ => False)) (h : B_X9_bestReplay_126 v1 v2 v3 v4 v5 v8 v9 I L Q R24 R36) : V G Y_X9_bestReplay 126 [(0, .ref 436), (1, .int v1), (2, .int v2), (3, .int v3), (4, .int v4), (5, .int v5), (8, .int v8), (9, .int v9)] [] (I, L, RT b d t, 457) 0 0 (fun v9 u9 => ∃ (r9 : Int32) (I9 : TI) (L9 : TL), v9 = some (.int r9) ∧ u9 = (I9, L9, RT b d t, 457) ∧ Q r9 I9 L9) (fun _ _ => False) := by
  unfold B_X9_bestReplay_126 at h
  refine v_iconst (v := 0) (pc' := 127) 67 rfl rfl (by decide) ?_
  exact b_X9_bestReplay_127 v1 v2 v3 v4 v5 v8 v9 (0 : Int32) I L Q R24 R36 hR24 hR36 h
set_option maxHeartbeats 4000000 in
set_option maxRecDepth 100000 in
theorem b_X9_bestReplay_122 {G : GT} {b d t : Nat} (v1 : Int32) (v2 : Int32) (v3 : Int32) (v4 : Int32) (v5 : Int32) (v8 : Int32) (v9 : Int32) (I : TI) (L : TL)  (Q : Int32 → TI → TL → Prop) (R24 : Int32 → Int32 → Int32 → Int32 → TI → TL → Prop) (R36 : Int32 → Int32 → Int32 → Int32 → TI → TL → Prop) (hR24 : ∀ (v1 : Int32) (v2 : Int32) (v3 : Int32) (v4 : Int32) (I : TI) (L : TL), R24 v1 v2 v3 v4 I L → V G Y_X9_bestReplay 24 [(0, .ref 436), (1, .int v1), (2, .int v2), (3, .int v3), (4, .int v4)] [] (I, L, RT b d t, 457) 0 0 (fun v9 u9 => ∃ (r9 : Int32) (I9 : TI) (L9 : TL), v9 = some (.int r9) ∧ u9 = (I9, L9, RT b d t, 457) ∧ Q r9 I9 L9) (fun _ _ => False)) (hR36 : ∀ (v1 : Int32) (v2 : Int32) (v3 : Int32) (v5 : Int32) (I : TI) (L : TL), R36 v1 v2 v3 v5 I L → V G Y_X9_bestReplay 36 [(0, .ref 436), (1, .int v1), (2, .int v2), (3, .int v3), (4, .int v4), (5, .int v5)] [] (I, L, RT b d t, 457) 0 0 (fun v9 u9 => ∃ (r9 : Int32) (I9 : TI) (L9 : TL), v9 = some (.int r9) ∧ u9 = (I9, L9, RT b d t, 457) ∧ Q r9 I9 L9) (fun _ _ => False)) (h : B_X9_bestReplay_122 v1 v2 v3 v4 v5 v8 v9 I L Q R24 R36) : V G Y_X9_bestReplay 122 [(0, .ref 436), (1, .int v1), (2, .int v2), (3, .int v3), (4, .int v4), (5, .int v5), (8, .int v8), (9, .int v9)] [] (I, L, RT b d t, 457) 0 0 (fun v9 u9 => ∃ (r9 : Int32) (I9 : TI) (L9 : TL), v9 = some (.int r9) ∧ u9 = (I9, L9, RT b d t, 457) ∧ Q r9 I9 L9) (fun _ _ => False) := by
  unfold B_X9_bestReplay_122 at h
  refine v_iconst (v := 1) (pc' := 123) 65 rfl rfl (by decide) ?_
  refine v_goto (tgt := 127) 66 rfl (by decide) ?_
  exact b_X9_bestReplay_127 v1 v2 v3 v4 v5 v8 v9 (1 : Int32) I L Q R24 R36 hR24 hR36 h
set_option maxHeartbeats 4000000 in
set_option maxRecDepth 100000 in
theorem d_X9_bestReplay_36 {G : GT} {b d t : Nat} (v4 : Int32)  (Q : Int32 → TI → TL → Prop) (R24 : Int32 → Int32 → Int32 → Int32 → TI → TL → Prop) (R36 : Int32 → Int32 → Int32 → Int32 → TI → TL → Prop) (hR24 : ∀ (v1 : Int32) (v2 : Int32) (v3 : Int32) (v4 : Int32) (I : TI) (L : TL), R24 v1 v2 v3 v4 I L → V G Y_X9_bestReplay 24 [(0, .ref 436), (1, .int v1), (2, .int v2), (3, .int v3), (4, .int v4)] [] (I, L, RT b d t, 457) 0 0 (fun v9 u9 => ∃ (r9 : Int32) (I9 : TI) (L9 : TL), v9 = some (.int r9) ∧ u9 = (I9, L9, RT b d t, 457) ∧ Q r9 I9 L9) (fun _ _ => False)) (hR36 : ∀ (v1 : Int32) (v2 : Int32) (v3 : Int32) (v5 : Int32) (I : TI) (L : TL), R36 v1 v2 v3 v5 I L → V G Y_X9_bestReplay 36 [(0, .ref 436), (1, .int v1), (2, .int v2), (3, .int v3), (4, .int v4), (5, .int v5)] [] (I, L, RT b d t, 457) 0 0 (fun v9 u9 => ∃ (r9 : Int32) (I9 : TI) (L9 : TL), v9 = some (.int r9) ∧ u9 = (I9, L9, RT b d t, 457) ∧ Q r9 I9 L9) (fun _ _ => False)) (v1 : Int32) (v2 : Int32) (v3 : Int32) (v5 : Int32) (I : TI) (L : TL)  (h : D_X9_bestReplay_36 v4 Q R24 R36 v1 v2 v3 v5 I L) : V G Y_X9_bestReplay 36 [(0, .ref 436), (1, .int v1), (2, .int v2), (3, .int v3), (4, .int v4), (5, .int v5)] [] (I, L, RT b d t, 457) 0 0 (fun v9 u9 => ∃ (r9 : Int32) (I9 : TI) (L9 : TL), v9 = some (.int r9) ∧ u9 = (I9, L9, RT b d t, 457) ∧ Q r9 I9 L9) (fun _ _ => False) := by
  unfold D_X9_bestReplay_36 at h
  refine v_aload_n (pc' := 37) 21 0 rfl rfl rfl rfl ?_
  refine v_iload (pc' := 39) 22 4 rfl rfl rfl ?_
  refine v_iload (pc' := 41) 23 5 rfl rfl rfl ?_
  refine v_cV (Y2 := Y_X9_findsPulse) (As := [.int v4, .int v5]) (b := 436) (pc' := 44) (c1 := 0) (s1 := 0) 24 rfl rfl mf_X9_findsPulse rfl rfl ml_X9_157 mi_X9_findsPulse se_X9_findsPulse (ci := 8) rfl ly_436 (lay_lt ly_436 (by decide)) rfl (Nat.le_of_ble_eq_true rfl) ⟨Nat.le_of_ble_eq_true rfl, Nat.le_of_ble_eq_true rfl⟩ rfl rfl (ok_X9_findsPulse v4 v5 I L h) ?_ ?_
  · intro e9 u9 hx9
    exact hx9.elim
  intro v9 u9 hv9
  obtain ⟨r2808, I2809, rfl, rfl, h⟩ := hv9
  refine ⟨fun q => absurd q (Nat.lt_irrefl _), ?_⟩
  show V G Y_X9_bestReplay 44 _ (.int r2808 :: _) _ _ _ _ _
  refine v_if_eq (tgt := 158) (pc' := 47) 25 rfl rfl (by decide) (fun hc => ?_) (fun hc => ?_)
  · replace h := h.1 hc
    refine v_iinc (v := (v4 + 1)) (ls' := [(4, .int (v4 + 1)), (0, .ref 436), (1, .int v1), (2, .int v2), (3, .int v3), (5, .int v5)]) (pc' := 161) 84 4 rfl rfl rfl rfl (by decide) rfl ?_
    refine v_goto (tgt := 24) 85 rfl (by decide) ?_
    refine V.sub [1, 2, 3, 4, 0] rfl ?_
    exact hR24 v1 v2 v3 (v4 + 1) I2809 L h
  replace h := h.2 hc
  refine v_aload_n (pc' := 48) 26 0 rfl rfl rfl rfl ?_
  refine v_getI (pc' := 51) 27 rfl rfl pf_X9_151 ly_436 (lay_lt ly_436 (by decide)) ?_
  refine v_istore (ls' := [(6, .int (I2809 436 18)), (0, .ref 436), (1, .int v1), (2, .int v2), (3, .int v3), (4, .int v4), (5, .int v5)]) (pc' := 53) 28 rfl rfl (by decide) rfl ?_
  refine v_aload_n (pc' := 54) 29 1 rfl rfl rfl rfl ?_
  refine v_getI (pc' := 57) 30 rfl rfl pf_X9_154 ly_436 (lay_lt ly_436 (by decide)) ?_
  refine v_istore (ls' := [(7, .int (I2809 436 19)), (6, .int (I2809 436 18)), (0, .ref 436), (1, .int v1), (2, .int v2), (3, .int v3), (4, .int v4), (5, .int v5)]) (pc' := 59) 31 rfl rfl (by decide) rfl ?_
  refine v_aload_n (pc' := 60) 32 2 rfl rfl rfl rfl ?_
  refine v_iload (pc' := 62) 33 6 rfl rfl rfl ?_
  refine v_iload (pc' := 64) 34 1 rfl rfl rfl ?_
  refine v_iload (pc' := 66) 35 0 rfl rfl rfl ?_
  refine v_cV (Y2 := Y_X9_costOf) (As := [.int v4, .int (I2809 436 18), .int (I2809 436 19)]) (b := 436) (pc' := 69) (c1 := 0) (s1 := 0) 36 rfl rfl mf_X9_costOf rfl rfl ml_X9_339 mi_X9_costOf se_X9_costOf (ci := 8) rfl ly_436 (lay_lt ly_436 (by decide)) rfl (Nat.le_of_ble_eq_true rfl) ⟨Nat.le_of_ble_eq_true rfl, Nat.le_of_ble_eq_true rfl⟩ rfl rfl (ok_X9_costOf v4 (I2809 436 18) (I2809 436 19) I2809 L h) ?_ ?_
  · intro e9 u9 hx9
    exact hx9.elim
  intro v9 u9 hv9
  obtain ⟨r2810, rfl, rfl, h⟩ := hv9
  refine ⟨fun q => absurd q (Nat.lt_irrefl _), ?_⟩
  show V G Y_X9_bestReplay 69 _ (.int r2810 :: _) _ _ _ _ _
  refine v_istore (ls' := [(8, .int r2810), (7, .int (I2809 436 19)), (6, .int (I2809 436 18)), (0, .ref 436), (1, .int v1), (2, .int v2), (3, .int v3), (4, .int v4), (5, .int v5)]) (pc' := 71) 37 rfl rfl (by decide) rfl ?_
  refine v_iload (pc' := 73) 38 0 rfl rfl rfl ?_
  refine v_i2l (pc' := 74) 39 rfl rfl ?_
  refine v_aload_n (pc' := 75) 40 3 rfl rfl rfl rfl ?_
  refine v_getR (t := 437) (pc' := 78) 41 rfl rfl pf_X9_7 ly_436 (lay_lt ly_436 (by decide)) rt_436_1 ?_
  refine v_iconst (v := 3) (pc' := 79) 42 rfl rfl (by decide) ?_
  refine v_lald (i := 3) (j := 3) (pc' := 80) 43 rfl rfl ly_437 ln_437 (lay_lt ly_437 (by decide)) (vp_lit (by decide)) (by decide) ?_
  refine v_lc_le (tgt := 87) (pc' := 84) 44 45 rfl rfl rfl (by decide) (fun hc => ?_) (fun hc => ?_)
  · replace h := h.1 hc
    refine v_aload_n (pc' := 88) 47 3 rfl rfl rfl rfl ?_
    refine v_iload (pc' := 90) 48 7 rfl rfl rfl ?_
    refine v_iload (pc' := 92) 49 2 rfl rfl rfl ?_
    refine v_iload (pc' := 94) 50 1 rfl rfl rfl ?_
    refine v_cV (Y2 := Y_X9_wrongBehind) (As := [.int v4, .int (I2809 436 18), .int (I2809 436 19)]) (b := 436) (pc' := 97) (c1 := 0) (s1 := 0) 51 rfl rfl mf_X9_wrongBehind rfl rfl ml_X9_364 mi_X9_wrongBehind se_X9_wrongBehind (ci := 8) rfl ly_436 (lay_lt ly_436 (by decide)) rfl (Nat.le_of_ble_eq_true rfl) ⟨Nat.le_of_ble_eq_true rfl, Nat.le_of_ble_eq_true rfl⟩ rfl rfl (ok_X9_wrongBehind v4 (I2809 436 18) (I2809 436 19) I2809 L h) ?_ ?_
    · intro e9 u9 hx9
      exact hx9.elim
    intro v9 u9 hv9
    obtain ⟨r2811, L2812, rfl, rfl, h⟩ := hv9
    refine ⟨fun q => absurd q (Nat.lt_irrefl _), ?_⟩
    show V G Y_X9_bestReplay 97 _ (.int r2811 :: _) _ _ _ _ _
    refine v_istore (ls' := [(9, .int r2811), (8, .int r2810), (7, .int (I2809 436 19)), (6, .int (I2809 436 18)), (0, .ref 436), (1, .int v1), (2, .int v2), (3, .int v3), (4, .int v4), (5, .int v5)]) (pc' := 99) 52 rfl rfl (by decide) rfl ?_
    refine v_iload (pc' := 101) 53 0 rfl rfl rfl ?_
    refine v_iload_n (pc' := 102) 54 6 rfl rfl rfl rfl ?_
    refine v_icmp_lt (tgt := 122) (pc' := 105) 55 rfl rfl (by decide) (fun hc => ?_) (fun hc => ?_)
    · replace h := h.1 hc
      refine V.sub [4, 5, 6, 7, 8, 9, 1, 0] rfl ?_
      exact b_X9_bestReplay_122 v1 v2 v3 v4 v5 r2810 r2811 I2809 L2812 Q R24 R36 hR24 hR36 h
    replace h := h.2 hc
    refine v_iload (pc' := 107) 56 0 rfl rfl rfl ?_
    refine v_iload_n (pc' := 108) 57 6 rfl rfl rfl rfl ?_
    refine v_icmp_ne (tgt := 126) (pc' := 111) 58 rfl rfl (by decide) (fun hc => ?_) (fun hc => ?_)
    · replace h := h.1 hc
      refine V.sub [4, 5, 6, 7, 8, 9, 1, 0] rfl ?_
      exact b_X9_bestReplay_126 v1 v2 v3 v4 v5 r2810 r2811 I2809 L2812 Q R24 R36 hR24 hR36 h
    replace h := h.2 hc
    refine v_iload_n (pc' := 112) 59 5 rfl rfl rfl rfl ?_
    refine v_iconst (v := -1) (pc' := 113) 60 rfl rfl (by decide) ?_
    refine v_icmp_eq (tgt := 126) (pc' := 116) 61 rfl rfl (by decide) (fun hc => ?_) (fun hc => ?_)
    · replace h := h.1 hc
      refine V.sub [4, 5, 6, 7, 8, 9, 1, 0] rfl ?_
      exact b_X9_bestReplay_126 v1 v2 v3 v4 v5 r2810 r2811 I2809 L2812 Q R24 R36 hR24 hR36 h
    replace h := h.2 hc
    refine v_iload (pc' := 118) 62 1 rfl rfl rfl ?_
    refine v_iload_n (pc' := 119) 63 7 rfl rfl rfl rfl ?_
    refine v_icmp_ge (tgt := 126) (pc' := 122) 64 rfl rfl (by decide) (fun hc => ?_) (fun hc => ?_)
    · replace h := h.1 hc
      refine V.sub [4, 5, 6, 7, 8, 9, 1, 0] rfl ?_
      exact b_X9_bestReplay_126 v1 v2 v3 v4 v5 r2810 r2811 I2809 L2812 Q R24 R36 hR24 hR36 h
    replace h := h.2 hc
    refine V.sub [4, 5, 6, 7, 8, 9, 1, 0] rfl ?_
    exact b_X9_bestReplay_122 v1 v2 v3 v4 v5 r2810 r2811 I2809 L2812 Q R24 R36 hR24 hR36 h
  replace h := h.2 hc
  refine v_goto (tgt := 152) 46 rfl (by decide) ?_
  refine V.sub [3, 4, 5, 6, 7, 8] rfl ?_
  exact b_X9_bestReplay_152 v1 v2 v3 v4 v5 I2809 L Q R24 R36 hR24 hR36 h
theorem l_X9_bestReplay_36 {G : GT} {b d t : Nat} (v4 : Int32)  (Q : Int32 → TI → TL → Prop) (R24 : Int32 → Int32 → Int32 → Int32 → TI → TL → Prop) (hR24 : ∀ (v1 : Int32) (v2 : Int32) (v3 : Int32) (v4 : Int32) (I : TI) (L : TL), R24 v1 v2 v3 v4 I L → V G Y_X9_bestReplay 24 [(0, .ref 436), (1, .int v1), (2, .int v2), (3, .int v3), (4, .int v4)] [] (I, L, RT b d t, 457) 0 0 (fun v9 u9 => ∃ (r9 : Int32) (I9 : TI) (L9 : TL), v9 = some (.int r9) ∧ u9 = (I9, L9, RT b d t, 457) ∧ Q r9 I9 L9) (fun _ _ => False)) : ∀ (n9 : Nat) (v1 : Int32) (v2 : Int32) (v3 : Int32) (v5 : Int32) (I : TI) (L : TL), L_X9_bestReplay_36 v4 Q R24 n9 v1 v2 v3 v5 I L → V G Y_X9_bestReplay 36 [(0, .ref 436), (1, .int v1), (2, .int v2), (3, .int v3), (4, .int v4), (5, .int v5)] [] (I, L, RT b d t, 457) 0 0 (fun v9 u9 => ∃ (r9 : Int32) (I9 : TI) (L9 : TL), v9 = some (.int r9) ∧ u9 = (I9, L9, RT b d t, 457) ∧ Q r9 I9 L9) (fun _ _ => False)
  | 0, _, _, _, _, _, _, h => h.elim
  | n9 + 1, v1, v2, v3, v5, I, L, h => d_X9_bestReplay_36 v4 Q R24 _ hR24 (l_X9_bestReplay_36 v4 Q R24 hR24 n9) v1 v2 v3 v5 I L h
set_option maxHeartbeats 4000000 in
set_option maxRecDepth 100000 in
theorem d_X9_bestReplay_24 {G : GT} {b d t : Nat}  (Q : Int32 → TI → TL → Prop) (R24 : Int32 → Int32 → Int32 → Int32 → TI → TL → Prop)  (hR24 : ∀ (v1 : Int32) (v2 : Int32) (v3 : Int32) (v4 : Int32) (I : TI) (L : TL), R24 v1 v2 v3 v4 I L → V G Y_X9_bestReplay 24 [(0, .ref 436), (1, .int v1), (2, .int v2), (3, .int v3), (4, .int v4)] [] (I, L, RT b d t, 457) 0 0 (fun v9 u9 => ∃ (r9 : Int32) (I9 : TI) (L9 : TL), v9 = some (.int r9) ∧ u9 = (I9, L9, RT b d t, 457) ∧ Q r9 I9 L9) (fun _ _ => False)) (v1 : Int32) (v2 : Int32) (v3 : Int32) (v4 : Int32) (I : TI) (L : TL)  (h : D_X9_bestReplay_24 Q R24 v1 v2 v3 v4 I L) : V G Y_X9_bestReplay 24 [(0, .ref 436), (1, .int v1), (2, .int v2), (3, .int v3), (4, .int v4)] [] (I, L, RT b d t, 457) 0 0 (fun v9 u9 => ∃ (r9 : Int32) (I9 : TI) (L9 : TL), v9 = some (.int r9) ∧ u9 = (I9, L9, RT b d t, 457) ∧ Q r9 I9 L9) (fun _ _ => False) := by
  unfold D_X9_bestReplay_24 at h
  refine v_iload (pc' := 26) 15 4 rfl rfl rfl ?_
  refine v_aload_n (pc' := 27) 16 0 rfl rfl rfl rfl ?_
  refine v_cV (Y2 := Y_X9_nets) (As := []) (b := 436) (pc' := 30) (c1 := 0) (s1 := 0) 17 rfl rfl mf_X9_nets rfl rfl ml_X9_95 mi_X9_nets se_X9_nets (ci := 8) rfl ly_436 (lay_lt ly_436 (by decide)) rfl (Nat.le_of_ble_eq_true rfl) ⟨Nat.le_of_ble_eq_true rfl, Nat.le_of_ble_eq_true rfl⟩ rfl rfl (ok_X9_nets I L h) ?_ ?_
  · intro e9 u9 hx9
    exact hx9.elim
  intro v9 u9 hv9
  obtain ⟨r2813, rfl, rfl, h⟩ := hv9
  refine ⟨fun q => absurd q (Nat.lt_irrefl _), ?_⟩
  show V G Y_X9_bestReplay 30 _ (.int r2813 :: _) _ _ _ _ _
  refine v_icmp_ge (tgt := 164) (pc' := 33) 18 rfl rfl (by decide) (fun hc => ?_) (fun hc => ?_)
  · replace h := h.1 hc
    refine v_iload_n (pc' := 165) 86 1 rfl rfl rfl rfl ?_
    exact v_iret 87 rfl rfl (by decide) (by decide) ⟨_, _, _, rfl, rfl, h⟩
  replace h := h.2 hc
  refine v_iconst (v := 0) (pc' := 34) 19 rfl rfl (by decide) ?_
  refine v_istore (ls' := [(5, .int 0), (0, .ref 436), (1, .int v1), (2, .int v2), (3, .int v3), (4, .int v4)]) (pc' := 36) 20 rfl rfl (by decide) rfl ?_
  refine V.sub [1, 2, 3, 4, 5, 0] rfl ?_
  obtain ⟨n2814, h⟩ := h
  exact l_X9_bestReplay_36 v4 Q R24 hR24 n2814 v1 v2 v3 (0 : Int32) I L h
theorem l_X9_bestReplay_24 {G : GT} {b d t : Nat}  (Q : Int32 → TI → TL → Prop)  : ∀ (n9 : Nat) (v1 : Int32) (v2 : Int32) (v3 : Int32) (v4 : Int32) (I : TI) (L : TL), L_X9_bestReplay_24 Q n9 v1 v2 v3 v4 I L → V G Y_X9_bestReplay 24 [(0, .ref 436), (1, .int v1), (2, .int v2), (3, .int v3), (4, .int v4)] [] (I, L, RT b d t, 457) 0 0 (fun v9 u9 => ∃ (r9 : Int32) (I9 : TI) (L9 : TL), v9 = some (.int r9) ∧ u9 = (I9, L9, RT b d t, 457) ∧ Q r9 I9 L9) (fun _ _ => False)
  | 0, _, _, _, _, _, _, h => h.elim
  | n9 + 1, v1, v2, v3, v4, I, L, h => d_X9_bestReplay_24 Q _ (l_X9_bestReplay_24 Q n9) v1 v2 v3 v4 I L h
set_option maxHeartbeats 4000000 in
set_option maxRecDepth 100000 in
theorem ok_X9_bestReplay {G : GT} {b d t : Nat} (I : TI) (L : TL)  {Q : Int32 → TI → TL → Prop} (h : W_X9_bestReplay I L Q) : MW G Y_X9_bestReplay [.ref 436] (I, L, RT b d t, 457) (fun v9 u9 => ∃ (r9 : Int32) (I9 : TI) (L9 : TL), v9 = some (.int r9) ∧ u9 = (I9, L9, RT b d t, 457) ∧ Q r9 I9 L9) (fun _ _ => False) := by
  unfold W_X9_bestReplay at h
  refine MW.intro rfl (by decide) is_X9_bestReplay (Nat.le_of_ble_eq_true rfl) ?_
  show V G Y_X9_bestReplay 0 [(0, .ref 436)] [] (I, L, RT b d t, 457) 0 0 _ _
  refine v_aload_n (pc' := 1) 0 0 rfl rfl rfl rfl ?_
  refine v_iconst (v := 0) (pc' := 2) 1 rfl rfl (by decide) ?_
  refine v_putI (pc' := 5) 2 rfl rfl pf_X9_80 (fun q => absurd q (by decide)) ly_436 (lay_lt ly_436 (by decide)) ?_
  refine v_aload_n (pc' := 6) 3 0 rfl rfl rfl rfl ?_
  refine v_cV (Y2 := Y_X9_waves) (As := []) (b := 436) (pc' := 9) (c1 := 0) (s1 := 0) 4 rfl rfl mf_X9_waves rfl rfl ml_X9_302 mi_X9_waves se_X9_waves (ci := 8) rfl ly_436 (lay_lt ly_436 (by decide)) rfl (Nat.le_of_ble_eq_true rfl) ⟨Nat.le_of_ble_eq_true rfl, Nat.le_of_ble_eq_true rfl⟩ rfl rfl (ok_X9_waves (up2 I 436 0 0) L h) ?_ ?_
  · intro e9 u9 hx9
    exact hx9.elim
  intro v9 u9 hv9
  obtain ⟨L2815, rfl, rfl, h⟩ := hv9
  refine ⟨fun q => absurd q (Nat.lt_irrefl _), ?_⟩
  show V G Y_X9_bestReplay 9 _ _ _ _ _ _ _
  refine v_iconst (v := -1) (pc' := 10) 5 rfl rfl (by decide) ?_
  refine v_istore_n (ls' := [(1, .int (-1)), (0, .ref 436)]) (pc' := 11) 6 rfl rfl rfl (by decide) rfl ?_
  refine v_aload_n (pc' := 12) 7 1 rfl rfl rfl rfl ?_
  refine v_cV (Y2 := Y_X9_wrongs) (As := []) (b := 436) (pc' := 15) (c1 := 0) (s1 := 0) 8 rfl rfl mf_X9_wrongs rfl rfl ml_X9_325 mi_X9_wrongs se_X9_wrongs (ci := 8) rfl ly_436 (lay_lt ly_436 (by decide)) rfl (Nat.le_of_ble_eq_true rfl) ⟨Nat.le_of_ble_eq_true rfl, Nat.le_of_ble_eq_true rfl⟩ rfl rfl (ok_X9_wrongs (up2 I 436 0 0) L2815 h) ?_ ?_
  · intro e9 u9 hx9
    exact hx9.elim
  intro v9 u9 hv9
  obtain ⟨r2816, rfl, rfl, h⟩ := hv9
  refine ⟨fun q => absurd q (Nat.lt_irrefl _), ?_⟩
  show V G Y_X9_bestReplay 15 _ (.int r2816 :: _) _ _ _ _ _
  refine v_istore_n (ls' := [(2, .int r2816), (1, .int (-1)), (0, .ref 436)]) (pc' := 16) 9 rfl rfl rfl (by decide) rfl ?_
  refine v_iconst (v := 0) (pc' := 17) 10 rfl rfl (by decide) ?_
  refine v_istore_n (ls' := [(3, .int 0), (2, .int r2816), (1, .int (-1)), (0, .ref 436)]) (pc' := 18) 11 rfl rfl rfl (by decide) rfl ?_
  refine v_aload_n (pc' := 19) 12 3 rfl rfl rfl rfl ?_
  refine v_getI (pc' := 22) 13 rfl rfl pf_X9_77 ly_436 (lay_lt ly_436 (by decide)) ?_
  refine v_istore (ls' := [(4, .int ((up2 I 436 0 0) 436 10)), (3, .int 0), (2, .int r2816), (1, .int (-1)), (0, .ref 436)]) (pc' := 24) 14 rfl rfl (by decide) rfl ?_
  refine V.sub [4, 3, 2, 1, 0] rfl ?_
  obtain ⟨n2817, h⟩ := h
  exact l_X9_bestReplay_24 Q n2817 ((-1) : Int32) r2816 (0 : Int32) ((up2 I 436 0 0) 436 10) (up2 I 436 0 0) L2815 h
