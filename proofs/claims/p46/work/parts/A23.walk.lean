set_option maxHeartbeats 4000000 in
set_option maxRecDepth 100000 in
theorem ok_X8_replay {G : GT} {t : Nat} (p1 : Int32) (p2 : Int32) (p3 : Int32) (I : TI) (L : TL) (b : Nat) (d : Nat) (hb : bnOK b) (hd : bnOK d) {Q : Int32 → TI → TL → Prop} {QX : String → TI → TL → Prop} (h : W_X8_replay p1 p2 p3 I L b d Q QX) (hX : ∀ (e9 : String) (I9 : TI) (L9 : TL), QX e9 I9 L9 → False) : MW G Y_X8_replay [.ref 0, .int p1, .int p2, .int p3] (I, L, RT b d t, 457) (fun v9 u9 => ∃ (r9 : Int32) (I9 : TI) (L9 : TL), v9 = some (.int r9) ∧ u9 = (I9, L9, RT b d t, 457) ∧ Q r9 I9 L9) (fun _ _ => False) := by
  unfold W_X8_replay at h
  refine MW.intro rfl (by decide) is_X8_replay (Nat.le_of_ble_eq_true rfl) ?_
  show V G Y_X8_replay 0 [(0, .ref 0), (1, .int p1), (2, .int p2), (3, .int p3)] [] (I, L, RT b d t, 457) 0 0 _ _
  refine v_aload_n (pc' := 1) 0 0 rfl rfl rfl rfl ?_
  refine v_iload_n (pc' := 2) 1 1 rfl rfl rfl rfl ?_
  refine v_cV (Y2 := Y_X8_requireGate) (As := [.int p1]) (b := 0) (pc' := 5) (c1 := 0) (s1 := 0) 2 rfl rfl mf_X8_requireGate rfl rfl ml_X8_141 mi_X8_requireGate se_X8_requireGate (ci := 7) rfl ly_0 (lay_lt ly_0 (by decide)) rfl (Nat.le_of_ble_eq_true rfl) ⟨Nat.le_of_ble_eq_true rfl, Nat.le_of_ble_eq_true rfl⟩ rfl rfl (ok_X8_requireGate p1 I L b d hb hd h (fun _ q9 => hX _ _ _ q9)) ?_ ?_
  · intro e9 u9 hx9
    exact hx9.elim
  intro v9 u9 hv9
  obtain ⟨rfl, rfl, h⟩ := hv9
  refine ⟨fun q => absurd q (Nat.lt_irrefl _), ?_⟩
  show V G Y_X8_replay 5 _ _ _ _ _ _ _
  refine v_aload_n (pc' := 6) 3 0 rfl rfl rfl rfl ?_
  refine v_iload_n (pc' := 7) 4 2 rfl rfl rfl rfl ?_
  refine v_iload_n (pc' := 8) 5 3 rfl rfl rfl rfl ?_
  refine v_cV (Y2 := Y_X8_requireTimes) (As := [.int p2, .int p3]) (b := 0) (pc' := 11) (c1 := 0) (s1 := 0) 6 rfl rfl mf_X8_requireTimes rfl rfl ml_X8_302 mi_X8_requireTimes se_X8_requireTimes (ci := 7) rfl ly_0 (lay_lt ly_0 (by decide)) rfl (Nat.le_of_ble_eq_true rfl) ⟨Nat.le_of_ble_eq_true rfl, Nat.le_of_ble_eq_true rfl⟩ rfl rfl (ok_X8_requireTimes p2 p3 I L b d hb hd h (fun _ q9 => hX _ _ _ q9)) ?_ ?_
  · intro e9 u9 hx9
    exact hx9.elim
  intro v9 u9 hv9
  obtain ⟨rfl, rfl, h⟩ := hv9
  refine ⟨fun q => absurd q (Nat.lt_irrefl _), ?_⟩
  show V G Y_X8_replay 11 _ _ _ _ _ _ _
  refine v_aload_n (pc' := 12) 7 0 rfl rfl rfl rfl ?_
  refine v_getR (t := b) (pc' := 15) 8 rfl rfl pf_X8_40 ly_0 (lay_lt ly_0 (by decide)) rt_0_5 ?_
  refine v_iload_n (pc' := 16) 9 1 rfl rfl rfl rfl ?_
  refine v_iload_n (pc' := 17) 10 2 rfl rfl rfl rfl ?_
  refine v_iload_n (pc' := 18) 11 3 rfl rfl rfl rfl ?_
  refine v_cV (Y2 := Y_X0_price) (As := [.int p1, .int p2, .int p3]) (b := b) (pc' := 21) (c1 := 0) (s1 := 0) 12 rfl rfl mf_X0_price rfl rfl ml_X8_261 mi_X0_price se_X0_price (ci := 0) rfl (bn0l hb) (lay_lt (bn0l hb) (by decide)) rfl (Nat.le_of_ble_eq_true rfl) ⟨Nat.le_of_ble_eq_true rfl, Nat.le_of_ble_eq_true rfl⟩ rfl rfl (ok_X0_price b p1 p2 p3 I L hb h) ?_ ?_
  · intro e9 u9 hx9
    exact hx9.elim
  intro v9 u9 hv9
  obtain ⟨r942, rfl, rfl, h⟩ := hv9
  refine ⟨fun q => absurd q (Nat.lt_irrefl _), ?_⟩
  show V G Y_X8_replay 21 _ (.int r942 :: _) _ _ _ _ _
  refine v_istore (ls' := [(4, .int r942), (0, .ref 0), (1, .int p1), (2, .int p2), (3, .int p3)]) (pc' := 23) 13 rfl rfl (by decide) rfl ?_
  refine v_aload_n (pc' := 24) 14 1 rfl rfl rfl rfl ?_
  refine v_getR (t := b) (pc' := 27) 15 rfl rfl pf_X8_40 ly_0 (lay_lt ly_0 (by decide)) rt_0_5 ?_
  refine v_getR (t := (b + 6)) (pc' := 30) 16 rfl rfl pf_X8_114 (bn0l hb) (lay_lt (bn0l hb) (by decide)) (rt_bn_1 hb) ?_
  refine v_getR (t := (b + 15)) (pc' := 33) 17 rfl rfl pf_X8_132 (bn6l hb) (lay_lt (bn6l hb) (by decide)) (rt_st_5 (bn_st hb)) ?_
  refine v_iconst (v := 2) (pc' := 34) 18 rfl rfl (by decide) ?_
  refine v_iald (i := 2) (j := 2) (pc' := 35) 19 rfl rfl (bn15l hb) (bn15n hb) (lay_lt (bn15l hb) (by decide)) (vp_lit (by decide)) (by decide) ?_
  refine v_iload (pc' := 37) 20 0 rfl rfl rfl ?_
  refine v_icmp_ge (tgt := 43) (pc' := 40) 21 rfl rfl (by decide) (fun hc => ?_) (fun hc => ?_)
  · replace h := h.1 hc
    refine v_aload_n (pc' := 44) 24 1 rfl rfl rfl rfl ?_
    refine v_getR (t := 1) (pc' := 47) 25 rfl rfl pf_X8_10 ly_0 (lay_lt ly_0 (by decide)) rt_0_0 ?_
    refine v_aload_n (pc' := 48) 26 1 rfl rfl rfl rfl ?_
    refine v_getR (t := b) (pc' := 51) 27 rfl rfl pf_X8_40 ly_0 (lay_lt ly_0 (by decide)) rt_0_5 ?_
    refine v_getR (t := (b + 6)) (pc' := 54) 28 rfl rfl pf_X8_114 (bn0l hb) (lay_lt (bn0l hb) (by decide)) (rt_bn_1 hb) ?_
    refine v_cV (Y2 := Y_X4_record) (As := [.ref (b + 6)]) (b := 1) (pc' := 57) (c1 := 0) (s1 := 0) 29 rfl rfl mf_X4_record rfl rfl ml_X8_321 mi_X4_record se_X4_record (ci := 3) rfl ly_1 (lay_lt ly_1 (by decide)) rfl (Nat.le_of_ble_eq_true rfl) ⟨Nat.le_of_ble_eq_true rfl, Nat.le_of_ble_eq_true rfl⟩ rfl rfl (ok_X4_record (b + 6) I L (bn_st hb) h) ?_ ?_
    · intro e9 u9 hx9
      exact hx9.elim
    intro v9 u9 hv9
    obtain ⟨I943, L944, rfl, rfl, h⟩ := hv9
    refine ⟨fun q => absurd q (Nat.lt_irrefl _), ?_⟩
    show V G Y_X8_replay 57 _ _ _ _ _ _ _
    refine v_aload_n (pc' := 58) 30 1 rfl rfl rfl rfl ?_
    refine v_getR (t := b) (pc' := 61) 31 rfl rfl pf_X8_40 ly_0 (lay_lt ly_0 (by decide)) rt_0_5 ?_
    refine v_getR (t := (b + 6)) (pc' := 64) 32 rfl rfl pf_X8_114 (bn0l hb) (lay_lt (bn0l hb) (by decide)) (rt_bn_1 hb) ?_
    refine v_getR (t := (b + 15)) (pc' := 67) 33 rfl rfl pf_X8_132 (bn6l hb) (lay_lt (bn6l hb) (by decide)) (rt_st_5 (bn_st hb)) ?_
    refine v_iconst (v := 2) (pc' := 68) 34 rfl rfl (by decide) ?_
    refine v_dup2 (pc' := 69) 35 rfl rfl rfl rfl ?_
    refine v_iald (i := 2) (j := 2) (pc' := 70) 36 rfl rfl (bn15l hb) (bn15n hb) (lay_lt (bn15l hb) (by decide)) (vp_lit (by decide)) (by decide) ?_
    refine v_iload (pc' := 72) 37 0 rfl rfl rfl ?_
    refine v_isub (pc' := 73) 38 rfl rfl ?_
    refine v_iast (i := 2) (j := 2) (pc' := 74) 39 rfl rfl (bn15l hb) (bn15n hb) (lay_lt (bn15l hb) (by decide)) (vp_lit (by decide)) (by decide) ?_
    refine v_aload_n (pc' := 75) 40 1 rfl rfl rfl rfl ?_
    refine v_getR (t := b) (pc' := 78) 41 rfl rfl pf_X8_40 ly_0 (lay_lt ly_0 (by decide)) rt_0_5 ?_
    refine v_iload_n (pc' := 79) 42 2 rfl rfl rfl rfl ?_
    refine v_iload_n (pc' := 80) 43 3 rfl rfl rfl rfl ?_
    refine v_iload_n (pc' := 81) 44 4 rfl rfl rfl rfl ?_
    refine v_cV (Y2 := Y_X0_settle) (As := [.int p1, .int p2, .int p3]) (b := b) (pc' := 84) (c1 := 0) (s1 := 0) 45 rfl rfl mf_X0_settle rfl rfl ml_X8_339 mi_X0_settle se_X0_settle (ci := 0) rfl (bn0l hb) (lay_lt (bn0l hb) (by decide)) rfl (Nat.le_of_ble_eq_true rfl) ⟨Nat.le_of_ble_eq_true rfl, Nat.le_of_ble_eq_true rfl⟩ rfl rfl (ok_X0_settle b p1 p2 p3 (up2 I943 (b + 15) 2 ((I943 (b + 15) 2) - r942)) L944 hb h) ?_ ?_
    · intro e9 u9 hx9
      exact hx9.elim
    intro v9 u9 hv9
    obtain ⟨r945, I946, L947, rfl, rfl, h⟩ := hv9
    refine ⟨fun q => absurd q (Nat.lt_irrefl _), ?_⟩
    show V G Y_X8_replay 84 _ (.int r945 :: _) _ _ _ _ _
    exact v_iret 46 rfl rfl (by decide) (by decide) ⟨_, _, _, rfl, rfl, h⟩
  replace h := h.2 hc
  refine v_bipush (v := -3) (pc' := 42) 22 rfl rfl (by decide) ?_
  exact v_iret 23 rfl rfl (by decide) (by decide) ⟨_, _, _, rfl, rfl, h⟩
set_option maxHeartbeats 4000000 in
set_option maxRecDepth 100000 in
theorem ok_X8_setDelay {G : GT} {t : Nat} (p1 : Int32) (p2 : Int32) (p3 : Int32) (I : TI) (L : TL) (b : Nat) (d : Nat) (hb : bnOK b) (hd : bnOK d) {Q : Int32 → TI → TL → Prop} {QX : String → TI → TL → Prop} (h : W_X8_setDelay p1 p2 p3 I L b d Q QX) (hX : ∀ (e9 : String) (I9 : TI) (L9 : TL), QX e9 I9 L9 → False) : MW G Y_X8_setDelay [.ref 0, .int p1, .int p2, .int p3] (I, L, RT b d t, 457) (fun v9 u9 => ∃ (r9 : Int32) (I9 : TI) (L9 : TL), v9 = some (.int r9) ∧ u9 = (I9, L9, RT b d t, 457) ∧ Q r9 I9 L9) (fun _ _ => False) := by
  unfold W_X8_setDelay at h
  refine MW.intro rfl (by decide) is_X8_setDelay (Nat.le_of_ble_eq_true rfl) ?_
  show V G Y_X8_setDelay 0 [(0, .ref 0), (1, .int p1), (2, .int p2), (3, .int p3)] [] (I, L, RT b d t, 457) 0 0 _ _
  refine v_aload_n (pc' := 1) 0 0 rfl rfl rfl rfl ?_
  refine v_iload_n (pc' := 2) 1 1 rfl rfl rfl rfl ?_
  refine v_cV (Y2 := Y_X8_requireGate) (As := [.int p1]) (b := 0) (pc' := 5) (c1 := 0) (s1 := 0) 2 rfl rfl mf_X8_requireGate rfl rfl ml_X8_141 mi_X8_requireGate se_X8_requireGate (ci := 7) rfl ly_0 (lay_lt ly_0 (by decide)) rfl (Nat.le_of_ble_eq_true rfl) ⟨Nat.le_of_ble_eq_true rfl, Nat.le_of_ble_eq_true rfl⟩ rfl rfl (ok_X8_requireGate p1 I L b d hb hd h (fun _ q9 => hX _ _ _ q9)) ?_ ?_
  · intro e9 u9 hx9
    exact hx9.elim
  intro v9 u9 hv9
  obtain ⟨rfl, rfl, h⟩ := hv9
  refine ⟨fun q => absurd q (Nat.lt_irrefl _), ?_⟩
  show V G Y_X8_setDelay 5 _ _ _ _ _ _ _
  refine v_iload_n (pc' := 6) 3 2 rfl rfl rfl rfl ?_
  refine v_if_lt (tgt := 25) (pc' := 9) 4 rfl rfl (by decide) (fun hc => ?_) (fun hc => ?_)
  · replace h := h.1 hc
    exact (hX _ _ _ h).elim
  replace h := h.2 hc
  refine v_iload_n (pc' := 10) 5 2 rfl rfl rfl rfl ?_
  refine v_iconst (v := 3) (pc' := 11) 6 rfl rfl (by decide) ?_
  refine v_icmp_ge (tgt := 25) (pc' := 14) 7 rfl rfl (by decide) (fun hc => ?_) (fun hc => ?_)
  · replace h := h.1 hc
    exact (hX _ _ _ h).elim
  replace h := h.2 hc
  refine v_iload_n (pc' := 15) 8 3 rfl rfl rfl rfl ?_
  refine v_iconst (v := 1) (pc' := 16) 9 rfl rfl (by decide) ?_
  refine v_icmp_lt (tgt := 25) (pc' := 19) 10 rfl rfl (by decide) (fun hc => ?_) (fun hc => ?_)
  · replace h := h.1 hc
    exact (hX _ _ _ h).elim
  replace h := h.2 hc
  refine v_iload_n (pc' := 20) 11 3 rfl rfl rfl rfl ?_
  refine v_bipush (v := 9) (pc' := 22) 12 rfl rfl (by decide) ?_
  refine v_icmp_le (tgt := 36) (pc' := 25) 13 rfl rfl (by decide) (fun hc => ?_) (fun hc => ?_)
  · replace h := h.1 hc
    refine v_aload_n (pc' := 37) 19 0 rfl rfl rfl rfl ?_
    refine v_getR (t := 1) (pc' := 40) 20 rfl rfl pf_X8_10 ly_0 (lay_lt ly_0 (by decide)) rt_0_0 ?_
    refine v_aload_n (pc' := 41) 21 0 rfl rfl rfl rfl ?_
    refine v_getR (t := b) (pc' := 44) 22 rfl rfl pf_X8_40 ly_0 (lay_lt ly_0 (by decide)) rt_0_5 ?_
    refine v_getR (t := (b + 6)) (pc' := 47) 23 rfl rfl pf_X8_114 (bn0l hb) (lay_lt (bn0l hb) (by decide)) (rt_bn_1 hb) ?_
    refine v_cV (Y2 := Y_X4_record) (As := [.ref (b + 6)]) (b := 1) (pc' := 50) (c1 := 0) (s1 := 0) 24 rfl rfl mf_X4_record rfl rfl ml_X8_321 mi_X4_record se_X4_record (ci := 3) rfl ly_1 (lay_lt ly_1 (by decide)) rfl (Nat.le_of_ble_eq_true rfl) ⟨Nat.le_of_ble_eq_true rfl, Nat.le_of_ble_eq_true rfl⟩ rfl rfl (ok_X4_record (b + 6) I L (bn_st hb) h) ?_ ?_
    · intro e9 u9 hx9
      exact hx9.elim
    intro v9 u9 hv9
    obtain ⟨I957, L958, rfl, rfl, h⟩ := hv9
    refine ⟨fun q => absurd q (Nat.lt_irrefl _), ?_⟩
    show V G Y_X8_setDelay 50 _ _ _ _ _ _ _
    refine v_aload_n (pc' := 51) 25 0 rfl rfl rfl rfl ?_
    refine v_getR (t := b) (pc' := 54) 26 rfl rfl pf_X8_40 ly_0 (lay_lt ly_0 (by decide)) rt_0_5 ?_
    refine v_getR (t := (b + 6)) (pc' := 57) 27 rfl rfl pf_X8_114 (bn0l hb) (lay_lt (bn0l hb) (by decide)) (rt_bn_1 hb) ?_
    refine v_getR (t := (b + 7)) (pc' := 60) 28 rfl rfl pf_X8_153 (bn6l hb) (lay_lt (bn6l hb) (by decide)) (rt_st_0 (bn_st hb)) ?_
    refine v_iload_n (pc' := 61) 29 2 rfl rfl rfl rfl ?_
    obtain ⟨hi959, h⟩ := h
    refine v_aald6 (i := p2) (r := ((b + 8) + p2.toNatClampNeg)) (j := p2.toNatClampNeg) (pc' := 62) 30 rfl rfl (bn7l hb) (bn7n hb) (lay_lt (bn7l hb) (by decide)) hi959 rfl (rt_row (bn_st hb) (vp_nat hi959)) ?_
    refine v_iload_n (pc' := 63) 31 1 rfl rfl rfl rfl ?_
    obtain ⟨hi960, h⟩ := h
    refine v_iald (i := p1) (j := p1.toNatClampNeg) (pc' := 64) 32 rfl rfl (st_rowl (bn_st hb) (vp_nat hi959)) (st_rown (bn_st hb) (vp_nat hi959)) (lay_lt (st_rowl (bn_st hb) (vp_nat hi959)) (by decide)) hi960 rfl ?_
    refine nm_I (e := (I957 ((b + 8) + p2.toNatClampNeg) (p1.toNatClampNeg))) (fun x961 hx961 => ?_)
    replace h := h x961 hx961
    refine v_istore (ls' := [(4, .int x961), (0, .ref 0), (1, .int p1), (2, .int p2), (3, .int p3)]) (pc' := 66) 33 rfl rfl (by decide) rfl ?_
    refine v_iload (pc' := 68) 34 0 rfl rfl rfl ?_
    refine v_iload_n (pc' := 69) 35 4 rfl rfl rfl rfl ?_
    refine v_icmp_eq (tgt := 96) (pc' := 72) 36 rfl rfl (by decide) (fun hc => ?_) (fun hc => ?_)
    · replace h := h.1 hc
      refine v_iload (pc' := 98) 51 0 rfl rfl rfl ?_
      exact v_iret 52 rfl rfl (by decide) (by decide) ⟨_, _, _, rfl, rfl, h⟩
    replace h := h.2 hc
    refine v_aload_n (pc' := 73) 37 1 rfl rfl rfl rfl ?_
    refine v_getR (t := b) (pc' := 76) 38 rfl rfl pf_X8_40 ly_0 (lay_lt ly_0 (by decide)) rt_0_5 ?_
    refine v_getR (t := (b + 6)) (pc' := 79) 39 rfl rfl pf_X8_114 (bn0l hb) (lay_lt (bn0l hb) (by decide)) (rt_bn_1 hb) ?_
    refine v_getR (t := (b + 7)) (pc' := 82) 40 rfl rfl pf_X8_153 (bn6l hb) (lay_lt (bn6l hb) (by decide)) (rt_st_0 (bn_st hb)) ?_
    refine v_iload_n (pc' := 83) 41 3 rfl rfl rfl rfl ?_
    obtain ⟨hi962, h⟩ := h
    refine v_aald6 (i := p2) (r := ((b + 8) + p2.toNatClampNeg)) (j := p2.toNatClampNeg) (pc' := 84) 42 rfl rfl (bn7l hb) (bn7n hb) (lay_lt (bn7l hb) (by decide)) hi962 rfl (rt_row (bn_st hb) (vp_nat hi962)) ?_
    refine v_iload_n (pc' := 85) 43 2 rfl rfl rfl rfl ?_
    refine v_iload_n (pc' := 86) 44 4 rfl rfl rfl rfl ?_
    obtain ⟨hi963, h⟩ := h
    refine v_iast (i := p1) (j := p1.toNatClampNeg) (pc' := 87) 45 rfl rfl (st_rowl (bn_st hb) (vp_nat hi962)) (st_rown (bn_st hb) (vp_nat hi962)) (lay_lt (st_rowl (bn_st hb) (vp_nat hi962)) (by decide)) hi963 rfl ?_
    refine nm_M (e := (up2 I957 ((b + 8) + p2.toNatClampNeg) (p1.toNatClampNeg) p3)) (fun I964 hI964 => ?_)
    replace h := h I964 hI964
    refine v_aload_n (pc' := 88) 46 1 rfl rfl rfl rfl ?_
    refine v_getR (t := b) (pc' := 91) 47 rfl rfl pf_X8_40 ly_0 (lay_lt ly_0 (by decide)) rt_0_5 ?_
    refine v_iload_n (pc' := 92) 48 2 rfl rfl rfl rfl ?_
    refine v_cV (Y2 := Y_X0_unsettle) (As := [.int p1]) (b := b) (pc' := 95) (c1 := 0) (s1 := 0) 49 rfl rfl mf_X0_unsettle rfl rfl ml_X8_347 mi_X0_unsettle se_X0_unsettle (ci := 0) rfl (bn0l hb) (lay_lt (bn0l hb) (by decide)) rfl (Nat.le_of_ble_eq_true rfl) ⟨Nat.le_of_ble_eq_true rfl, Nat.le_of_ble_eq_true rfl⟩ rfl rfl (ok_X0_unsettle b p1 I964 L958 hb h) ?_ ?_
    · intro e9 u9 hx9
      exact hx9.elim
    intro v9 u9 hv9
    obtain ⟨r965, I966, L967, rfl, rfl, h⟩ := hv9
    refine ⟨fun q => absurd q (Nat.lt_irrefl _), ?_⟩
    show V G Y_X8_setDelay 95 _ (.int r965 :: _) _ _ _ _ _
    refine v_pop (pc' := 96) 50 rfl rfl rfl ?_
    refine v_iload (pc' := 98) 51 0 rfl rfl rfl ?_
    exact v_iret 52 rfl rfl (by decide) (by decide) ⟨_, _, _, rfl, rfl, h⟩
  replace h := h.2 hc
  exact (hX _ _ _ h).elim
set_option maxHeartbeats 4000000 in
set_option maxRecDepth 100000 in
theorem ok_X8_toggle {G : GT} {t : Nat} (p1 : Int32) (p2 : Int32) (I : TI) (L : TL) (b : Nat) (d : Nat) (hb : bnOK b) (hd : bnOK d) {Q : Int32 → TI → TL → Prop} {QX : String → TI → TL → Prop} (h : W_X8_toggle p1 p2 I L b d Q QX) (hX : ∀ (e9 : String) (I9 : TI) (L9 : TL), QX e9 I9 L9 → False) : MW G Y_X8_toggle [.ref 0, .int p1, .int p2] (I, L, RT b d t, 457) (fun v9 u9 => ∃ (r9 : Int32) (I9 : TI) (L9 : TL), v9 = some (.int r9) ∧ u9 = (I9, L9, RT b d t, 457) ∧ Q r9 I9 L9) (fun _ _ => False) := by
  unfold W_X8_toggle at h
  refine MW.intro rfl (by decide) is_X8_toggle (Nat.le_of_ble_eq_true rfl) ?_
  show V G Y_X8_toggle 0 [(0, .ref 0), (1, .int p1), (2, .int p2)] [] (I, L, RT b d t, 457) 0 0 _ _
  refine v_iload_n (pc' := 1) 0 1 rfl rfl rfl rfl ?_
  refine v_if_lt (tgt := 18) (pc' := 4) 1 rfl rfl (by decide) (fun hc => ?_) (fun hc => ?_)
  · replace h := h.1 hc
    exact (hX _ _ _ h).elim
  replace h := h.2 hc
  refine v_iload_n (pc' := 5) 2 1 rfl rfl rfl rfl ?_
  refine v_aload_n (pc' := 6) 3 0 rfl rfl rfl rfl ?_
  refine v_getR (t := b) (pc' := 9) 4 rfl rfl pf_X8_40 ly_0 (lay_lt ly_0 (by decide)) rt_0_5 ?_
  refine v_getR (t := (b + 1)) (pc' := 12) 5 rfl rfl pf_X8_95 (bn0l hb) (lay_lt (bn0l hb) (by decide)) (rt_bn_0 hb) ?_
  refine v_getI (pc' := 15) 6 rfl rfl pf_X8_105 (bn1l hb) (lay_lt (bn1l hb) (by decide)) ?_
  refine v_icmp_lt (tgt := 29) (pc' := 18) 7 rfl rfl (by decide) (fun hc => ?_) (fun hc => ?_)
  · replace h := h.1 hc
    refine v_aload_n (pc' := 30) 13 0 rfl rfl rfl rfl ?_
    refine v_getR (t := b) (pc' := 33) 14 rfl rfl pf_X8_40 ly_0 (lay_lt ly_0 (by decide)) rt_0_5 ?_
    refine v_getR (t := (b + 1)) (pc' := 36) 15 rfl rfl pf_X8_95 (bn0l hb) (lay_lt (bn0l hb) (by decide)) (rt_bn_0 hb) ?_
    refine v_iload_n (pc' := 37) 16 2 rfl rfl rfl rfl ?_
    refine v_cV (Y2 := Y_X2_hasTime) (As := [.int p2]) (b := (b + 1)) (pc' := 40) (c1 := 0) (s1 := 0) 17 rfl rfl mf_X2_hasTime rfl rfl ml_X8_181 mi_X2_hasTime se_X2_hasTime (ci := 1) rfl (bn1l hb) (lay_lt (bn1l hb) (by decide)) rfl (Nat.le_of_ble_eq_true rfl) ⟨Nat.le_of_ble_eq_true rfl, Nat.le_of_ble_eq_true rfl⟩ rfl rfl (ok_X2_hasTime (b + 1) p2 I L (bn_ck hb) h) ?_ ?_
    · intro e9 u9 hx9
      exact hx9.elim
    intro v9 u9 hv9
    obtain ⟨r977, rfl, rfl, h⟩ := hv9
    refine ⟨fun q => absurd q (Nat.lt_irrefl _), ?_⟩
    show V G Y_X8_toggle 40 _ (.int r977 :: _) _ _ _ _ _
    refine v_if_ne (tgt := 53) (pc' := 43) 18 rfl rfl (by decide) (fun hc => ?_) (fun hc => ?_)
    · replace h := h.1 hc
      refine v_aload_n (pc' := 54) 24 0 rfl rfl rfl rfl ?_
      refine v_getR (t := 1) (pc' := 57) 25 rfl rfl pf_X8_10 ly_0 (lay_lt ly_0 (by decide)) rt_0_0 ?_
      refine v_aload_n (pc' := 58) 26 0 rfl rfl rfl rfl ?_
      refine v_getR (t := b) (pc' := 61) 27 rfl rfl pf_X8_40 ly_0 (lay_lt ly_0 (by decide)) rt_0_5 ?_
      refine v_getR (t := (b + 6)) (pc' := 64) 28 rfl rfl pf_X8_114 (bn0l hb) (lay_lt (bn0l hb) (by decide)) (rt_bn_1 hb) ?_
      refine v_cV (Y2 := Y_X4_record) (As := [.ref (b + 6)]) (b := 1) (pc' := 67) (c1 := 0) (s1 := 0) 29 rfl rfl mf_X4_record rfl rfl ml_X8_321 mi_X4_record se_X4_record (ci := 3) rfl ly_1 (lay_lt ly_1 (by decide)) rfl (Nat.le_of_ble_eq_true rfl) ⟨Nat.le_of_ble_eq_true rfl, Nat.le_of_ble_eq_true rfl⟩ rfl rfl (ok_X4_record (b + 6) I L (bn_st hb) h) ?_ ?_
      · intro e9 u9 hx9
        exact hx9.elim
      intro v9 u9 hv9
      obtain ⟨I978, L979, rfl, rfl, h⟩ := hv9
      refine ⟨fun q => absurd q (Nat.lt_irrefl _), ?_⟩
      show V G Y_X8_toggle 67 _ _ _ _ _ _ _
      refine v_aload_n (pc' := 68) 30 0 rfl rfl rfl rfl ?_
      refine v_getR (t := b) (pc' := 71) 31 rfl rfl pf_X8_40 ly_0 (lay_lt ly_0 (by decide)) rt_0_5 ?_
      refine v_getR (t := (b + 6)) (pc' := 74) 32 rfl rfl pf_X8_114 (bn0l hb) (lay_lt (bn0l hb) (by decide)) (rt_bn_1 hb) ?_
      refine v_getR (t := (b + 11)) (pc' := 77) 33 rfl rfl pf_X8_352 (bn6l hb) (lay_lt (bn6l hb) (by decide)) (rt_st_1 (bn_st hb)) ?_
      refine v_iload_n (pc' := 78) 34 1 rfl rfl rfl rfl ?_
      refine v_dup2 (pc' := 79) 35 rfl rfl rfl rfl ?_
      obtain ⟨hi980, h⟩ := h
      refine v_lald (i := p1) (j := p1.toNatClampNeg) (pc' := 80) 36 rfl rfl (bn11l hb) (bn11n hb) (lay_lt (bn11l hb) (by decide)) hi980 rfl ?_
      refine v_iload_n (pc' := 81) 37 2 rfl rfl rfl rfl ?_
      refine v_aload_n (pc' := 82) 38 0 rfl rfl rfl rfl ?_
      refine v_getR (t := b) (pc' := 85) 39 rfl rfl pf_X8_40 ly_0 (lay_lt ly_0 (by decide)) rt_0_5 ?_
      refine v_getR (t := (b + 1)) (pc' := 88) 40 rfl rfl pf_X8_95 (bn0l hb) (lay_lt (bn0l hb) (by decide)) (rt_bn_0 hb) ?_
      refine v_getI (pc' := 91) 41 rfl rfl pf_X8_111 (bn1l hb) (lay_lt (bn1l hb) (by decide)) ?_
      refine v_cS (Y2 := Y_X8_window) (As := [.int p2, .int (I978 (b + 1) 6)]) (pc' := 94) (c1 := 0) (s1 := 0) 42 rfl rfl mf_X8_window rfl rfl ml_X8_355 ms_X8_window rfl (Nat.le_of_ble_eq_true rfl) ⟨Nat.le_of_ble_eq_true rfl, Nat.le_of_ble_eq_true rfl⟩ rfl rfl (ok_X8_window p2 (I978 (b + 1) 6) I978 L979 h) ?_ ?_
      · intro e9 u9 hx9
        exact hx9.elim
      intro v9 u9 hv9
      obtain ⟨r981, rfl, rfl, h⟩ := hv9
      refine ⟨fun q => absurd q (Nat.lt_irrefl _), ?_⟩
      show V G Y_X8_toggle 94 _ (.long r981 :: _) _ _ _ _ _
      refine v_lxor (pc' := 95) 43 rfl rfl ?_
      obtain ⟨hi982, h⟩ := h
      refine v_last (i := p1) (j := p1.toNatClampNeg) (pc' := 96) 44 rfl rfl (bn11l hb) (bn11n hb) (lay_lt (bn11l hb) (by decide)) hi982 rfl ?_
      refine nm_N (e := (up2 L979 (b + 11) (p1.toNatClampNeg) ((L979 (b + 11) (p1.toNatClampNeg)) ^^^ r981))) (fun L983 hL983 => ?_)
      replace h := h L983 hL983
      refine v_aload_n (pc' := 97) 45 0 rfl rfl rfl rfl ?_
      refine v_getR (t := b) (pc' := 100) 46 rfl rfl pf_X8_40 ly_0 (lay_lt ly_0 (by decide)) rt_0_5 ?_
      refine v_iload_n (pc' := 101) 47 1 rfl rfl rfl rfl ?_
      refine v_cV (Y2 := Y_X0_unsettle) (As := [.int p1]) (b := b) (pc' := 104) (c1 := 0) (s1 := 0) 48 rfl rfl mf_X0_unsettle rfl rfl ml_X8_347 mi_X0_unsettle se_X0_unsettle (ci := 0) rfl (bn0l hb) (lay_lt (bn0l hb) (by decide)) rfl (Nat.le_of_ble_eq_true rfl) ⟨Nat.le_of_ble_eq_true rfl, Nat.le_of_ble_eq_true rfl⟩ rfl rfl (ok_X0_unsettle b p1 I978 L983 hb h) ?_ ?_
      · intro e9 u9 hx9
        exact hx9.elim
      intro v9 u9 hv9
      obtain ⟨r984, I985, L986, rfl, rfl, h⟩ := hv9
      refine ⟨fun q => absurd q (Nat.lt_irrefl _), ?_⟩
      show V G Y_X8_toggle 104 _ (.int r984 :: _) _ _ _ _ _
      exact v_iret 49 rfl rfl (by decide) (by decide) ⟨_, _, _, rfl, rfl, h⟩
    replace h := h.2 hc
    exact (hX _ _ _ h).elim
  replace h := h.2 hc
  exact (hX _ _ _ h).elim
set_option maxHeartbeats 4000000 in
set_option maxRecDepth 100000 in
theorem ok_X8_deposit {G : GT} {t : Nat} (p1 : Int32) (p2 : Int32) (I : TI) (L : TL) (b : Nat) (d : Nat) (hb : bnOK b) (hd : bnOK d) {Q : Int32 → TI → TL → Prop} {QX : String → TI → TL → Prop} (h : W_X8_deposit p1 p2 I L b d Q QX) (hX : ∀ (e9 : String) (I9 : TI) (L9 : TL), QX e9 I9 L9 → False) : MW G Y_X8_deposit [.ref 0, .int p1, .int p2] (I, L, RT b d t, 457) (fun v9 u9 => ∃ (r9 : Int32) (I9 : TI) (L9 : TL), v9 = some (.int r9) ∧ u9 = (I9, L9, RT b d t, 457) ∧ Q r9 I9 L9) (fun _ _ => False) := by
  unfold W_X8_deposit at h
  refine MW.intro rfl (by decide) is_X8_deposit (Nat.le_of_ble_eq_true rfl) ?_
  show V G Y_X8_deposit 0 [(0, .ref 0), (1, .int p1), (2, .int p2)] [] (I, L, RT b d t, 457) 0 0 _ _
  refine v_iload_n (pc' := 1) 0 1 rfl rfl rfl rfl ?_
  refine v_if_lt (tgt := 20) (pc' := 4) 1 rfl rfl (by decide) (fun hc => ?_) (fun hc => ?_)
  · replace h := h.1 hc
    exact (hX _ _ _ h).elim
  replace h := h.2 hc
  refine v_iload_n (pc' := 5) 2 1 rfl rfl rfl rfl ?_
  refine v_iconst (v := 3) (pc' := 6) 3 rfl rfl (by decide) ?_
  refine v_icmp_ge (tgt := 20) (pc' := 9) 4 rfl rfl (by decide) (fun hc => ?_) (fun hc => ?_)
  · replace h := h.1 hc
    exact (hX _ _ _ h).elim
  replace h := h.2 hc
  refine v_iload_n (pc' := 10) 5 2 rfl rfl rfl rfl ?_
  refine v_if_lt (tgt := 20) (pc' := 13) 6 rfl rfl (by decide) (fun hc => ?_) (fun hc => ?_)
  · replace h := h.1 hc
    exact (hX _ _ _ h).elim
  replace h := h.2 hc
  refine v_iload_n (pc' := 14) 7 2 rfl rfl rfl rfl ?_
  refine v_ldc_w (v := 99999) (pc' := 17) 8 rfl rfl ki_X8_358 ?_
  refine v_icmp_le (tgt := 31) (pc' := 20) 9 rfl rfl (by decide) (fun hc => ?_) (fun hc => ?_)
  · replace h := h.1 hc
    refine v_aload_n (pc' := 32) 15 0 rfl rfl rfl rfl ?_
    refine v_getR (t := b) (pc' := 35) 16 rfl rfl pf_X8_40 ly_0 (lay_lt ly_0 (by decide)) rt_0_5 ?_
    refine v_getR (t := (b + 6)) (pc' := 38) 17 rfl rfl pf_X8_114 (bn0l hb) (lay_lt (bn0l hb) (by decide)) (rt_bn_1 hb) ?_
    refine v_getR (t := (b + 15)) (pc' := 41) 18 rfl rfl pf_X8_132 (bn6l hb) (lay_lt (bn6l hb) (by decide)) (rt_st_5 (bn_st hb)) ?_
    refine v_iload_n (pc' := 42) 19 1 rfl rfl rfl rfl ?_
    obtain ⟨hi991, h⟩ := h
    refine v_iald (i := p1) (j := p1.toNatClampNeg) (pc' := 43) 20 rfl rfl (bn15l hb) (bn15n hb) (lay_lt (bn15l hb) (by decide)) hi991 rfl ?_
    refine v_iload_n (pc' := 44) 21 2 rfl rfl rfl rfl ?_
    refine v_iadd (pc' := 45) 22 rfl rfl ?_
    refine nm_I (e := ((I (b + 15) (p1.toNatClampNeg)) + p2)) (fun x992 hx992 => ?_)
    replace h := h x992 hx992
    refine v_istore_n (ls' := [(3, .int x992), (0, .ref 0), (1, .int p1), (2, .int p2)]) (pc' := 46) 23 rfl rfl rfl (by decide) rfl ?_
    refine v_iload_n (pc' := 47) 24 0 rfl rfl rfl rfl ?_
    refine v_ldc_w (v := 1000000) (pc' := 50) 25 rfl rfl ki_X8_361 ?_
    refine v_icmp_le (tgt := 56) (pc' := 53) 26 rfl rfl (by decide) (fun hc => ?_) (fun hc => ?_)
    · replace h := h.1 hc
      refine v_aload_n (pc' := 57) 29 1 rfl rfl rfl rfl ?_
      refine v_getR (t := 1) (pc' := 60) 30 rfl rfl pf_X8_10 ly_0 (lay_lt ly_0 (by decide)) rt_0_0 ?_
      refine v_aload_n (pc' := 61) 31 1 rfl rfl rfl rfl ?_
      refine v_getR (t := b) (pc' := 64) 32 rfl rfl pf_X8_40 ly_0 (lay_lt ly_0 (by decide)) rt_0_5 ?_
      refine v_getR (t := (b + 6)) (pc' := 67) 33 rfl rfl pf_X8_114 (bn0l hb) (lay_lt (bn0l hb) (by decide)) (rt_bn_1 hb) ?_
      refine v_cV (Y2 := Y_X4_record) (As := [.ref (b + 6)]) (b := 1) (pc' := 70) (c1 := 0) (s1 := 0) 34 rfl rfl mf_X4_record rfl rfl ml_X8_321 mi_X4_record se_X4_record (ci := 3) rfl ly_1 (lay_lt ly_1 (by decide)) rfl (Nat.le_of_ble_eq_true rfl) ⟨Nat.le_of_ble_eq_true rfl, Nat.le_of_ble_eq_true rfl⟩ rfl rfl (ok_X4_record (b + 6) I L (bn_st hb) h) ?_ ?_
      · intro e9 u9 hx9
        exact hx9.elim
      intro v9 u9 hv9
      obtain ⟨I993, L994, rfl, rfl, h⟩ := hv9
      refine ⟨fun q => absurd q (Nat.lt_irrefl _), ?_⟩
      show V G Y_X8_deposit 70 _ _ _ _ _ _ _
      refine v_aload_n (pc' := 71) 35 1 rfl rfl rfl rfl ?_
      refine v_getR (t := b) (pc' := 74) 36 rfl rfl pf_X8_40 ly_0 (lay_lt ly_0 (by decide)) rt_0_5 ?_
      refine v_getR (t := (b + 6)) (pc' := 77) 37 rfl rfl pf_X8_114 (bn0l hb) (lay_lt (bn0l hb) (by decide)) (rt_bn_1 hb) ?_
      refine v_getR (t := (b + 15)) (pc' := 80) 38 rfl rfl pf_X8_132 (bn6l hb) (lay_lt (bn6l hb) (by decide)) (rt_st_5 (bn_st hb)) ?_
      refine v_iload_n (pc' := 81) 39 2 rfl rfl rfl rfl ?_
      refine v_iload_n (pc' := 82) 40 0 rfl rfl rfl rfl ?_
      obtain ⟨hi995, h⟩ := h
      refine v_iast (i := p1) (j := p1.toNatClampNeg) (pc' := 83) 41 rfl rfl (bn15l hb) (bn15n hb) (lay_lt (bn15l hb) (by decide)) hi995 rfl ?_
      refine v_iload_n (pc' := 84) 42 0 rfl rfl rfl rfl ?_
      exact v_iret 43 rfl rfl (by decide) (by decide) ⟨_, _, _, rfl, rfl, h⟩
    replace h := h.2 hc
    refine v_bipush (v := -3) (pc' := 55) 27 rfl rfl (by decide) ?_
    exact v_iret 28 rfl rfl (by decide) (by decide) ⟨_, _, _, rfl, rfl, h⟩
  replace h := h.2 hc
  exact (hX _ _ _ h).elim
