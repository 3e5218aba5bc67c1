set_option maxHeartbeats 4000000 in
set_option maxRecDepth 100000 in
theorem ok_L_load {G : GT} (p1 : Int32) (I : TI) (L : TL) (b : Nat) (d : Nat) (t : Nat) (hb : bnOK b) (hd : bnOK d) (ht : txOK t) {Q : Int32 → TI → TL → Nat → Nat → Nat → Prop} (h : W_L_load p1 I L b d t Q) : MW G Y_L_load [.ref 0, .int p1, .ref 456] (I, L, RT b d t, 457) (fun v9 u9 => ∃ (r9 : Int32) (I9 : TI) (L9 : TL) (b9 : Nat) (d9 : Nat) (t9 : Nat), v9 = some (.int r9) ∧ u9 = (I9, L9, RT b9 d9 t9, 457) ∧ Q r9 I9 L9 b9 d9 t9) (fun _ _ => False) := by
  unfold W_L_load at h
  refine MW.introH rfl (by decide) is_L_load (Nat.le_of_ble_eq_true rfl) ?_
  show V G Y_L_load 0 [(0, .ref 0), (1, .int p1), (2, .ref 456)] [] (I, L, RT b d t, 457) 0 0 _ _
  refine v_aload_n (pc' := 1) 0 2 rfl rfl rfl rfl ?_
  refine v_iconst (v := 0) (pc' := 2) 1 rfl rfl (by decide) ?_
  refine v_aload_n (pc' := 3) 2 0 rfl rfl rfl rfl ?_
  refine v_iload_n (pc' := 4) 3 1 rfl rfl rfl rfl ?_
  refine v_cV (Y2 := Y_X8_load) (As := [.int p1]) (b := 0) (pc' := 7) (c1 := 1) (s1 := 6) 4 rfl rfl mf_X8_load rfl rfl ml_L_7 mi_X8_load se_X8_load (ci := 7) rfl ly_0 (lay_lt ly_0 (by decide)) rfl (Nat.le_of_ble_eq_true rfl) ⟨Nat.le_of_ble_eq_true rfl, Nat.le_of_ble_eq_true rfl⟩ rfl rfl (ok_X8_load p1 I L b d t hb hd ht h) ?_ ?_
  · intro e9 u9 hx9
    obtain ⟨I8, L8, b8, d8, t8, rfl, hx9⟩ := hx9
    obtain ⟨rfl, hx9⟩ := hx9
    exact vx_c1 (i := 3) (n := 1) (v := 1) 8 9 10 rfl (by decide) (by decide) cl_L_13 (by decide) (Or.inl ⟨3, rfl, rfl, rfl, rfl⟩) (by decide) (by decide) rfl (by decide) (by decide) ⟨_, _, _, _, _, _, rfl, rfl, hx9⟩
  intro v9 u9 hv9
  obtain ⟨r3709, I3710, L3711, b3712, d3713, t3714, rfl, rfl, h⟩ := hv9
  refine ⟨fun q => absurd q (Nat.lt_irrefl _), ?_⟩
  obtain ⟨hb3715, h⟩ := h
  obtain ⟨hd3716, h⟩ := h
  obtain ⟨ht3717, h⟩ := h
  show V G Y_L_load 7 _ (.int r3709 :: _) _ _ _ _ _
  refine v_i2l (pc' := 8) 5 rfl rfl ?_
  refine v_last (i := 0) (j := 0) (pc' := 9) 6 rfl rfl ly_456 ln_456 (lay_lt ly_456 (by decide)) (vp_lit (by decide)) (by decide) ?_
  refine v_goto (tgt := 15) 7 rfl (by decide) ?_
  refine v_iconst (v := 0) (pc' := 16) 11 rfl rfl (by decide) ?_
  exact v_iret 12 rfl rfl (by decide) (by decide) ⟨_, _, _, _, _, _, rfl, rfl, h⟩
set_option maxHeartbeats 4000000 in
set_option maxRecDepth 100000 in
theorem ok_L_size {G : GT} {t : Nat} (p1 : Int32) (I : TI) (L : TL) (b : Nat) (d : Nat) (hb : bnOK b) (hd : bnOK d) {Q : Int32 → TL → Prop} (h : W_L_size p1 I L b d Q) : MW G Y_L_size [.ref 0, .int p1, .ref 456] (I, L, RT b d t, 457) (fun v9 u9 => ∃ (r9 : Int32) (L9 : TL), v9 = some (.int r9) ∧ u9 = (I, L9, RT b d t, 457) ∧ Q r9 L9) (fun _ _ => False) := by
  unfold W_L_size at h
  refine MW.introH rfl (by decide) is_L_size (Nat.le_of_ble_eq_true rfl) ?_
  show V G Y_L_size 0 [(0, .ref 0), (1, .int p1), (2, .ref 456)] [] (I, L, RT b d t, 457) 0 0 _ _
  refine v_aload_n (pc' := 1) 0 2 rfl rfl rfl rfl ?_
  refine v_iconst (v := 0) (pc' := 2) 1 rfl rfl (by decide) ?_
  refine v_aload_n (pc' := 3) 2 0 rfl rfl rfl rfl ?_
  refine v_iload_n (pc' := 4) 3 1 rfl rfl rfl rfl ?_
  refine v_cV (Y2 := Y_X8_size) (As := [.int p1]) (b := 0) (pc' := 7) (c1 := 1) (s1 := 6) 4 rfl rfl mf_X8_size rfl rfl ml_L_15 mi_X8_size se_X8_size (ci := 7) rfl ly_0 (lay_lt ly_0 (by decide)) rfl (Nat.le_of_ble_eq_true rfl) ⟨Nat.le_of_ble_eq_true rfl, Nat.le_of_ble_eq_true rfl⟩ rfl rfl (ok_X8_size p1 I L b d hb hd h) ?_ ?_
  · intro e9 u9 hx9
    obtain ⟨rfl, hx9⟩ := hx9
    obtain ⟨rfl, hx9⟩ := hx9
    exact vx_c1 (i := 3) (n := 1) (v := 1) 8 9 10 rfl (by decide) (by decide) cl_L_18 (by decide) (Or.inl ⟨3, rfl, rfl, rfl, rfl⟩) (by decide) (by decide) rfl (by decide) (by decide) ⟨_, _, rfl, rfl, hx9⟩
  intro v9 u9 hv9
  obtain ⟨r3719, rfl, rfl, h⟩ := hv9
  refine ⟨fun q => absurd q (Nat.lt_irrefl _), ?_⟩
  show V G Y_L_size 7 _ (.int r3719 :: _) _ _ _ _ _
  refine v_i2l (pc' := 8) 5 rfl rfl ?_
  refine v_last (i := 0) (j := 0) (pc' := 9) 6 rfl rfl ly_456 ln_456 (lay_lt ly_456 (by decide)) (vp_lit (by decide)) (by decide) ?_
  refine v_goto (tgt := 15) 7 rfl (by decide) ?_
  refine v_iconst (v := 0) (pc' := 16) 11 rfl rfl (by decide) ?_
  exact v_iret 12 rfl rfl (by decide) (by decide) ⟨_, _, rfl, rfl, h⟩
set_option maxHeartbeats 4000000 in
set_option maxRecDepth 100000 in
theorem ok_L_gate {G : GT} {t : Nat} (p1 : Int32) (p2 : Int32) (I : TI) (L : TL) (b : Nat) (d : Nat) (hb : bnOK b) (hd : bnOK d) {Q : Int32 → TL → Prop} (h : W_L_gate p1 p2 I L b d Q) : MW G Y_L_gate [.ref 0, .int p1, .int p2, .ref 456] (I, L, RT b d t, 457) (fun v9 u9 => ∃ (r9 : Int32) (L9 : TL), v9 = some (.int r9) ∧ u9 = (I, L9, RT b d t, 457) ∧ Q r9 L9) (fun _ _ => False) := by
  unfold W_L_gate at h
  refine MW.introH rfl (by decide) is_L_gate (Nat.le_of_ble_eq_true rfl) ?_
  show V G Y_L_gate 0 [(0, .ref 0), (1, .int p1), (2, .int p2), (3, .ref 456)] [] (I, L, RT b d t, 457) 0 0 _ _
  refine v_aload_n (pc' := 1) 0 3 rfl rfl rfl rfl ?_
  refine v_iconst (v := 0) (pc' := 2) 1 rfl rfl (by decide) ?_
  refine v_aload_n (pc' := 3) 2 0 rfl rfl rfl rfl ?_
  refine v_iload_n (pc' := 4) 3 1 rfl rfl rfl rfl ?_
  refine v_iload_n (pc' := 5) 4 2 rfl rfl rfl rfl ?_
  refine v_cV (Y2 := Y_X8_gate) (As := [.int p1, .int p2]) (b := 0) (pc' := 8) (c1 := 2) (s1 := 12) 5 rfl rfl mf_X8_gate rfl rfl ml_L_20 mi_X8_gate se_X8_gate (ci := 7) rfl ly_0 (lay_lt ly_0 (by decide)) rfl (Nat.le_of_ble_eq_true rfl) ⟨Nat.le_of_ble_eq_true rfl, Nat.le_of_ble_eq_true rfl⟩ rfl rfl (ok_X8_gate p1 p2 I L b d hb hd h) ?_ ?_
  · intro e9 u9 hx9
    obtain ⟨rfl, hx9⟩ := hx9
    obtain ⟨rfl, hx9⟩ := hx9
    exact vx_c1 (i := 4) (n := 1) (v := 1) 9 10 11 rfl (by decide) (by decide) cl_L_18 (by decide) (Or.inr ⟨rfl, rfl, rfl⟩) (by decide) (by decide) rfl (by decide) (by decide) ⟨_, _, rfl, rfl, hx9⟩
  intro v9 u9 hv9
  obtain ⟨r3721, rfl, rfl, h⟩ := hv9
  refine ⟨fun q => absurd q (Nat.lt_irrefl _), ?_⟩
  show V G Y_L_gate 8 _ (.int r3721 :: _) _ _ _ _ _
  refine v_i2l (pc' := 9) 6 rfl rfl ?_
  refine v_last (i := 0) (j := 0) (pc' := 10) 7 rfl rfl ly_456 ln_456 (lay_lt ly_456 (by decide)) (vp_lit (by decide)) (by decide) ?_
  refine v_goto (tgt := 17) 8 rfl (by decide) ?_
  refine v_iconst (v := 0) (pc' := 18) 12 rfl rfl (by decide) ?_
  exact v_iret 13 rfl rfl (by decide) (by decide) ⟨_, _, rfl, rfl, h⟩
set_option maxHeartbeats 4000000 in
set_option maxRecDepth 100000 in
theorem ok_L_value {G : GT} {t : Nat} (p1 : Int32) (p2 : Int32) (p3 : Int32) (I : TI) (L : TL) (b : Nat) (d : Nat) (hb : bnOK b) (hd : bnOK d) {Q : Int32 → TL → Prop} (h : W_L_value p1 p2 p3 I L b d Q) : MW G Y_L_value [.ref 0, .int p1, .int p2, .int p3, .ref 456] (I, L, RT b d t, 457) (fun v9 u9 => ∃ (r9 : Int32) (L9 : TL), v9 = some (.int r9) ∧ u9 = (I, L9, RT b d t, 457) ∧ Q r9 L9) (fun _ _ => False) := by
  unfold W_L_value at h
  refine MW.introH rfl (by decide) is_L_value (Nat.le_of_ble_eq_true rfl) ?_
  show V G Y_L_value 0 [(0, .ref 0), (1, .int p1), (2, .int p2), (3, .int p3), (4, .ref 456)] [] (I, L, RT b d t, 457) 0 0 _ _
  refine v_aload (pc' := 2) 0 4 rfl rfl rfl ?_
  refine v_iconst (v := 0) (pc' := 3) 1 rfl rfl (by decide) ?_
  refine v_aload_n (pc' := 4) 2 0 rfl rfl rfl rfl ?_
  refine v_iload_n (pc' := 5) 3 1 rfl rfl rfl rfl ?_
  refine v_iload_n (pc' := 6) 4 2 rfl rfl rfl rfl ?_
  refine v_iload_n (pc' := 7) 5 3 rfl rfl rfl rfl ?_
  refine v_cV (Y2 := Y_X8_value) (As := [.int p1, .int p2, .int p3]) (b := 0) (pc' := 10) (c1 := 3) (s1 := 18) 6 rfl rfl mf_X8_value rfl rfl ml_L_24 mi_X8_value se_X8_value (ci := 7) rfl ly_0 (lay_lt ly_0 (by decide)) rfl (Nat.le_of_ble_eq_true rfl) ⟨Nat.le_of_ble_eq_true rfl, Nat.le_of_ble_eq_true rfl⟩ rfl rfl (ok_X8_value p1 p2 p3 I L b d hb hd h) ?_ ?_
  · intro e9 u9 hx9
    obtain ⟨rfl, hx9⟩ := hx9
    obtain ⟨rfl, hx9⟩ := hx9
    exact vx_c1 (i := 5) (n := 1) (v := 1) 10 11 12 rfl (by decide) (by decide) cl_L_18 (by decide) (Or.inr ⟨rfl, rfl, rfl⟩) (by decide) (by decide) rfl (by decide) (by decide) ⟨_, _, rfl, rfl, hx9⟩
  intro v9 u9 hv9
  obtain ⟨r3723, rfl, rfl, h⟩ := hv9
  refine ⟨fun q => absurd q (Nat.lt_irrefl _), ?_⟩
  show V G Y_L_value 10 _ (.int r3723 :: _) _ _ _ _ _
  refine v_i2l (pc' := 11) 7 rfl rfl ?_
  refine v_last (i := 0) (j := 0) (pc' := 12) 8 rfl rfl ly_456 ln_456 (lay_lt ly_456 (by decide)) (vp_lit (by decide)) (by decide) ?_
  refine v_goto (tgt := 19) 9 rfl (by decide) ?_
  refine v_iconst (v := 0) (pc' := 20) 13 rfl rfl (by decide) ?_
  exact v_iret 14 rfl rfl (by decide) (by decide) ⟨_, _, rfl, rfl, h⟩
set_option maxHeartbeats 4000000 in
set_option maxRecDepth 100000 in
theorem ok_L_stateAt {G : GT} {t : Nat} (p1 : Int32) (p2 : Int32) (I : TI) (L : TL) (b : Nat) (d : Nat) (hb : bnOK b) (hd : bnOK d) {Q : Int32 → TL → Prop} (h : W_L_stateAt p1 p2 I L b d Q) : MW G Y_L_stateAt [.ref 0, .int p1, .int p2, .ref 456] (I, L, RT b d t, 457) (fun v9 u9 => ∃ (r9 : Int32) (L9 : TL), v9 = some (.int r9) ∧ u9 = (I, L9, RT b d t, 457) ∧ Q r9 L9) (fun _ _ => False) := by
  unfold W_L_stateAt at h
  refine MW.introH rfl (by decide) is_L_stateAt (Nat.le_of_ble_eq_true rfl) ?_
  show V G Y_L_stateAt 0 [(0, .ref 0), (1, .int p1), (2, .int p2), (3, .ref 456)] [] (I, L, RT b d t, 457) 0 0 _ _
  refine v_aload_n (pc' := 1) 0 3 rfl rfl rfl rfl ?_
  refine v_iconst (v := 0) (pc' := 2) 1 rfl rfl (by decide) ?_
  refine v_aload_n (pc' := 3) 2 0 rfl rfl rfl rfl ?_
  refine v_iload_n (pc' := 4) 3 1 rfl rfl rfl rfl ?_
  refine v_iload_n (pc' := 5) 4 2 rfl rfl rfl rfl ?_
  refine v_cV (Y2 := Y_X8_stateAt) (As := [.int p1, .int p2]) (b := 0) (pc' := 8) (c1 := 2) (s1 := 12) 5 rfl rfl mf_X8_stateAt rfl rfl ml_L_28 mi_X8_stateAt se_X8_stateAt (ci := 7) rfl ly_0 (lay_lt ly_0 (by decide)) rfl (Nat.le_of_ble_eq_true rfl) ⟨Nat.le_of_ble_eq_true rfl, Nat.le_of_ble_eq_true rfl⟩ rfl rfl (ok_X8_stateAt p1 p2 I L b d hb hd h) ?_ ?_
  · intro e9 u9 hx9
    obtain ⟨rfl, hx9⟩ := hx9
    obtain ⟨rfl, hx9⟩ := hx9
    exact vx_c1 (i := 4) (n := 1) (v := 1) 9 10 11 rfl (by decide) (by decide) cl_L_18 (by decide) (Or.inr ⟨rfl, rfl, rfl⟩) (by decide) (by decide) rfl (by decide) (by decide) ⟨_, _, rfl, rfl, hx9⟩
  intro v9 u9 hv9
  obtain ⟨r3725, rfl, rfl, h⟩ := hv9
  refine ⟨fun q => absurd q (Nat.lt_irrefl _), ?_⟩
  show V G Y_L_stateAt 8 _ (.int r3725 :: _) _ _ _ _ _
  refine v_i2l (pc' := 9) 6 rfl rfl ?_
  refine v_last (i := 0) (j := 0) (pc' := 10) 7 rfl rfl ly_456 ln_456 (lay_lt ly_456 (by decide)) (vp_lit (by decide)) (by decide) ?_
  refine v_goto (tgt := 17) 8 rfl (by decide) ?_
  refine v_iconst (v := 0) (pc' := 18) 12 rfl rfl (by decide) ?_
  exact v_iret 13 rfl rfl (by decide) (by decide) ⟨_, _, rfl, rfl, h⟩
set_option maxHeartbeats 4000000 in
set_option maxRecDepth 100000 in
theorem ok_L_wave {G : GT} {t : Nat} (p1 : Int32) (p2 : Int32) (I : TI) (L : TL) (b : Nat) (d : Nat) (hb : bnOK b) (hd : bnOK d) {Q : Int32 → TL → Prop} (h : W_L_wave p1 p2 I L b d Q) : MW G Y_L_wave [.ref 0, .int p1, .int p2, .ref 456] (I, L, RT b d t, 457) (fun v9 u9 => ∃ (r9 : Int32) (L9 : TL), v9 = some (.int r9) ∧ u9 = (I, L9, RT b d t, 457) ∧ Q r9 L9) (fun _ _ => False) := by
  unfold W_L_wave at h
  refine MW.introH rfl (by decide) is_L_wave (Nat.le_of_ble_eq_true rfl) ?_
  show V G Y_L_wave 0 [(0, .ref 0), (1, .int p1), (2, .int p2), (3, .ref 456)] [] (I, L, RT b d t, 457) 0 0 _ _
  refine v_aload_n (pc' := 1) 0 3 rfl rfl rfl rfl ?_
  refine v_iconst (v := 0) (pc' := 2) 1 rfl rfl (by decide) ?_
  refine v_aload_n (pc' := 3) 2 0 rfl rfl rfl rfl ?_
  refine v_iload_n (pc' := 4) 3 1 rfl rfl rfl rfl ?_
  refine v_iload_n (pc' := 5) 4 2 rfl rfl rfl rfl ?_
  refine v_cV (Y2 := Y_X8_wave) (As := [.int p1, .int p2]) (b := 0) (pc' := 8) (c1 := 2) (s1 := 12) 5 rfl rfl mf_X8_wave rfl rfl ml_L_31 mi_X8_wave se_X8_wave (ci := 7) rfl ly_0 (lay_lt ly_0 (by decide)) rfl (Nat.le_of_ble_eq_true rfl) ⟨Nat.le_of_ble_eq_true rfl, Nat.le_of_ble_eq_true rfl⟩ rfl rfl (ok_X8_wave p1 p2 I L b d hb hd h) ?_ ?_
  · intro e9 u9 hx9
    obtain ⟨rfl, hx9⟩ := hx9
    obtain ⟨rfl, hx9⟩ := hx9
    exact vx_c1 (i := 4) (n := 1) (v := 1) 8 9 10 rfl (by decide) (by decide) cl_L_18 (by decide) (Or.inr ⟨rfl, rfl, rfl⟩) (by decide) (by decide) rfl (by decide) (by decide) ⟨_, _, rfl, rfl, hx9⟩
  intro v9 u9 hv9
  obtain ⟨r3727, rfl, rfl, h⟩ := hv9
  refine ⟨fun q => absurd q (Nat.lt_irrefl _), ?_⟩
  show V G Y_L_wave 8 _ (.long r3727 :: _) _ _ _ _ _
  refine v_last (i := 0) (j := 0) (pc' := 9) 6 rfl rfl ly_456 ln_456 (lay_lt ly_456 (by decide)) (vp_lit (by decide)) (by decide) ?_
  refine v_goto (tgt := 16) 7 rfl (by decide) ?_
  refine v_iconst (v := 0) (pc' := 17) 11 rfl rfl (by decide) ?_
  exact v_iret 12 rfl rfl (by decide) (by decide) ⟨_, _, rfl, rfl, h⟩
set_option maxHeartbeats 4000000 in
set_option maxRecDepth 100000 in
theorem ok_L_changes {G : GT} {t : Nat} (p1 : Int32) (p2 : Int32) (I : TI) (L : TL) (b : Nat) (d : Nat) (hb : bnOK b) (hd : bnOK d) {Q : Int32 → TL → Prop} (h : W_L_changes p1 p2 I L b d Q) : MW G Y_L_changes [.ref 0, .int p1, .int p2, .ref 456] (I, L, RT b d t, 457) (fun v9 u9 => ∃ (r9 : Int32) (L9 : TL), v9 = some (.int r9) ∧ u9 = (I, L9, RT b d t, 457) ∧ Q r9 L9) (fun _ _ => False) := by
  unfold W_L_changes at h
  refine MW.introH rfl (by decide) is_L_changes (Nat.le_of_ble_eq_true rfl) ?_
  show V G Y_L_changes 0 [(0, .ref 0), (1, .int p1), (2, .int p2), (3, .ref 456)] [] (I, L, RT b d t, 457) 0 0 _ _
  refine v_aload_n (pc' := 1) 0 3 rfl rfl rfl rfl ?_
  refine v_iconst (v := 0) (pc' := 2) 1 rfl rfl (by decide) ?_
  refine v_aload_n (pc' := 3) 2 0 rfl rfl rfl rfl ?_
  refine v_iload_n (pc' := 4) 3 1 rfl rfl rfl rfl ?_
  refine v_iload_n (pc' := 5) 4 2 rfl rfl rfl rfl ?_
  refine v_cV (Y2 := Y_X8_changes) (As := [.int p1, .int p2]) (b := 0) (pc' := 8) (c1 := 2) (s1 := 12) 5 rfl rfl mf_X8_changes rfl rfl ml_L_35 mi_X8_changes se_X8_changes (ci := 7) rfl ly_0 (lay_lt ly_0 (by decide)) rfl (Nat.le_of_ble_eq_true rfl) ⟨Nat.le_of_ble_eq_true rfl, Nat.le_of_ble_eq_true rfl⟩ rfl rfl (ok_X8_changes p1 p2 I L b d hb hd h) ?_ ?_
  · intro e9 u9 hx9
    obtain ⟨rfl, hx9⟩ := hx9
    obtain ⟨rfl, hx9⟩ := hx9
    exact vx_c1 (i := 4) (n := 1) (v := 1) 9 10 11 rfl (by decide) (by decide) cl_L_18 (by decide) (Or.inr ⟨rfl, rfl, rfl⟩) (by decide) (by decide) rfl (by decide) (by decide) ⟨_, _, rfl, rfl, hx9⟩
  intro v9 u9 hv9
  obtain ⟨r3729, rfl, rfl, h⟩ := hv9
  refine ⟨fun q => absurd q (Nat.lt_irrefl _), ?_⟩
  show V G Y_L_changes 8 _ (.int r3729 :: _) _ _ _ _ _
  refine v_i2l (pc' := 9) 6 rfl rfl ?_
  refine v_last (i := 0) (j := 0) (pc' := 10) 7 rfl rfl ly_456 ln_456 (lay_lt ly_456 (by decide)) (vp_lit (by decide)) (by decide) ?_
  refine v_goto (tgt := 17) 8 rfl (by decide) ?_
  refine v_iconst (v := 0) (pc' := 18) 12 rfl rfl (by decide) ?_
  exact v_iret 13 rfl rfl (by decide) (by decide) ⟨_, _, rfl, rfl, h⟩
set_option maxHeartbeats 4000000 in
set_option maxRecDepth 100000 in
theorem ok_L_quietFrom {G : GT} {t : Nat} (p1 : Int32) (p2 : Int32) (I : TI) (L : TL) (b : Nat) (d : Nat) (hb : bnOK b) (hd : bnOK d) {Q : Int32 → TL → Prop} (h : W_L_quietFrom p1 p2 I L b d Q) : MW G Y_L_quietFrom [.ref 0, .int p1, .int p2, .ref 456] (I, L, RT b d t, 457) (fun v9 u9 => ∃ (r9 : Int32) (L9 : TL), v9 = some (.int r9) ∧ u9 = (I, L9, RT b d t, 457) ∧ Q r9 L9) (fun _ _ => False) := by
  unfold W_L_quietFrom at h
  refine MW.introH rfl (by decide) is_L_quietFrom (Nat.le_of_ble_eq_true rfl) ?_
  show V G Y_L_quietFrom 0 [(0, .ref 0), (1, .int p1), (2, .int p2), (3, .ref 456)] [] (I, L, RT b d t, 457) 0 0 _ _
  refine v_aload_n (pc' := 1) 0 3 rfl rfl rfl rfl ?_
  refine v_iconst (v := 0) (pc' := 2) 1 rfl rfl (by decide) ?_
  refine v_aload_n (pc' := 3) 2 0 rfl rfl rfl rfl ?_
  refine v_iload_n (pc' := 4) 3 1 rfl rfl rfl rfl ?_
  refine v_iload_n (pc' := 5) 4 2 rfl rfl rfl rfl ?_
  refine v_cV (Y2 := Y_X8_quietFrom) (As := [.int p1, .int p2]) (b := 0) (pc' := 8) (c1 := 2) (s1 := 12) 5 rfl rfl mf_X8_quietFrom rfl rfl ml_L_38 mi_X8_quietFrom se_X8_quietFrom (ci := 7) rfl ly_0 (lay_lt ly_0 (by decide)) rfl (Nat.le_of_ble_eq_true rfl) ⟨Nat.le_of_ble_eq_true rfl, Nat.le_of_ble_eq_true rfl⟩ rfl rfl (ok_X8_quietFrom p1 p2 I L b d hb hd h) ?_ ?_
  · intro e9 u9 hx9
    obtain ⟨rfl, hx9⟩ := hx9
    obtain ⟨rfl, hx9⟩ := hx9
    exact vx_c1 (i := 4) (n := 1) (v := 1) 9 10 11 rfl (by decide) (by decide) cl_L_18 (by decide) (Or.inr ⟨rfl, rfl, rfl⟩) (by decide) (by decide) rfl (by decide) (by decide) ⟨_, _, rfl, rfl, hx9⟩
  intro v9 u9 hv9
  obtain ⟨r3731, rfl, rfl, h⟩ := hv9
  refine ⟨fun q => absurd q (Nat.lt_irrefl _), ?_⟩
  show V G Y_L_quietFrom 8 _ (.int r3731 :: _) _ _ _ _ _
  refine v_i2l (pc' := 9) 6 rfl rfl ?_
  refine v_last (i := 0) (j := 0) (pc' := 10) 7 rfl rfl ly_456 ln_456 (lay_lt ly_456 (by decide)) (vp_lit (by decide)) (by decide) ?_
  refine v_goto (tgt := 17) 8 rfl (by decide) ?_
  refine v_iconst (v := 0) (pc' := 18) 12 rfl rfl (by decide) ?_
  exact v_iret 13 rfl rfl (by decide) (by decide) ⟨_, _, rfl, rfl, h⟩
set_option maxHeartbeats 4000000 in
set_option maxRecDepth 100000 in
theorem ok_L_shortest {G : GT} {t : Nat} (p1 : Int32) (p2 : Int32) (I : TI) (L : TL) (b : Nat) (d : Nat) (hb : bnOK b) (hd : bnOK d) {Q : Int32 → TL → Prop} (h : W_L_shortest p1 p2 I L b d Q) : MW G Y_L_shortest [.ref 0, .int p1, .int p2, .ref 456] (I, L, RT b d t, 457) (fun v9 u9 => ∃ (r9 : Int32) (L9 : TL), v9 = some (.int r9) ∧ u9 = (I, L9, RT b d t, 457) ∧ Q r9 L9) (fun _ _ => False) := by
  unfold W_L_shortest at h
  refine MW.introH rfl (by decide) is_L_shortest (Nat.le_of_ble_eq_true rfl) ?_
  show V G Y_L_shortest 0 [(0, .ref 0), (1, .int p1), (2, .int p2), (3, .ref 456)] [] (I, L, RT b d t, 457) 0 0 _ _
  refine v_aload_n (pc' := 1) 0 3 rfl rfl rfl rfl ?_
  refine v_iconst (v := 0) (pc' := 2) 1 rfl rfl (by decide) ?_
  refine v_aload_n (pc' := 3) 2 0 rfl rfl rfl rfl ?_
  refine v_iload_n (pc' := 4) 3 1 rfl rfl rfl rfl ?_
  refine v_iload_n (pc' := 5) 4 2 rfl rfl rfl rfl ?_
  refine v_cV (Y2 := Y_X8_shortest) (As := [.int p1, .int p2]) (b := 0) (pc' := 8) (c1 := 2) (s1 := 12) 5 rfl rfl mf_X8_shortest rfl rfl ml_L_41 mi_X8_shortest se_X8_shortest (ci := 7) rfl ly_0 (lay_lt ly_0 (by decide)) rfl (Nat.le_of_ble_eq_true rfl) ⟨Nat.le_of_ble_eq_true rfl, Nat.le_of_ble_eq_true rfl⟩ rfl rfl (ok_X8_shortest p1 p2 I L b d hb hd h) ?_ ?_
  · intro e9 u9 hx9
    obtain ⟨rfl, hx9⟩ := hx9
    obtain ⟨rfl, hx9⟩ := hx9
    exact vx_c1 (i := 4) (n := 1) (v := 1) 9 10 11 rfl (by decide) (by decide) cl_L_18 (by decide) (Or.inr ⟨rfl, rfl, rfl⟩) (by decide) (by decide) rfl (by decide) (by decide) ⟨_, _, rfl, rfl, hx9⟩
  intro v9 u9 hv9
  obtain ⟨r3733, rfl, rfl, h⟩ := hv9
  refine ⟨fun q => absurd q (Nat.lt_irrefl _), ?_⟩
  show V G Y_L_shortest 8 _ (.int r3733 :: _) _ _ _ _ _
  refine v_i2l (pc' := 9) 6 rfl rfl ?_
  refine v_last (i := 0) (j := 0) (pc' := 10) 7 rfl rfl ly_456 ln_456 (lay_lt ly_456 (by decide)) (vp_lit (by decide)) (by decide) ?_
  refine v_goto (tgt := 17) 8 rfl (by decide) ?_
  refine v_iconst (v := 0) (pc' := 18) 12 rfl rfl (by decide) ?_
  exact v_iret 13 rfl rfl (by decide) (by decide) ⟨_, _, rfl, rfl, h⟩
set_option maxHeartbeats 4000000 in
set_option maxRecDepth 100000 in
theorem ok_L_wrong {G : GT} {t : Nat} (p1 : Int32) (I : TI) (L : TL) (b : Nat) (d : Nat) (hb : bnOK b) (hd : bnOK d) {Q : Int32 → TL → Prop} (h : W_L_wrong p1 I L b d Q) : MW G Y_L_wrong [.ref 0, .int p1, .ref 456] (I, L, RT b d t, 457) (fun v9 u9 => ∃ (r9 : Int32) (L9 : TL), v9 = some (.int r9) ∧ u9 = (I, L9, RT b d t, 457) ∧ Q r9 L9) (fun _ _ => False) := by
  unfold W_L_wrong at h
  refine MW.introH rfl (by decide) is_L_wrong (Nat.le_of_ble_eq_true rfl) ?_
  show V G Y_L_wrong 0 [(0, .ref 0), (1, .int p1), (2, .ref 456)] [] (I, L, RT b d t, 457) 0 0 _ _
  refine v_aload_n (pc' := 1) 0 2 rfl rfl rfl rfl ?_
  refine v_iconst (v := 0) (pc' := 2) 1 rfl rfl (by decide) ?_
  refine v_aload_n (pc' := 3) 2 0 rfl rfl rfl rfl ?_
  refine v_iload_n (pc' := 4) 3 1 rfl rfl rfl rfl ?_
  refine v_cV (Y2 := Y_X8_wrong) (As := [.int p1]) (b := 0) (pc' := 7) (c1 := 1) (s1 := 6) 4 rfl rfl mf_X8_wrong rfl rfl ml_L_44 mi_X8_wrong se_X8_wrong (ci := 7) rfl ly_0 (lay_lt ly_0 (by decide)) rfl (Nat.le_of_ble_eq_true rfl) ⟨Nat.le_of_ble_eq_true rfl, Nat.le_of_ble_eq_true rfl⟩ rfl rfl (ok_X8_wrong p1 I L b d hb hd h) ?_ ?_
  · intro e9 u9 hx9
    obtain ⟨rfl, hx9⟩ := hx9
    obtain ⟨rfl, hx9⟩ := hx9
    exact vx_c1 (i := 3) (n := 1) (v := 1) 8 9 10 rfl (by decide) (by decide) cl_L_18 (by decide) (Or.inl ⟨3, rfl, rfl, rfl, rfl⟩) (by decide) (by decide) rfl (by decide) (by decide) ⟨_, _, rfl, rfl, hx9⟩
  intro v9 u9 hv9
  obtain ⟨r3735, rfl, rfl, h⟩ := hv9
  refine ⟨fun q => absurd q (Nat.lt_irrefl _), ?_⟩
  show V G Y_L_wrong 7 _ (.int r3735 :: _) _ _ _ _ _
  refine v_i2l (pc' := 8) 5 rfl rfl ?_
  refine v_last (i := 0) (j := 0) (pc' := 9) 6 rfl rfl ly_456 ln_456 (lay_lt ly_456 (by decide)) (vp_lit (by decide)) (by decide) ?_
  refine v_goto (tgt := 15) 7 rfl (by decide) ?_
  refine v_iconst (v := 0) (pc' := 16) 11 rfl rfl (by decide) ?_
  exact v_iret 12 rfl rfl (by decide) (by decide) ⟨_, _, rfl, rfl, h⟩
set_option maxHeartbeats 4000000 in
set_option maxRecDepth 100000 in
theorem ok_L_firstWrong {G : GT} {t : Nat} (p1 : Int32) (I : TI) (L : TL) (b : Nat) (d : Nat) (hb : bnOK b) (hd : bnOK d) {Q : Int32 → TL → Prop} (h : W_L_firstWrong p1 I L b d Q) : MW G Y_L_firstWrong [.ref 0, .int p1, .ref 456] (I, L, RT b d t, 457) (fun v9 u9 => ∃ (r9 : Int32) (L9 : TL), v9 = some (.int r9) ∧ u9 = (I, L9, RT b d t, 457) ∧ Q r9 L9) (fun _ _ => False) := by
  unfold W_L_firstWrong at h
  refine MW.introH rfl (by decide) is_L_firstWrong (Nat.le_of_ble_eq_true rfl) ?_
  show V G Y_L_firstWrong 0 [(0, .ref 0), (1, .int p1), (2, .ref 456)] [] (I, L, RT b d t, 457) 0 0 _ _
  refine v_aload_n (pc' := 1) 0 2 rfl rfl rfl rfl ?_
  refine v_iconst (v := 0) (pc' := 2) 1 rfl rfl (by decide) ?_
  refine v_aload_n (pc' := 3) 2 0 rfl rfl rfl rfl ?_
  refine v_iload_n (pc' := 4) 3 1 rfl rfl rfl rfl ?_
  refine v_cV (Y2 := Y_X8_firstWrong) (As := [.int p1]) (b := 0) (pc' := 7) (c1 := 1) (s1 := 6) 4 rfl rfl mf_X8_firstWrong rfl rfl ml_L_47 mi_X8_firstWrong se_X8_firstWrong (ci := 7) rfl ly_0 (lay_lt ly_0 (by decide)) rfl (Nat.le_of_ble_eq_true rfl) ⟨Nat.le_of_ble_eq_true rfl, Nat.le_of_ble_eq_true rfl⟩ rfl rfl (ok_X8_firstWrong p1 I L b d hb hd h) ?_ ?_
  · intro e9 u9 hx9
    obtain ⟨rfl, hx9⟩ := hx9
    obtain ⟨rfl, hx9⟩ := hx9
    exact vx_c1 (i := 3) (n := 1) (v := 1) 8 9 10 rfl (by decide) (by decide) cl_L_18 (by decide) (Or.inl ⟨3, rfl, rfl, rfl, rfl⟩) (by decide) (by decide) rfl (by decide) (by decide) ⟨_, _, rfl, rfl, hx9⟩
  intro v9 u9 hv9
  obtain ⟨r3737, rfl, rfl, h⟩ := hv9
  refine ⟨fun q => absurd q (Nat.lt_irrefl _), ?_⟩
  show V G Y_L_firstWrong 7 _ (.int r3737 :: _) _ _ _ _ _
  refine v_i2l (pc' := 8) 5 rfl rfl ?_
  refine v_last (i := 0) (j := 0) (pc' := 9) 6 rfl rfl ly_456 ln_456 (lay_lt ly_456 (by decide)) (vp_lit (by decide)) (by decide) ?_
  refine v_goto (tgt := 15) 7 rfl (by decide) ?_
  refine v_iconst (v := 0) (pc' := 16) 11 rfl rfl (by decide) ?_
  exact v_iret 12 rfl rfl (by decide) (by decide) ⟨_, _, rfl, rfl, h⟩
set_option maxHeartbeats 4000000 in
set_option maxRecDepth 100000 in
theorem ok_L_dependsOn {G : GT} {t : Nat} (p1 : Int32) (I : TI) (L : TL) (b : Nat) (d : Nat) (hb : bnOK b) (hd : bnOK d) {Q : Int32 → TL → Prop} (h : W_L_dependsOn p1 I L b d Q) : MW G Y_L_dependsOn [.ref 0, .int p1, .ref 456] (I, L, RT b d t, 457) (fun v9 u9 => ∃ (r9 : Int32) (L9 : TL), v9 = some (.int r9) ∧ u9 = (I, L9, RT b d t, 457) ∧ Q r9 L9) (fun _ _ => False) := by
  unfold W_L_dependsOn at h
  refine MW.introH rfl (by decide) is_L_dependsOn (Nat.le_of_ble_eq_true rfl) ?_
  show V G Y_L_dependsOn 0 [(0, .ref 0), (1, .int p1), (2, .ref 456)] [] (I, L, RT b d t, 457) 0 0 _ _
  refine v_aload_n (pc' := 1) 0 2 rfl rfl rfl rfl ?_
  refine v_iconst (v := 0) (pc' := 2) 1 rfl rfl (by decide) ?_
  refine v_aload_n (pc' := 3) 2 0 rfl rfl rfl rfl ?_
  refine v_iload_n (pc' := 4) 3 1 rfl rfl rfl rfl ?_
  refine v_cV (Y2 := Y_X8_dependsOn) (As := [.int p1]) (b := 0) (pc' := 7) (c1 := 1) (s1 := 6) 4 rfl rfl mf_X8_dependsOn rfl rfl ml_L_50 mi_X8_dependsOn se_X8_dependsOn (ci := 7) rfl ly_0 (lay_lt ly_0 (by decide)) rfl (Nat.le_of_ble_eq_true rfl) ⟨Nat.le_of_ble_eq_true rfl, Nat.le_of_ble_eq_true rfl⟩ rfl rfl (ok_X8_dependsOn p1 I L b d hb hd h) ?_ ?_
  · intro e9 u9 hx9
    obtain ⟨rfl, hx9⟩ := hx9
    obtain ⟨rfl, hx9⟩ := hx9
    exact vx_c1 (i := 3) (n := 1) (v := 1) 8 9 10 rfl (by decide) (by decide) cl_L_18 (by decide) (Or.inl ⟨3, rfl, rfl, rfl, rfl⟩) (by decide) (by decide) rfl (by decide) (by decide) ⟨_, _, rfl, rfl, hx9⟩
  intro v9 u9 hv9
  obtain ⟨r3739, rfl, rfl, h⟩ := hv9
  refine ⟨fun q => absurd q (Nat.lt_irrefl _), ?_⟩
  show V G Y_L_dependsOn 7 _ (.int r3739 :: _) _ _ _ _ _
  refine v_i2l (pc' := 8) 5 rfl rfl ?_
  refine v_last (i := 0) (j := 0) (pc' := 9) 6 rfl rfl ly_456 ln_456 (lay_lt ly_456 (by decide)) (vp_lit (by decide)) (by decide) ?_
  refine v_goto (tgt := 15) 7 rfl (by decide) ?_
  refine v_iconst (v := 0) (pc' := 16) 11 rfl rfl (by decide) ?_
  exact v_iret 12 rfl rfl (by decide) (by decide) ⟨_, _, rfl, rfl, h⟩
set_option maxHeartbeats 4000000 in
set_option maxRecDepth 100000 in
theorem ok_L_touches {G : GT} {t : Nat} (p1 : Int32) (I : TI) (L : TL) (b : Nat) (d : Nat) (hb : bnOK b) (hd : bnOK d) {Q : Int32 → TL → Prop} (h : W_L_touches p1 I L b d Q) : MW G Y_L_touches [.ref 0, .int p1, .ref 456] (I, L, RT b d t, 457) (fun v9 u9 => ∃ (r9 : Int32) (L9 : TL), v9 = some (.int r9) ∧ u9 = (I, L9, RT b d t, 457) ∧ Q r9 L9) (fun _ _ => False) := by
  unfold W_L_touches at h
  refine MW.introH rfl (by decide) is_L_touches (Nat.le_of_ble_eq_true rfl) ?_
  show V G Y_L_touches 0 [(0, .ref 0), (1, .int p1), (2, .ref 456)] [] (I, L, RT b d t, 457) 0 0 _ _
  refine v_aload_n (pc' := 1) 0 2 rfl rfl rfl rfl ?_
  refine v_iconst (v := 0) (pc' := 2) 1 rfl rfl (by decide) ?_
  refine v_aload_n (pc' := 3) 2 0 rfl rfl rfl rfl ?_
  refine v_iload_n (pc' := 4) 3 1 rfl rfl rfl rfl ?_
  refine v_cV (Y2 := Y_X8_touches) (As := [.int p1]) (b := 0) (pc' := 7) (c1 := 1) (s1 := 6) 4 rfl rfl mf_X8_touches rfl rfl ml_L_53 mi_X8_touches se_X8_touches (ci := 7) rfl ly_0 (lay_lt ly_0 (by decide)) rfl (Nat.le_of_ble_eq_true rfl) ⟨Nat.le_of_ble_eq_true rfl, Nat.le_of_ble_eq_true rfl⟩ rfl rfl (ok_X8_touches p1 I L b d hb hd h) ?_ ?_
  · intro e9 u9 hx9
    obtain ⟨rfl, hx9⟩ := hx9
    obtain ⟨rfl, hx9⟩ := hx9
    exact vx_c1 (i := 3) (n := 1) (v := 1) 8 9 10 rfl (by decide) (by decide) cl_L_18 (by decide) (Or.inl ⟨3, rfl, rfl, rfl, rfl⟩) (by decide) (by decide) rfl (by decide) (by decide) ⟨_, _, rfl, rfl, hx9⟩
  intro v9 u9 hv9
  obtain ⟨r3741, rfl, rfl, h⟩ := hv9
  refine ⟨fun q => absurd q (Nat.lt_irrefl _), ?_⟩
  show V G Y_L_touches 7 _ (.int r3741 :: _) _ _ _ _ _
  refine v_i2l (pc' := 8) 5 rfl rfl ?_
  refine v_last (i := 0) (j := 0) (pc' := 9) 6 rfl rfl ly_456 ln_456 (lay_lt ly_456 (by decide)) (vp_lit (by decide)) (by decide) ?_
  refine v_goto (tgt := 15) 7 rfl (by decide) ?_
  refine v_iconst (v := 0) (pc' := 16) 11 rfl rfl (by decide) ?_
  exact v_iret 12 rfl rfl (by decide) (by decide) ⟨_, _, rfl, rfl, h⟩
set_option maxHeartbeats 4000000 in
set_option maxRecDepth 100000 in
theorem ok_L_longest {G : GT} {t : Nat} (p1 : Int32) (I : TI) (L : TL) (b : Nat) (d : Nat) (hb : bnOK b) (hd : bnOK d) {Q : Int32 → TL → Prop} (h : W_L_longest p1 I L b d Q) : MW G Y_L_longest [.ref 0, .int p1, .ref 456] (I, L, RT b d t, 457) (fun v9 u9 => ∃ (r9 : Int32) (L9 : TL), v9 = some (.int r9) ∧ u9 = (I, L9, RT b d t, 457) ∧ Q r9 L9) (fun _ _ => False) := by
  unfold W_L_longest at h
  refine MW.introH rfl (by decide) is_L_longest (Nat.le_of_ble_eq_true rfl) ?_
  show V G Y_L_longest 0 [(0, .ref 0), (1, .int p1), (2, .ref 456)] [] (I, L, RT b d t, 457) 0 0 _ _
  refine v_aload_n (pc' := 1) 0 2 rfl rfl rfl rfl ?_
  refine v_iconst (v := 0) (pc' := 2) 1 rfl rfl (by decide) ?_
  refine v_aload_n (pc' := 3) 2 0 rfl rfl rfl rfl ?_
  refine v_iload_n (pc' := 4) 3 1 rfl rfl rfl rfl ?_
  refine v_cV (Y2 := Y_X8_longest) (As := [.int p1]) (b := 0) (pc' := 7) (c1 := 1) (s1 := 6) 4 rfl rfl mf_X8_longest rfl rfl ml_L_56 mi_X8_longest se_X8_longest (ci := 7) rfl ly_0 (lay_lt ly_0 (by decide)) rfl (Nat.le_of_ble_eq_true rfl) ⟨Nat.le_of_ble_eq_true rfl, Nat.le_of_ble_eq_true rfl⟩ rfl rfl (ok_X8_longest p1 I L b d hb hd h) ?_ ?_
  · intro e9 u9 hx9
    obtain ⟨rfl, hx9⟩ := hx9
    obtain ⟨rfl, hx9⟩ := hx9
    exact vx_c1 (i := 3) (n := 1) (v := 1) 8 9 10 rfl (by decide) (by decide) cl_L_18 (by decide) (Or.inl ⟨3, rfl, rfl, rfl, rfl⟩) (by decide) (by decide) rfl (by decide) (by decide) ⟨_, _, rfl, rfl, hx9⟩
  intro v9 u9 hv9
  obtain ⟨r3743, rfl, rfl, h⟩ := hv9
  refine ⟨fun q => absurd q (Nat.lt_irrefl _), ?_⟩
  show V G Y_L_longest 7 _ (.int r3743 :: _) _ _ _ _ _
  refine v_i2l (pc' := 8) 5 rfl rfl ?_
  refine v_last (i := 0) (j := 0) (pc' := 9) 6 rfl rfl ly_456 ln_456 (lay_lt ly_456 (by decide)) (vp_lit (by decide)) (by decide) ?_
  refine v_goto (tgt := 15) 7 rfl (by decide) ?_
  refine v_iconst (v := 0) (pc' := 16) 11 rfl rfl (by decide) ?_
  exact v_iret 12 rfl rfl (by decide) (by decide) ⟨_, _, rfl, rfl, h⟩
set_option maxHeartbeats 4000000 in
set_option maxRecDepth 100000 in
theorem ok_L_pulse {G : GT} {t : Nat} (p1 : Int32) (p2 : Int32) (p3 : Int32) (I : TI) (L : TL) (b : Nat) (d : Nat) (hb : bnOK b) (hd : bnOK d) {Q : Int32 → TL → Prop} (h : W_L_pulse p1 p2 p3 I L b d Q) : MW G Y_L_pulse [.ref 0, .int p1, .int p2, .int p3, .ref 456] (I, L, RT b d t, 457) (fun v9 u9 => ∃ (r9 : Int32) (L9 : TL), v9 = some (.int r9) ∧ u9 = (I, L9, RT b d t, 457) ∧ Q r9 L9) (fun _ _ => False) := by
  unfold W_L_pulse at h
  refine MW.introH rfl (by decide) is_L_pulse (Nat.le_of_ble_eq_true rfl) ?_
  show V G Y_L_pulse 0 [(0, .ref 0), (1, .int p1), (2, .int p2), (3, .int p3), (4, .ref 456)] [] (I, L, RT b d t, 457) 0 0 _ _
  refine v_aload (pc' := 2) 0 4 rfl rfl rfl ?_
  refine v_iconst (v := 0) (pc' := 3) 1 rfl rfl (by decide) ?_
  refine v_aload_n (pc' := 4) 2 0 rfl rfl rfl rfl ?_
  refine v_iload_n (pc' := 5) 3 1 rfl rfl rfl rfl ?_
  refine v_iload_n (pc' := 6) 4 2 rfl rfl rfl rfl ?_
  refine v_iload_n (pc' := 7) 5 3 rfl rfl rfl rfl ?_
  refine v_cV (Y2 := Y_X8_pulse) (As := [.int p1, .int p2, .int p3]) (b := 0) (pc' := 10) (c1 := 3) (s1 := 18) 6 rfl rfl mf_X8_pulse rfl rfl ml_L_59 mi_X8_pulse se_X8_pulse (ci := 7) rfl ly_0 (lay_lt ly_0 (by decide)) rfl (Nat.le_of_ble_eq_true rfl) ⟨Nat.le_of_ble_eq_true rfl, Nat.le_of_ble_eq_true rfl⟩ rfl rfl (ok_X8_pulse p1 p2 p3 I L b d hb hd h) ?_ ?_
  · intro e9 u9 hx9
    obtain ⟨rfl, hx9⟩ := hx9
    obtain ⟨rfl, hx9⟩ := hx9
    exact vx_c1 (i := 5) (n := 1) (v := 1) 10 11 12 rfl (by decide) (by decide) cl_L_18 (by decide) (Or.inr ⟨rfl, rfl, rfl⟩) (by decide) (by decide) rfl (by decide) (by decide) ⟨_, _, rfl, rfl, hx9⟩
  intro v9 u9 hv9
  obtain ⟨r3745, rfl, rfl, h⟩ := hv9
  refine ⟨fun q => absurd q (Nat.lt_irrefl _), ?_⟩
  show V G Y_L_pulse 10 _ (.int r3745 :: _) _ _ _ _ _
  refine v_i2l (pc' := 11) 7 rfl rfl ?_
  refine v_last (i := 0) (j := 0) (pc' := 12) 8 rfl rfl ly_456 ln_456 (lay_lt ly_456 (by decide)) (vp_lit (by decide)) (by decide) ?_
  refine v_goto (tgt := 19) 9 rfl (by decide) ?_
  refine v_iconst (v := 0) (pc' := 20) 13 rfl rfl (by decide) ?_
  exact v_iret 14 rfl rfl (by decide) (by decide) ⟨_, _, rfl, rfl, h⟩
set_option maxHeartbeats 4000000 in
set_option maxRecDepth 100000 in
theorem ok_L_dispute {G : GT} {t : Nat} (p1 : Int32) (p2 : Int32) (I : TI) (L : TL) (b : Nat) (d : Nat) (hb : bnOK b) (hd : bnOK d) {Q : Int32 → TL → Prop} (h : W_L_dispute p1 p2 I L b d Q) : MW G Y_L_dispute [.ref 0, .int p1, .int p2, .ref 456] (I, L, RT b d t, 457) (fun v9 u9 => ∃ (r9 : Int32) (L9 : TL), v9 = some (.int r9) ∧ u9 = (I, L9, RT b d t, 457) ∧ Q r9 L9) (fun _ _ => False) := by
  unfold W_L_dispute at h
  refine MW.introH rfl (by decide) is_L_dispute (Nat.le_of_ble_eq_true rfl) ?_
  show V G Y_L_dispute 0 [(0, .ref 0), (1, .int p1), (2, .int p2), (3, .ref 456)] [] (I, L, RT b d t, 457) 0 0 _ _
  refine v_aload_n (pc' := 1) 0 3 rfl rfl rfl rfl ?_
  refine v_iconst (v := 0) (pc' := 2) 1 rfl rfl (by decide) ?_
  refine v_aload_n (pc' := 3) 2 0 rfl rfl rfl rfl ?_
  refine v_iload_n (pc' := 4) 3 1 rfl rfl rfl rfl ?_
  refine v_iload_n (pc' := 5) 4 2 rfl rfl rfl rfl ?_
  refine v_cV (Y2 := Y_X8_dispute) (As := [.int p1, .int p2]) (b := 0) (pc' := 8) (c1 := 2) (s1 := 12) 5 rfl rfl mf_X8_dispute rfl rfl ml_L_62 mi_X8_dispute se_X8_dispute (ci := 7) rfl ly_0 (lay_lt ly_0 (by decide)) rfl (Nat.le_of_ble_eq_true rfl) ⟨Nat.le_of_ble_eq_true rfl, Nat.le_of_ble_eq_true rfl⟩ rfl rfl (ok_X8_dispute p1 p2 I L b d hb hd h) ?_ ?_
  · intro e9 u9 hx9
    obtain ⟨rfl, hx9⟩ := hx9
    obtain ⟨rfl, hx9⟩ := hx9
    exact vx_c1 (i := 4) (n := 1) (v := 1) 9 10 11 rfl (by decide) (by decide) cl_L_18 (by decide) (Or.inr ⟨rfl, rfl, rfl⟩) (by decide) (by decide) rfl (by decide) (by decide) ⟨_, _, rfl, rfl, hx9⟩
  intro v9 u9 hv9
  obtain ⟨r3747, rfl, rfl, h⟩ := hv9
  refine ⟨fun q => absurd q (Nat.lt_irrefl _), ?_⟩
  show V G Y_L_dispute 8 _ (.int r3747 :: _) _ _ _ _ _
  refine v_i2l (pc' := 9) 6 rfl rfl ?_
  refine v_last (i := 0) (j := 0) (pc' := 10) 7 rfl rfl ly_456 ln_456 (lay_lt ly_456 (by decide)) (vp_lit (by decide)) (by decide) ?_
  refine v_goto (tgt := 17) 8 rfl (by decide) ?_
  refine v_iconst (v := 0) (pc' := 18) 12 rfl rfl (by decide) ?_
  exact v_iret 13 rfl rfl (by decide) (by decide) ⟨_, _, rfl, rfl, h⟩
set_option maxHeartbeats 4000000 in
set_option maxRecDepth 100000 in
theorem ok_L_disputes {G : GT} {t : Nat} (p1 : Int32) (I : TI) (L : TL) (b : Nat) (d : Nat) (hb : bnOK b) (hd : bnOK d) {Q : Int32 → TL → Prop} (h : W_L_disputes p1 I L b d Q) : MW G Y_L_disputes [.ref 0, .int p1, .ref 456] (I, L, RT b d t, 457) (fun v9 u9 => ∃ (r9 : Int32) (L9 : TL), v9 = some (.int r9) ∧ u9 = (I, L9, RT b d t, 457) ∧ Q r9 L9) (fun _ _ => False) := by
  unfold W_L_disputes at h
  refine MW.introH rfl (by decide) is_L_disputes (Nat.le_of_ble_eq_true rfl) ?_
  show V G Y_L_disputes 0 [(0, .ref 0), (1, .int p1), (2, .ref 456)] [] (I, L, RT b d t, 457) 0 0 _ _
  refine v_aload_n (pc' := 1) 0 2 rfl rfl rfl rfl ?_
  refine v_iconst (v := 0) (pc' := 2) 1 rfl rfl (by decide) ?_
  refine v_aload_n (pc' := 3) 2 0 rfl rfl rfl rfl ?_
  refine v_iload_n (pc' := 4) 3 1 rfl rfl rfl rfl ?_
  refine v_cV (Y2 := Y_X8_disputes) (As := [.int p1]) (b := 0) (pc' := 7) (c1 := 1) (s1 := 6) 4 rfl rfl mf_X8_disputes rfl rfl ml_L_65 mi_X8_disputes se_X8_disputes (ci := 7) rfl ly_0 (lay_lt ly_0 (by decide)) rfl (Nat.le_of_ble_eq_true rfl) ⟨Nat.le_of_ble_eq_true rfl, Nat.le_of_ble_eq_true rfl⟩ rfl rfl (ok_X8_disputes p1 I L b d hb hd h) ?_ ?_
  · intro e9 u9 hx9
    obtain ⟨rfl, hx9⟩ := hx9
    obtain ⟨rfl, hx9⟩ := hx9
    exact vx_c1 (i := 3) (n := 1) (v := 1) 8 9 10 rfl (by decide) (by decide) cl_L_13 (by decide) (Or.inl ⟨3, rfl, rfl, rfl, rfl⟩) (by decide) (by decide) rfl (by decide) (by decide) ⟨_, _, rfl, rfl, hx9⟩
  intro v9 u9 hv9
  obtain ⟨r3749, rfl, rfl, h⟩ := hv9
  refine ⟨fun q => absurd q (Nat.lt_irrefl _), ?_⟩
  show V G Y_L_disputes 7 _ (.int r3749 :: _) _ _ _ _ _
  refine v_i2l (pc' := 8) 5 rfl rfl ?_
  refine v_last (i := 0) (j := 0) (pc' := 9) 6 rfl rfl ly_456 ln_456 (lay_lt ly_456 (by decide)) (vp_lit (by decide)) (by decide) ?_
  refine v_goto (tgt := 15) 7 rfl (by decide) ?_
  refine v_iconst (v := 0) (pc' := 16) 11 rfl rfl (by decide) ?_
  exact v_iret 12 rfl rfl (by decide) (by decide) ⟨_, _, rfl, rfl, h⟩
set_option maxHeartbeats 4000000 in
set_option maxRecDepth 100000 in
theorem ok_L_cost {G : GT} {t : Nat} (p1 : Int32) (p2 : Int32) (p3 : Int32) (I : TI) (L : TL) (b : Nat) (d : Nat) (hb : bnOK b) (hd : bnOK d) {Q : Int32 → TL → Prop} (h : W_L_cost p1 p2 p3 I L b d Q) : MW G Y_L_cost [.ref 0, .int p1, .int p2, .int p3, .ref 456] (I, L, RT b d t, 457) (fun v9 u9 => ∃ (r9 : Int32) (L9 : TL), v9 = some (.int r9) ∧ u9 = (I, L9, RT b d t, 457) ∧ Q r9 L9) (fun _ _ => False) := by
  unfold W_L_cost at h
  refine MW.introH rfl (by decide) is_L_cost (Nat.le_of_ble_eq_true rfl) ?_
  show V G Y_L_cost 0 [(0, .ref 0), (1, .int p1), (2, .int p2), (3, .int p3), (4, .ref 456)] [] (I, L, RT b d t, 457) 0 0 _ _
  refine v_aload (pc' := 2) 0 4 rfl rfl rfl ?_
  refine v_iconst (v := 0) (pc' := 3) 1 rfl rfl (by decide) ?_
  refine v_aload_n (pc' := 4) 2 0 rfl rfl rfl rfl ?_
  refine v_iload_n (pc' := 5) 3 1 rfl rfl rfl rfl ?_
  refine v_iload_n (pc' := 6) 4 2 rfl rfl rfl rfl ?_
  refine v_iload_n (pc' := 7) 5 3 rfl rfl rfl rfl ?_
  refine v_cV (Y2 := Y_X8_cost) (As := [.int p1, .int p2, .int p3]) (b := 0) (pc' := 10) (c1 := 2) (s1 := 12) 6 rfl rfl mf_X8_cost rfl rfl ml_L_68 mi_X8_cost se_X8_cost (ci := 7) rfl ly_0 (lay_lt ly_0 (by decide)) rfl (Nat.le_of_ble_eq_true rfl) ⟨Nat.le_of_ble_eq_true rfl, Nat.le_of_ble_eq_true rfl⟩ rfl rfl (ok_X8_cost p1 p2 p3 I L b d hb hd h) ?_ ?_
  · intro e9 u9 hx9
    obtain ⟨rfl, hx9⟩ := hx9
    rcases hx9 with ⟨rfl, hx9⟩ | ⟨rfl, hx9⟩
    · exact vx_c1 (i := 5) (n := 1) (v := 1) 10 11 12 rfl (by decide) (by decide) cl_L_18 (by decide) (Or.inr ⟨rfl, rfl, rfl⟩) (by decide) (by decide) rfl (by decide) (by decide) ⟨_, _, rfl, rfl, hx9⟩
    · exact vx_c2 (i := 5) (n := 2) (v := 2) 13 14 15 rfl (by decide) (by decide) (by decide) cl_L_18 cl_L_13 (by decide) (Or.inr ⟨rfl, rfl, rfl⟩) (by decide) (by decide) rfl (by decide) (by decide) ⟨_, _, rfl, rfl, hx9⟩
  intro v9 u9 hv9
  obtain ⟨r3751, rfl, rfl, h⟩ := hv9
  refine ⟨fun q => absurd q (Nat.lt_irrefl _), ?_⟩
  show V G Y_L_cost 10 _ (.int r3751 :: _) _ _ _ _ _
  refine v_i2l (pc' := 11) 7 rfl rfl ?_
  refine v_last (i := 0) (j := 0) (pc' := 12) 8 rfl rfl ly_456 ln_456 (lay_lt ly_456 (by decide)) (vp_lit (by decide)) (by decide) ?_
  refine v_goto (tgt := 23) 9 rfl (by decide) ?_
  refine v_iconst (v := 0) (pc' := 24) 16 rfl rfl (by decide) ?_
  exact v_iret 17 rfl rfl (by decide) (by decide) ⟨_, _, rfl, rfl, h⟩
set_option maxHeartbeats 4000000 in
set_option maxRecDepth 100000 in
theorem ok_L_gain {G : GT} {t : Nat} (p1 : Int32) (p2 : Int32) (p3 : Int32) (I : TI) (L : TL) (b : Nat) (d : Nat) (hb : bnOK b) (hd : bnOK d) {Q : Int32 → TL → Prop} (h : W_L_gain p1 p2 p3 I L b d Q) : MW G Y_L_gain [.ref 0, .int p1, .int p2, .int p3, .ref 456] (I, L, RT b d t, 457) (fun v9 u9 => ∃ (r9 : Int32) (L9 : TL), v9 = some (.int r9) ∧ u9 = (I, L9, RT b d t, 457) ∧ Q r9 L9) (fun _ _ => False) := by
  unfold W_L_gain at h
  refine MW.introH rfl (by decide) is_L_gain (Nat.le_of_ble_eq_true rfl) ?_
  show V G Y_L_gain 0 [(0, .ref 0), (1, .int p1), (2, .int p2), (3, .int p3), (4, .ref 456)] [] (I, L, RT b d t, 457) 0 0 _ _
  refine v_aload (pc' := 2) 0 4 rfl rfl rfl ?_
  refine v_iconst (v := 0) (pc' := 3) 1 rfl rfl (by decide) ?_
  refine v_aload_n (pc' := 4) 2 0 rfl rfl rfl rfl ?_
  refine v_iload_n (pc' := 5) 3 1 rfl rfl rfl rfl ?_
  refine v_iload_n (pc' := 6) 4 2 rfl rfl rfl rfl ?_
  refine v_iload_n (pc' := 7) 5 3 rfl rfl rfl rfl ?_
  refine v_cV (Y2 := Y_X8_gain) (As := [.int p1, .int p2, .int p3]) (b := 0) (pc' := 10) (c1 := 2) (s1 := 12) 6 rfl rfl mf_X8_gain rfl rfl ml_L_71 mi_X8_gain se_X8_gain (ci := 7) rfl ly_0 (lay_lt ly_0 (by decide)) rfl (Nat.le_of_ble_eq_true rfl) ⟨Nat.le_of_ble_eq_true rfl, Nat.le_of_ble_eq_true rfl⟩ rfl rfl (ok_X8_gain p1 p2 p3 I L b d hb hd h) ?_ ?_
  · intro e9 u9 hx9
    obtain ⟨L8, rfl, hx9⟩ := hx9
    rcases hx9 with ⟨rfl, hx9⟩ | ⟨rfl, hx9⟩
    · exact vx_c1 (i := 5) (n := 1) (v := 1) 10 11 12 rfl (by decide) (by decide) cl_L_18 (by decide) (Or.inr ⟨rfl, rfl, rfl⟩) (by decide) (by decide) rfl (by decide) (by decide) ⟨_, _, rfl, rfl, hx9⟩
    · exact vx_c2 (i := 5) (n := 2) (v := 2) 13 14 15 rfl (by decide) (by decide) (by decide) cl_L_18 cl_L_13 (by decide) (Or.inr ⟨rfl, rfl, rfl⟩) (by decide) (by decide) rfl (by decide) (by decide) ⟨_, _, rfl, rfl, hx9⟩
  intro v9 u9 hv9
  obtain ⟨r3754, L3755, rfl, rfl, h⟩ := hv9
  refine ⟨fun q => absurd q (Nat.lt_irrefl _), ?_⟩
  show V G Y_L_gain 10 _ (.int r3754 :: _) _ _ _ _ _
  refine v_i2l (pc' := 11) 7 rfl rfl ?_
  refine v_last (i := 0) (j := 0) (pc' := 12) 8 rfl rfl ly_456 ln_456 (lay_lt ly_456 (by decide)) (vp_lit (by decide)) (by decide) ?_
  refine v_goto (tgt := 23) 9 rfl (by decide) ?_
  refine v_iconst (v := 0) (pc' := 24) 16 rfl rfl (by decide) ?_
  exact v_iret 17 rfl rfl (by decide) (by decide) ⟨_, _, rfl, rfl, h⟩
set_option maxHeartbeats 4000000 in
set_option maxRecDepth 100000 in
theorem ok_L_open {G : GT} {t : Nat} (p1 : Int32) (p2 : Int32) (p3 : Int32) (p4 : Int32) (I : TI) (L : TL) (b : Nat) (d : Nat) (hb : bnOK b) (hd : bnOK d) {Q : Int32 → TI → TL → Prop} (h : W_L_open p1 p2 p3 p4 I L b d Q) : MW G Y_L_open [.ref 0, .int p1, .int p2, .int p3, .int p4, .ref 456] (I, L, RT b d t, 457) (fun v9 u9 => ∃ (r9 : Int32) (I9 : TI) (L9 : TL), v9 = some (.int r9) ∧ u9 = (I9, L9, RT b d t, 457) ∧ Q r9 I9 L9) (fun _ _ => False) := by
  unfold W_L_open at h
  refine MW.introH rfl (by decide) is_L_open (Nat.le_of_ble_eq_true rfl) ?_
  show V G Y_L_open 0 [(0, .ref 0), (1, .int p1), (2, .int p2), (3, .int p3), (4, .int p4), (5, .ref 456)] [] (I, L, RT b d t, 457) 0 0 _ _
  refine v_aload (pc' := 2) 0 5 rfl rfl rfl ?_
  refine v_iconst (v := 0) (pc' := 3) 1 rfl rfl (by decide) ?_
  refine v_aload_n (pc' := 4) 2 0 rfl rfl rfl rfl ?_
  refine v_iload_n (pc' := 5) 3 1 rfl rfl rfl rfl ?_
  refine v_iload_n (pc' := 6) 4 2 rfl rfl rfl rfl ?_
  refine v_iload_n (pc' := 7) 5 3 rfl rfl rfl rfl ?_
  refine v_iload (pc' := 9) 6 4 rfl rfl rfl ?_
  refine v_cV (Y2 := Y_X8_open) (As := [.int p1, .int p2, .int p3, .int p4]) (b := 0) (pc' := 12) (c1 := 3) (s1 := 18) 7 rfl rfl mf_X8_open rfl rfl ml_L_74 mi_X8_open se_X8_open (ci := 7) rfl ly_0 (lay_lt ly_0 (by decide)) rfl (Nat.le_of_ble_eq_true rfl) ⟨Nat.le_of_ble_eq_true rfl, Nat.le_of_ble_eq_true rfl⟩ rfl rfl (ok_X8_open p1 p2 p3 p4 I L b d hb hd h) ?_ ?_
  · intro e9 u9 hx9
    obtain ⟨I8, L8, rfl, hx9⟩ := hx9
    rcases hx9 with ⟨rfl, hx9⟩ | ⟨rfl, hx9⟩
    · exact vx_c1 (i := 6) (n := 1) (v := 1) 11 12 13 rfl (by decide) (by decide) cl_L_18 (by decide) (Or.inr ⟨rfl, rfl, rfl⟩) (by decide) (by decide) rfl (by decide) (by decide) ⟨_, _, _, rfl, rfl, hx9⟩
    · exact vx_c2 (i := 6) (n := 2) (v := 2) 14 15 16 rfl (by decide) (by decide) (by decide) cl_L_18 cl_L_13 (by decide) (Or.inr ⟨rfl, rfl, rfl⟩) (by decide) (by decide) rfl (by decide) (by decide) ⟨_, _, _, rfl, rfl, hx9⟩
  intro v9 u9 hv9
  obtain ⟨r3759, I3760, L3761, rfl, rfl, h⟩ := hv9
  refine ⟨fun q => absurd q (Nat.lt_irrefl _), ?_⟩
  show V G Y_L_open 12 _ (.int r3759 :: _) _ _ _ _ _
  refine v_i2l (pc' := 13) 8 rfl rfl ?_
  refine v_last (i := 0) (j := 0) (pc' := 14) 9 rfl rfl ly_456 ln_456 (lay_lt ly_456 (by decide)) (vp_lit (by decide)) (by decide) ?_
  refine v_goto (tgt := 25) 10 rfl (by decide) ?_
  refine v_iconst (v := 0) (pc' := 26) 17 rfl rfl (by decide) ?_
  exact v_iret 18 rfl rfl (by decide) (by decide) ⟨_, _, _, rfl, rfl, h⟩
set_option maxHeartbeats 4000000 in
set_option maxRecDepth 100000 in
theorem ok_L_judge {G : GT} {t : Nat} (p1 : Int32) (I : TI) (L : TL) (b : Nat) (d : Nat) (hb : bnOK b) (hd : bnOK d) {Q : Int32 → TI → TL → Prop} (h : W_L_judge p1 I L b d Q) : MW G Y_L_judge [.ref 0, .int p1, .ref 456] (I, L, RT b d t, 457) (fun v9 u9 => ∃ (r9 : Int32) (I9 : TI) (L9 : TL), v9 = some (.int r9) ∧ u9 = (I9, L9, RT b d t, 457) ∧ Q r9 I9 L9) (fun _ _ => False) := by
  unfold W_L_judge at h
  refine MW.introH rfl (by decide) is_L_judge (Nat.le_of_ble_eq_true rfl) ?_
  show V G Y_L_judge 0 [(0, .ref 0), (1, .int p1), (2, .ref 456)] [] (I, L, RT b d t, 457) 0 0 _ _
  refine v_aload_n (pc' := 1) 0 2 rfl rfl rfl rfl ?_
  refine v_iconst (v := 0) (pc' := 2) 1 rfl rfl (by decide) ?_
  refine v_aload_n (pc' := 3) 2 0 rfl rfl rfl rfl ?_
  refine v_iload_n (pc' := 4) 3 1 rfl rfl rfl rfl ?_
  refine v_cV (Y2 := Y_X8_judge) (As := [.int p1]) (b := 0) (pc' := 7) (c1 := 1) (s1 := 6) 4 rfl rfl mf_X8_judge rfl rfl ml_L_78 mi_X8_judge se_X8_judge (ci := 7) rfl ly_0 (lay_lt ly_0 (by decide)) rfl (Nat.le_of_ble_eq_true rfl) ⟨Nat.le_of_ble_eq_true rfl, Nat.le_of_ble_eq_true rfl⟩ rfl rfl (ok_X8_judge p1 I L b d hb hd h) ?_ ?_
  · intro e9 u9 hx9
    obtain ⟨I8, L8, rfl, hx9⟩ := hx9
    obtain ⟨rfl, hx9⟩ := hx9
    exact vx_c1 (i := 3) (n := 1) (v := 1) 8 9 10 rfl (by decide) (by decide) cl_L_18 (by decide) (Or.inl ⟨3, rfl, rfl, rfl, rfl⟩) (by decide) (by decide) rfl (by decide) (by decide) ⟨_, _, _, rfl, rfl, hx9⟩
  intro v9 u9 hv9
  obtain ⟨r3765, I3766, L3767, rfl, rfl, h⟩ := hv9
  refine ⟨fun q => absurd q (Nat.lt_irrefl _), ?_⟩
  show V G Y_L_judge 7 _ (.int r3765 :: _) _ _ _ _ _
  refine v_i2l (pc' := 8) 5 rfl rfl ?_
  refine v_last (i := 0) (j := 0) (pc' := 9) 6 rfl rfl ly_456 ln_456 (lay_lt ly_456 (by decide)) (vp_lit (by decide)) (by decide) ?_
  refine v_goto (tgt := 15) 7 rfl (by decide) ?_
  refine v_iconst (v := 0) (pc' := 16) 11 rfl rfl (by decide) ?_
  exact v_iret 12 rfl rfl (by decide) (by decide) ⟨_, _, _, rfl, rfl, h⟩
set_option maxHeartbeats 4000000 in
set_option maxRecDepth 100000 in
theorem ok_L_appeal {G : GT} {t : Nat} (p1 : Int32) (I : TI) (L : TL) (b : Nat) (d : Nat) (hb : bnOK b) (hd : bnOK d) {Q : Int32 → TI → TL → Prop} (h : W_L_appeal p1 I L b d Q) : MW G Y_L_appeal [.ref 0, .int p1, .ref 456] (I, L, RT b d t, 457) (fun v9 u9 => ∃ (r9 : Int32) (I9 : TI) (L9 : TL), v9 = some (.int r9) ∧ u9 = (I9, L9, RT b d t, 457) ∧ Q r9 I9 L9) (fun _ _ => False) := by
  unfold W_L_appeal at h
  refine MW.introH rfl (by decide) is_L_appeal (Nat.le_of_ble_eq_true rfl) ?_
  show V G Y_L_appeal 0 [(0, .ref 0), (1, .int p1), (2, .ref 456)] [] (I, L, RT b d t, 457) 0 0 _ _
  refine v_aload_n (pc' := 1) 0 2 rfl rfl rfl rfl ?_
  refine v_iconst (v := 0) (pc' := 2) 1 rfl rfl (by decide) ?_
  refine v_aload_n (pc' := 3) 2 0 rfl rfl rfl rfl ?_
  refine v_iload_n (pc' := 4) 3 1 rfl rfl rfl rfl ?_
  refine v_cV (Y2 := Y_X8_appeal) (As := [.int p1]) (b := 0) (pc' := 7) (c1 := 1) (s1 := 6) 4 rfl rfl mf_X8_appeal rfl rfl ml_L_81 mi_X8_appeal se_X8_appeal (ci := 7) rfl ly_0 (lay_lt ly_0 (by decide)) rfl (Nat.le_of_ble_eq_true rfl) ⟨Nat.le_of_ble_eq_true rfl, Nat.le_of_ble_eq_true rfl⟩ rfl rfl (ok_X8_appeal p1 I L b d hb hd h) ?_ ?_
  · intro e9 u9 hx9
    obtain ⟨I8, L8, rfl, hx9⟩ := hx9
    obtain ⟨rfl, hx9⟩ := hx9
    exact vx_c1 (i := 3) (n := 1) (v := 1) 8 9 10 rfl (by decide) (by decide) cl_L_18 (by decide) (Or.inl ⟨3, rfl, rfl, rfl, rfl⟩) (by decide) (by decide) rfl (by decide) (by decide) ⟨_, _, _, rfl, rfl, hx9⟩
  intro v9 u9 hv9
  obtain ⟨r3771, I3772, L3773, rfl, rfl, h⟩ := hv9
  refine ⟨fun q => absurd q (Nat.lt_irrefl _), ?_⟩
  show V G Y_L_appeal 7 _ (.int r3771 :: _) _ _ _ _ _
  refine v_i2l (pc' := 8) 5 rfl rfl ?_
  refine v_last (i := 0) (j := 0) (pc' := 9) 6 rfl rfl ly_456 ln_456 (lay_lt ly_456 (by decide)) (vp_lit (by decide)) (by decide) ?_
  refine v_goto (tgt := 15) 7 rfl (by decide) ?_
  refine v_iconst (v := 0) (pc' := 16) 11 rfl rfl (by decide) ?_
  exact v_iret 12 rfl rfl (by decide) (by decide) ⟨_, _, _, rfl, rfl, h⟩
set_option maxHeartbeats 4000000 in
set_option maxRecDepth 100000 in
theorem ok_L_accept {G : GT} {t : Nat} (p1 : Int32) (I : TI) (L : TL) (b : Nat) (d : Nat) (hb : bnOK b) (hd : bnOK d) {Q : Int32 → TI → TL → Prop} (h : W_L_accept p1 I L b d Q) : MW G Y_L_accept [.ref 0, .int p1, .ref 456] (I, L, RT b d t, 457) (fun v9 u9 => ∃ (r9 : Int32) (I9 : TI) (L9 : TL), v9 = some (.int r9) ∧ u9 = (I9, L9, RT b d t, 457) ∧ Q r9 I9 L9) (fun _ _ => False) := by
  unfold W_L_accept at h
  refine MW.introH rfl (by decide) is_L_accept (Nat.le_of_ble_eq_true rfl) ?_
  show V G Y_L_accept 0 [(0, .ref 0), (1, .int p1), (2, .ref 456)] [] (I, L, RT b d t, 457) 0 0 _ _
  refine v_aload_n (pc' := 1) 0 2 rfl rfl rfl rfl ?_
  refine v_iconst (v := 0) (pc' := 2) 1 rfl rfl (by decide) ?_
  refine v_aload_n (pc' := 3) 2 0 rfl rfl rfl rfl ?_
  refine v_iload_n (pc' := 4) 3 1 rfl rfl rfl rfl ?_
  refine v_cV (Y2 := Y_X8_accept) (As := [.int p1]) (b := 0) (pc' := 7) (c1 := 1) (s1 := 6) 4 rfl rfl mf_X8_accept rfl rfl ml_L_84 mi_X8_accept se_X8_accept (ci := 7) rfl ly_0 (lay_lt ly_0 (by decide)) rfl (Nat.le_of_ble_eq_true rfl) ⟨Nat.le_of_ble_eq_true rfl, Nat.le_of_ble_eq_true rfl⟩ rfl rfl (ok_X8_accept p1 I L b d hb hd h) ?_ ?_
  · intro e9 u9 hx9
    obtain ⟨I8, L8, rfl, hx9⟩ := hx9
    obtain ⟨rfl, hx9⟩ := hx9
    exact vx_c1 (i := 3) (n := 1) (v := 1) 8 9 10 rfl (by decide) (by decide) cl_L_18 (by decide) (Or.inl ⟨3, rfl, rfl, rfl, rfl⟩) (by decide) (by decide) rfl (by decide) (by decide) ⟨_, _, _, rfl, rfl, hx9⟩
  intro v9 u9 hv9
  obtain ⟨r3777, I3778, L3779, rfl, rfl, h⟩ := hv9
  refine ⟨fun q => absurd q (Nat.lt_irrefl _), ?_⟩
  show V G Y_L_accept 7 _ (.int r3777 :: _) _ _ _ _ _
  refine v_i2l (pc' := 8) 5 rfl rfl ?_
  refine v_last (i := 0) (j := 0) (pc' := 9) 6 rfl rfl ly_456 ln_456 (lay_lt ly_456 (by decide)) (vp_lit (by decide)) (by decide) ?_
  refine v_goto (tgt := 15) 7 rfl (by decide) ?_
  refine v_iconst (v := 0) (pc' := 16) 11 rfl rfl (by decide) ?_
  exact v_iret 12 rfl rfl (by decide) (by decide) ⟨_, _, _, rfl, rfl, h⟩
set_option maxHeartbeats 4000000 in
set_option maxRecDepth 100000 in
theorem ok_L_replay {G : GT} {t : Nat} (p1 : Int32) (p2 : Int32) (p3 : Int32) (I : TI) (L : TL) (b : Nat) (d : Nat) (hb : bnOK b) (hd : bnOK d) {Q : Int32 → TI → TL → Prop} (h : W_L_replay p1 p2 p3 I L b d Q) : MW G Y_L_replay [.ref 0, .int p1, .int p2, .int p3, .ref 456] (I, L, RT b d t, 457) (fun v9 u9 => ∃ (r9 : Int32) (I9 : TI) (L9 : TL), v9 = some (.int r9) ∧ u9 = (I9, L9, RT b d t, 457) ∧ Q r9 I9 L9) (fun _ _ => False) := by
  unfold W_L_replay at h
  refine MW.introH rfl (by decide) is_L_replay (Nat.le_of_ble_eq_true rfl) ?_
  show V G Y_L_replay 0 [(0, .ref 0), (1, .int p1), (2, .int p2), (3, .int p3), (4, .ref 456)] [] (I, L, RT b d t, 457) 0 0 _ _
  refine v_aload (pc' := 2) 0 4 rfl rfl rfl ?_
  refine v_iconst (v := 0) (pc' := 3) 1 rfl rfl (by decide) ?_
  refine v_aload_n (pc' := 4) 2 0 rfl rfl rfl rfl ?_
  refine v_iload_n (pc' := 5) 3 1 rfl rfl rfl rfl ?_
  refine v_iload_n (pc' := 6) 4 2 rfl rfl rfl rfl ?_
  refine v_iload_n (pc' := 7) 5 3 rfl rfl rfl rfl ?_
  refine v_cV (Y2 := Y_X8_replay) (As := [.int p1, .int p2, .int p3]) (b := 0) (pc' := 10) (c1 := 2) (s1 := 12) 6 rfl rfl mf_X8_replay rfl rfl ml_L_87 mi_X8_replay se_X8_replay (ci := 7) rfl ly_0 (lay_lt ly_0 (by decide)) rfl (Nat.le_of_ble_eq_true rfl) ⟨Nat.le_of_ble_eq_true rfl, Nat.le_of_ble_eq_true rfl⟩ rfl rfl (ok_X8_replay p1 p2 p3 I L b d hb hd h) ?_ ?_
  · intro e9 u9 hx9
    obtain ⟨I8, L8, rfl, hx9⟩ := hx9
    rcases hx9 with ⟨rfl, hx9⟩ | ⟨rfl, hx9⟩
    · exact vx_c1 (i := 5) (n := 1) (v := 1) 10 11 12 rfl (by decide) (by decide) cl_L_18 (by decide) (Or.inr ⟨rfl, rfl, rfl⟩) (by decide) (by decide) rfl (by decide) (by decide) ⟨_, _, _, rfl, rfl, hx9⟩
    · exact vx_c2 (i := 5) (n := 2) (v := 2) 13 14 15 rfl (by decide) (by decide) (by decide) cl_L_18 cl_L_13 (by decide) (Or.inr ⟨rfl, rfl, rfl⟩) (by decide) (by decide) rfl (by decide) (by decide) ⟨_, _, _, rfl, rfl, hx9⟩
  intro v9 u9 hv9
  obtain ⟨r3783, I3784, L3785, rfl, rfl, h⟩ := hv9
  refine ⟨fun q => absurd q (Nat.lt_irrefl _), ?_⟩
  show V G Y_L_replay 10 _ (.int r3783 :: _) _ _ _ _ _
  refine v_i2l (pc' := 11) 7 rfl rfl ?_
  refine v_last (i := 0) (j := 0) (pc' := 12) 8 rfl rfl ly_456 ln_456 (lay_lt ly_456 (by decide)) (vp_lit (by decide)) (by decide) ?_
  refine v_goto (tgt := 23) 9 rfl (by decide) ?_
  refine v_iconst (v := 0) (pc' := 24) 16 rfl rfl (by decide) ?_
  exact v_iret 17 rfl rfl (by decide) (by decide) ⟨_, _, _, rfl, rfl, h⟩
set_option maxHeartbeats 4000000 in
set_option maxRecDepth 100000 in
theorem ok_L_setDelay {G : GT} {t : Nat} (p1 : Int32) (p2 : Int32) (p3 : Int32) (I : TI) (L : TL) (b : Nat) (d : Nat) (hb : bnOK b) (hd : bnOK d) {Q : Int32 → TI → TL → Prop} (h : W_L_setDelay p1 p2 p3 I L b d Q) : MW G Y_L_setDelay [.ref 0, .int p1, .int p2, .int p3, .ref 456] (I, L, RT b d t, 457) (fun v9 u9 => ∃ (r9 : Int32) (I9 : TI) (L9 : TL), v9 = some (.int r9) ∧ u9 = (I9, L9, RT b d t, 457) ∧ Q r9 I9 L9) (fun _ _ => False) := by
  unfold W_L_setDelay at h
  refine MW.introH rfl (by decide) is_L_setDelay (Nat.le_of_ble_eq_true rfl) ?_
  show V G Y_L_setDelay 0 [(0, .ref 0), (1, .int p1), (2, .int p2), (3, .int p3), (4, .ref 456)] [] (I, L, RT b d t, 457) 0 0 _ _
  refine v_aload (pc' := 2) 0 4 rfl rfl rfl ?_
  refine v_iconst (v := 0) (pc' := 3) 1 rfl rfl (by decide) ?_
  refine v_aload_n (pc' := 4) 2 0 rfl rfl rfl rfl ?_
  refine v_iload_n (pc' := 5) 3 1 rfl rfl rfl rfl ?_
  refine v_iload_n (pc' := 6) 4 2 rfl rfl rfl rfl ?_
  refine v_iload_n (pc' := 7) 5 3 rfl rfl rfl rfl ?_
  refine v_cV (Y2 := Y_X8_setDelay) (As := [.int p1, .int p2, .int p3]) (b := 0) (pc' := 10) (c1 := 2) (s1 := 12) 6 rfl rfl mf_X8_setDelay rfl rfl ml_L_90 mi_X8_setDelay se_X8_setDelay (ci := 7) rfl ly_0 (lay_lt ly_0 (by decide)) rfl (Nat.le_of_ble_eq_true rfl) ⟨Nat.le_of_ble_eq_true rfl, Nat.le_of_ble_eq_true rfl⟩ rfl rfl (ok_X8_setDelay p1 p2 p3 I L b d hb hd h) ?_ ?_
  · intro e9 u9 hx9
    obtain ⟨I8, L8, rfl, hx9⟩ := hx9
    rcases hx9 with ⟨rfl, hx9⟩ | ⟨rfl, hx9⟩
    · exact vx_c1 (i := 5) (n := 1) (v := 1) 10 11 12 rfl (by decide) (by decide) cl_L_18 (by decide) (Or.inr ⟨rfl, rfl, rfl⟩) (by decide) (by decide) rfl (by decide) (by decide) ⟨_, _, _, rfl, rfl, hx9⟩
    · exact vx_c2 (i := 5) (n := 2) (v := 2) 13 14 15 rfl (by decide) (by decide) (by decide) cl_L_18 cl_L_13 (by decide) (Or.inr ⟨rfl, rfl, rfl⟩) (by decide) (by decide) rfl (by decide) (by decide) ⟨_, _, _, rfl, rfl, hx9⟩
  intro v9 u9 hv9
  obtain ⟨r3789, I3790, L3791, rfl, rfl, h⟩ := hv9
  refine ⟨fun q => absurd q (Nat.lt_irrefl _), ?_⟩
  show V G Y_L_setDelay 10 _ (.int r3789 :: _) _ _ _ _ _
  refine v_i2l (pc' := 11) 7 rfl rfl ?_
  refine v_last (i := 0) (j := 0) (pc' := 12) 8 rfl rfl ly_456 ln_456 (lay_lt ly_456 (by decide)) (vp_lit (by decide)) (by decide) ?_
  refine v_goto (tgt := 23) 9 rfl (by decide) ?_
  refine v_iconst (v := 0) (pc' := 24) 16 rfl rfl (by decide) ?_
  exact v_iret 17 rfl rfl (by decide) (by decide) ⟨_, _, _, rfl, rfl, h⟩
set_option maxHeartbeats 4000000 in
set_option maxRecDepth 100000 in
theorem ok_L_toggle {G : GT} {t : Nat} (p1 : Int32) (p2 : Int32) (I : TI) (L : TL) (b : Nat) (d : Nat) (hb : bnOK b) (hd : bnOK d) {Q : Int32 → TI → TL → Prop} (h : W_L_toggle p1 p2 I L b d Q) : MW G Y_L_toggle [.ref 0, .int p1, .int p2, .ref 456] (I, L, RT b d t, 457) (fun v9 u9 => ∃ (r9 : Int32) (I9 : TI) (L9 : TL), v9 = some (.int r9) ∧ u9 = (I9, L9, RT b d t, 457) ∧ Q r9 I9 L9) (fun _ _ => False) := by
  unfold W_L_toggle at h
  refine MW.introH rfl (by decide) is_L_toggle (Nat.le_of_ble_eq_true rfl) ?_
  show V G Y_L_toggle 0 [(0, .ref 0), (1, .int p1), (2, .int p2), (3, .ref 456)] [] (I, L, RT b d t, 457) 0 0 _ _
  refine v_aload_n (pc' := 1) 0 3 rfl rfl rfl rfl ?_
  refine v_iconst (v := 0) (pc' := 2) 1 rfl rfl (by decide) ?_
  refine v_aload_n (pc' := 3) 2 0 rfl rfl rfl rfl ?_
  refine v_iload_n (pc' := 4) 3 1 rfl rfl rfl rfl ?_
  refine v_iload_n (pc' := 5) 4 2 rfl rfl rfl rfl ?_
  refine v_cV (Y2 := Y_X8_toggle) (As := [.int p1, .int p2]) (b := 0) (pc' := 8) (c1 := 1) (s1 := 6) 5 rfl rfl mf_X8_toggle rfl rfl ml_L_93 mi_X8_toggle se_X8_toggle (ci := 7) rfl ly_0 (lay_lt ly_0 (by decide)) rfl (Nat.le_of_ble_eq_true rfl) ⟨Nat.le_of_ble_eq_true rfl, Nat.le_of_ble_eq_true rfl⟩ rfl rfl (ok_X8_toggle p1 p2 I L b d hb hd h) ?_ ?_
  · intro e9 u9 hx9
    obtain ⟨I8, L8, rfl, hx9⟩ := hx9
    rcases hx9 with ⟨rfl, hx9⟩ | ⟨rfl, hx9⟩
    · exact vx_c1 (i := 4) (n := 1) (v := 1) 9 10 11 rfl (by decide) (by decide) cl_L_18 (by decide) (Or.inr ⟨rfl, rfl, rfl⟩) (by decide) (by decide) rfl (by decide) (by decide) ⟨_, _, _, rfl, rfl, hx9⟩
    · exact vx_c2 (i := 4) (n := 2) (v := 2) 12 13 14 rfl (by decide) (by decide) (by decide) cl_L_18 cl_L_13 (by decide) (Or.inr ⟨rfl, rfl, rfl⟩) (by decide) (by decide) rfl (by decide) (by decide) ⟨_, _, _, rfl, rfl, hx9⟩
  intro v9 u9 hv9
  obtain ⟨r3795, I3796, L3797, rfl, rfl, h⟩ := hv9
  refine ⟨fun q => absurd q (Nat.lt_irrefl _), ?_⟩
  show V G Y_L_toggle 8 _ (.int r3795 :: _) _ _ _ _ _
  refine v_i2l (pc' := 9) 6 rfl rfl ?_
  refine v_last (i := 0) (j := 0) (pc' := 10) 7 rfl rfl ly_456 ln_456 (lay_lt ly_456 (by decide)) (vp_lit (by decide)) (by decide) ?_
  refine v_goto (tgt := 21) 8 rfl (by decide) ?_
  refine v_iconst (v := 0) (pc' := 22) 15 rfl rfl (by decide) ?_
  exact v_iret 16 rfl rfl (by decide) (by decide) ⟨_, _, _, rfl, rfl, h⟩
set_option maxHeartbeats 4000000 in
set_option maxRecDepth 100000 in
theorem ok_L_deposit {G : GT} {t : Nat} (p1 : Int32) (p2 : Int32) (I : TI) (L : TL) (b : Nat) (d : Nat) (hb : bnOK b) (hd : bnOK d) {Q : Int32 → TI → TL → Prop} (h : W_L_deposit p1 p2 I L b d Q) : MW G Y_L_deposit [.ref 0, .int p1, .int p2, .ref 456] (I, L, RT b d t, 457) (fun v9 u9 => ∃ (r9 : Int32) (I9 : TI) (L9 : TL), v9 = some (.int r9) ∧ u9 = (I9, L9, RT b d t, 457) ∧ Q r9 I9 L9) (fun _ _ => False) := by
  unfold W_L_deposit at h
  refine MW.introH rfl (by decide) is_L_deposit (Nat.le_of_ble_eq_true rfl) ?_
  show V G Y_L_deposit 0 [(0, .ref 0), (1, .int p1), (2, .int p2), (3, .ref 456)] [] (I, L, RT b d t, 457) 0 0 _ _
  refine v_aload_n (pc' := 1) 0 3 rfl rfl rfl rfl ?_
  refine v_iconst (v := 0) (pc' := 2) 1 rfl rfl (by decide) ?_
  refine v_aload_n (pc' := 3) 2 0 rfl rfl rfl rfl ?_
  refine v_iload_n (pc' := 4) 3 1 rfl rfl rfl rfl ?_
  refine v_iload_n (pc' := 5) 4 2 rfl rfl rfl rfl ?_
  refine v_cV (Y2 := Y_X8_deposit) (As := [.int p1, .int p2]) (b := 0) (pc' := 8) (c1 := 1) (s1 := 6) 5 rfl rfl mf_X8_deposit rfl rfl ml_L_96 mi_X8_deposit se_X8_deposit (ci := 7) rfl ly_0 (lay_lt ly_0 (by decide)) rfl (Nat.le_of_ble_eq_true rfl) ⟨Nat.le_of_ble_eq_true rfl, Nat.le_of_ble_eq_true rfl⟩ rfl rfl (ok_X8_deposit p1 p2 I L b d hb hd h) ?_ ?_
  · intro e9 u9 hx9
    obtain ⟨I8, L8, rfl, hx9⟩ := hx9
    obtain ⟨rfl, hx9⟩ := hx9
    exact vx_c1 (i := 4) (n := 1) (v := 1) 9 10 11 rfl (by decide) (by decide) cl_L_13 (by decide) (Or.inr ⟨rfl, rfl, rfl⟩) (by decide) (by decide) rfl (by decide) (by decide) ⟨_, _, _, rfl, rfl, hx9⟩
  intro v9 u9 hv9
  obtain ⟨r3801, I3802, L3803, rfl, rfl, h⟩ := hv9
  refine ⟨fun q => absurd q (Nat.lt_irrefl _), ?_⟩
  show V G Y_L_deposit 8 _ (.int r3801 :: _) _ _ _ _ _
  refine v_i2l (pc' := 9) 6 rfl rfl ?_
  refine v_last (i := 0) (j := 0) (pc' := 10) 7 rfl rfl ly_456 ln_456 (lay_lt ly_456 (by decide)) (vp_lit (by decide)) (by decide) ?_
  refine v_goto (tgt := 17) 8 rfl (by decide) ?_
  refine v_iconst (v := 0) (pc' := 18) 12 rfl rfl (by decide) ?_
  exact v_iret 13 rfl rfl (by decide) (by decide) ⟨_, _, _, rfl, rfl, h⟩
set_option maxHeartbeats 4000000 in
set_option maxRecDepth 100000 in
theorem ok_L_setLimit {G : GT} {t : Nat} (p1 : Int32) (I : TI) (L : TL) (b : Nat) (d : Nat) (hb : bnOK b) (hd : bnOK d) {Q : Int32 → TI → TL → Prop} (h : W_L_setLimit p1 I L b d Q) : MW G Y_L_setLimit [.ref 0, .int p1, .ref 456] (I, L, RT b d t, 457) (fun v9 u9 => ∃ (r9 : Int32) (I9 : TI) (L9 : TL), v9 = some (.int r9) ∧ u9 = (I9, L9, RT b d t, 457) ∧ Q r9 I9 L9) (fun _ _ => False) := by
  unfold W_L_setLimit at h
  refine MW.introH rfl (by decide) is_L_setLimit (Nat.le_of_ble_eq_true rfl) ?_
  show V G Y_L_setLimit 0 [(0, .ref 0), (1, .int p1), (2, .ref 456)] [] (I, L, RT b d t, 457) 0 0 _ _
  refine v_aload_n (pc' := 1) 0 2 rfl rfl rfl rfl ?_
  refine v_iconst (v := 0) (pc' := 2) 1 rfl rfl (by decide) ?_
  refine v_aload_n (pc' := 3) 2 0 rfl rfl rfl rfl ?_
  refine v_iload_n (pc' := 4) 3 1 rfl rfl rfl rfl ?_
  refine v_cV (Y2 := Y_X8_setLimit) (As := [.int p1]) (b := 0) (pc' := 7) (c1 := 1) (s1 := 6) 4 rfl rfl mf_X8_setLimit rfl rfl ml_L_99 mi_X8_setLimit se_X8_setLimit (ci := 7) rfl ly_0 (lay_lt ly_0 (by decide)) rfl (Nat.le_of_ble_eq_true rfl) ⟨Nat.le_of_ble_eq_true rfl, Nat.le_of_ble_eq_true rfl⟩ rfl rfl (ok_X8_setLimit p1 I L b d hb hd h) ?_ ?_
  · intro e9 u9 hx9
    obtain ⟨I8, L8, rfl, hx9⟩ := hx9
    obtain ⟨rfl, hx9⟩ := hx9
    exact vx_c1 (i := 3) (n := 1) (v := 1) 8 9 10 rfl (by decide) (by decide) cl_L_13 (by decide) (Or.inl ⟨3, rfl, rfl, rfl, rfl⟩) (by decide) (by decide) rfl (by decide) (by decide) ⟨_, _, _, rfl, rfl, hx9⟩
  intro v9 u9 hv9
  obtain ⟨r3807, I3808, L3809, rfl, rfl, h⟩ := hv9
  refine ⟨fun q => absurd q (Nat.lt_irrefl _), ?_⟩
  show V G Y_L_setLimit 7 _ (.int r3807 :: _) _ _ _ _ _
  refine v_i2l (pc' := 8) 5 rfl rfl ?_
  refine v_last (i := 0) (j := 0) (pc' := 9) 6 rfl rfl ly_456 ln_456 (lay_lt ly_456 (by decide)) (vp_lit (by decide)) (by decide) ?_
  refine v_goto (tgt := 15) 7 rfl (by decide) ?_
  refine v_iconst (v := 0) (pc' := 16) 11 rfl rfl (by decide) ?_
  exact v_iret 12 rfl rfl (by decide) (by decide) ⟨_, _, _, rfl, rfl, h⟩
set_option maxHeartbeats 4000000 in
set_option maxRecDepth 100000 in
theorem ok_L_format {G : GT} {t : Nat} (p1 : Int32) (p2 : Int32) (I : TI) (L : TL) (b : Nat) (d : Nat) (hb : bnOK b) (hd : bnOK d) {Q : Int32 → TI → TL → Prop} (h : W_L_format p1 p2 I L b d Q) : MW G Y_L_format [.ref 0, .int p1, .int p2, .ref 456] (I, L, RT b d t, 457) (fun v9 u9 => ∃ (r9 : Int32) (I9 : TI) (L9 : TL), v9 = some (.int r9) ∧ u9 = (I9, L9, RT b d t, 457) ∧ Q r9 I9 L9) (fun _ _ => False) := by
  unfold W_L_format at h
  refine MW.introH rfl (by decide) is_L_format (Nat.le_of_ble_eq_true rfl) ?_
  show V G Y_L_format 0 [(0, .ref 0), (1, .int p1), (2, .int p2), (3, .ref 456)] [] (I, L, RT b d t, 457) 0 0 _ _
  refine v_aload_n (pc' := 1) 0 3 rfl rfl rfl rfl ?_
  refine v_iconst (v := 0) (pc' := 2) 1 rfl rfl (by decide) ?_
  refine v_aload_n (pc' := 3) 2 0 rfl rfl rfl rfl ?_
  refine v_iload_n (pc' := 4) 3 1 rfl rfl rfl rfl ?_
  refine v_iload_n (pc' := 5) 4 2 rfl rfl rfl rfl ?_
  refine v_cV (Y2 := Y_X8_format) (As := [.int p1, .int p2]) (b := 0) (pc' := 8) (c1 := 2) (s1 := 12) 5 rfl rfl mf_X8_format rfl rfl ml_L_102 mi_X8_format se_X8_format (ci := 7) rfl ly_0 (lay_lt ly_0 (by decide)) rfl (Nat.le_of_ble_eq_true rfl) ⟨Nat.le_of_ble_eq_true rfl, Nat.le_of_ble_eq_true rfl⟩ rfl rfl (ok_X8_format p1 p2 I L b d hb hd h) ?_ ?_
  · intro e9 u9 hx9
    obtain ⟨I8, rfl, hx9⟩ := hx9
    obtain ⟨rfl, hx9⟩ := hx9
    exact vx_c1 (i := 4) (n := 1) (v := 1) 9 10 11 rfl (by decide) (by decide) cl_L_18 (by decide) (Or.inr ⟨rfl, rfl, rfl⟩) (by decide) (by decide) rfl (by decide) (by decide) ⟨_, _, _, rfl, rfl, hx9⟩
  intro v9 u9 hv9
  obtain ⟨r3812, I3813, rfl, rfl, h⟩ := hv9
  refine ⟨fun q => absurd q (Nat.lt_irrefl _), ?_⟩
  show V G Y_L_format 8 _ (.int r3812 :: _) _ _ _ _ _
  refine v_i2l (pc' := 9) 6 rfl rfl ?_
  refine v_last (i := 0) (j := 0) (pc' := 10) 7 rfl rfl ly_456 ln_456 (lay_lt ly_456 (by decide)) (vp_lit (by decide)) (by decide) ?_
  refine v_goto (tgt := 17) 8 rfl (by decide) ?_
  refine v_iconst (v := 0) (pc' := 18) 12 rfl rfl (by decide) ?_
  exact v_iret 13 rfl rfl (by decide) (by decide) ⟨_, _, _, rfl, rfl, h⟩
set_option maxHeartbeats 4000000 in
set_option maxRecDepth 100000 in
theorem ok_L_query {G : GT} (p1 : Int32) (I : TI) (L : TL) (b : Nat) (d : Nat) (t : Nat) (hb : bnOK b) (hd : bnOK d) (ht : txOK t) {Q : Int32 → TI → TL → Nat → Prop} (h : W_L_query p1 I L b d t Q) : MW G Y_L_query [.ref 0, .int p1, .ref 456] (I, L, RT b d t, 457) (fun v9 u9 => ∃ (r9 : Int32) (I9 : TI) (L9 : TL) (t9 : Nat), v9 = some (.int r9) ∧ u9 = (I9, L9, RT b d t9, 457) ∧ Q r9 I9 L9 t9) (fun _ _ => False) := by
  unfold W_L_query at h
  refine MW.introH rfl (by decide) is_L_query (Nat.le_of_ble_eq_true rfl) ?_
  show V G Y_L_query 0 [(0, .ref 0), (1, .int p1), (2, .ref 456)] [] (I, L, RT b d t, 457) 0 0 _ _
  refine v_aload_n (pc' := 1) 0 2 rfl rfl rfl rfl ?_
  refine v_iconst (v := 0) (pc' := 2) 1 rfl rfl (by decide) ?_
  refine v_aload_n (pc' := 3) 2 0 rfl rfl rfl rfl ?_
  refine v_iload_n (pc' := 4) 3 1 rfl rfl rfl rfl ?_
  refine v_cV (Y2 := Y_X8_query) (As := [.int p1]) (b := 0) (pc' := 7) (c1 := 1) (s1 := 6) 4 rfl rfl mf_X8_query rfl rfl ml_L_105 mi_X8_query se_X8_query (ci := 7) rfl ly_0 (lay_lt ly_0 (by decide)) rfl (Nat.le_of_ble_eq_true rfl) ⟨Nat.le_of_ble_eq_true rfl, Nat.le_of_ble_eq_true rfl⟩ rfl rfl (ok_X8_query p1 I L b d t hb hd ht h) ?_ ?_
  · intro e9 u9 hx9
    obtain ⟨I8, t8, rfl, hx9⟩ := hx9
    obtain ⟨rfl, hx9⟩ := hx9
    exact vx_c1 (i := 3) (n := 1) (v := 1) 8 9 10 rfl (by decide) (by decide) cl_L_13 (by decide) (Or.inl ⟨3, rfl, rfl, rfl, rfl⟩) (by decide) (by decide) rfl (by decide) (by decide) ⟨_, _, _, _, rfl, rfl, hx9⟩
  intro v9 u9 hv9
  obtain ⟨r3818, I3819, t3820, rfl, rfl, h⟩ := hv9
  refine ⟨fun q => absurd q (Nat.lt_irrefl _), ?_⟩
  obtain ⟨ht3821, h⟩ := h
  show V G Y_L_query 7 _ (.int r3818 :: _) _ _ _ _ _
  refine v_i2l (pc' := 8) 5 rfl rfl ?_
  refine v_last (i := 0) (j := 0) (pc' := 9) 6 rfl rfl ly_456 ln_456 (lay_lt ly_456 (by decide)) (vp_lit (by decide)) (by decide) ?_
  refine v_goto (tgt := 15) 7 rfl (by decide) ?_
  refine v_iconst (v := 0) (pc' := 16) 11 rfl rfl (by decide) ?_
  exact v_iret 12 rfl rfl (by decide) (by decide) ⟨_, _, _, _, rfl, rfl, h⟩
