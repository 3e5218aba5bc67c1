def D_X0_runEnd_2 (p0 : Nat) (v1 : Int32) (v2 : Int32) (I : TI) (L : TL) (Q : Int32 → Prop) (R2 : Int32 → Prop) (v3 : Int32) : Prop :=
  ((I (p0 + 1) 6) ≤ v3 → Q v3) ∧ (¬ (I (p0 + 1) 6) ≤ v3 → vp_in v1 16 ∧ (W_X8_bitOf (L (p0 + 37) (v1.toNatClampNeg)) (v3 + 1) I L (fun (r282 : Int32) => vp_in v1 16 ∧ (W_X8_bitOf (L (p0 + 37) (v1.toNatClampNeg)) v2 I L (fun (r284 : Int32) => (¬ r282 = r284 → Q v3) ∧ (r282 = r284 → R2 (v3 + 1)))))))
def L_X0_runEnd_2 (p0 : Nat) (v1 : Int32) (v2 : Int32) (I : TI) (L : TL) (Q : Int32 → Prop) : Nat → Int32 → Prop
  | 0, _ => False
  | n9 + 1, v3 => D_X0_runEnd_2 p0 v1 v2 I L Q (fun v3 => L_X0_runEnd_2 p0 v1 v2 I L Q n9 v3) v3
set_option maxHeartbeats 4000000 in
set_option maxRecDepth 100000 in
theorem d_X0_runEnd_2 {G : GT} {b d t : Nat} (p0 : Nat) (v1 : Int32) (v2 : Int32) (I : TI) (L : TL) (hp0 : bnOK p0) (Q : Int32 → Prop) (R2 : Int32 → Prop)  (hR2 : ∀ (v3 : Int32), R2 v3 → V G Y_X0_runEnd 2 [(0, .ref p0), (1, .int v1), (2, .int v2), (3, .int v3)] [] (I, L, RT b d t, 457) 0 0 (fun v9 u9 => ∃ (r9 : Int32), v9 = some (.int r9) ∧ u9 = (I, L, RT b d t, 457) ∧ Q r9) (fun _ _ => False)) (v3 : Int32)  (h : D_X0_runEnd_2 p0 v1 v2 I L Q R2 v3) : V G Y_X0_runEnd 2 [(0, .ref p0), (1, .int v1), (2, .int v2), (3, .int v3)] [] (I, L, RT b d t, 457) 0 0 (fun v9 u9 => ∃ (r9 : Int32), v9 = some (.int r9) ∧ u9 = (I, L, RT b d t, 457) ∧ Q r9) (fun _ _ => False) := by
  unfold D_X0_runEnd_2 at h
  refine v_iload_n (pc' := 3) 2 3 rfl rfl rfl rfl ?_
  refine v_aload_n (pc' := 4) 3 0 rfl rfl rfl rfl ?_
  refine v_getR (t := (p0 + 1)) (pc' := 7) 4 rfl rfl pf_X0_12 (bn0l hp0) (lay_lt (bn0l hp0) (by decide)) (rt_bn_0 hp0) ?_
  refine v_getI (pc' := 10) 5 rfl rfl pf_X0_88 (bn1l hp0) (lay_lt (bn1l hp0) (by decide)) ?_
  refine v_icmp_ge (tgt := 44) (pc' := 13) 6 rfl rfl (by decide) (fun hc => ?_) (fun hc => ?_)
  · replace h := h.1 hc
    refine v_iload_n (pc' := 45) 24 3 rfl rfl rfl rfl ?_
    exact v_iret 25 rfl rfl (by decide) (by decide) ⟨_, rfl, rfl, h⟩
  replace h := h.2 hc
  refine v_aload_n (pc' := 14) 7 0 rfl rfl rfl rfl ?_
  refine v_getR (t := (p0 + 37)) (pc' := 17) 8 rfl rfl pf_X0_25 (bn0l hp0) (lay_lt (bn0l hp0) (by decide)) (rt_bn_2 hp0) ?_
  refine v_iload_n (pc' := 18) 9 1 rfl rfl rfl rfl ?_
  obtain ⟨hi281, h⟩ := h
  refine v_lald (i := v1) (j := v1.toNatClampNeg) (pc' := 19) 10 rfl rfl (bn37l hp0) (bn37n hp0) (lay_lt (bn37l hp0) (by decide)) hi281 rfl ?_
  refine v_iload_n (pc' := 20) 11 3 rfl rfl rfl rfl ?_
  refine v_iconst (v := 1) (pc' := 21) 12 rfl rfl (by decide) ?_
  refine v_iadd (pc' := 22) 13 rfl rfl ?_
  refine v_cNS (Y2 := Y_X8_bitOf) (As := [.long (L (p0 + 37) (v1.toNatClampNeg)), .int (v3 + 1)]) (pc' := 25) (c1 := 0) (s1 := 0) 14 rfl rfl mf_X8_bitOf rfl rfl nt_X0_80 ms_X8_bitOf rfl (Nat.le_of_ble_eq_true rfl) ⟨Nat.le_of_ble_eq_true rfl, Nat.le_of_ble_eq_true rfl⟩ rfl rfl (ok_X8_bitOf (L (p0 + 37) (v1.toNatClampNeg)) (v3 + 1) I L h) ?_ ?_
  · intro e9 u9 hx9
    exact hx9.elim
  intro v9 u9 hv9
  obtain ⟨r282, rfl, rfl, h⟩ := hv9
  refine ⟨fun q => absurd q (Nat.lt_irrefl _), ?_⟩
  show V G Y_X0_runEnd 25 _ (.int r282 :: _) _ _ _ _ _
  refine v_aload_n (pc' := 26) 15 0 rfl rfl rfl rfl ?_
  refine v_getR (t := (p0 + 37)) (pc' := 29) 16 rfl rfl pf_X0_25 (bn0l hp0) (lay_lt (bn0l hp0) (by decide)) (rt_bn_2 hp0) ?_
  refine v_iload_n (pc' := 30) 17 1 rfl rfl rfl rfl ?_
  obtain ⟨hi283, h⟩ := h
  refine v_lald (i := v1) (j := v1.toNatClampNeg) (pc' := 31) 18 rfl rfl (bn37l hp0) (bn37n hp0) (lay_lt (bn37l hp0) (by decide)) hi283 rfl ?_
  refine v_iload_n (pc' := 32) 19 2 rfl rfl rfl rfl ?_
  refine v_cNS (Y2 := Y_X8_bitOf) (As := [.long (L (p0 + 37) (v1.toNatClampNeg)), .int v2]) (pc' := 35) (c1 := 0) (s1 := 0) 20 rfl rfl mf_X8_bitOf rfl rfl nt_X0_80 ms_X8_bitOf rfl (Nat.le_of_ble_eq_true rfl) ⟨Nat.le_of_ble_eq_true rfl, Nat.le_of_ble_eq_true rfl⟩ rfl rfl (ok_X8_bitOf (L (p0 + 37) (v1.toNatClampNeg)) v2 I L h) ?_ ?_
  · intro e9 u9 hx9
    exact hx9.elim
  intro v9 u9 hv9
  obtain ⟨r284, rfl, rfl, h⟩ := hv9
  refine ⟨fun q => absurd q (Nat.lt_irrefl _), ?_⟩
  show V G Y_X0_runEnd 35 _ (.int r284 :: _) _ _ _ _ _
  refine v_icmp_ne (tgt := 44) (pc' := 38) 21 rfl rfl (by decide) (fun hc => ?_) (fun hc => ?_)
  · replace h := h.1 hc
    refine v_iload_n (pc' := 45) 24 3 rfl rfl rfl rfl ?_
    exact v_iret 25 rfl rfl (by decide) (by decide) ⟨_, rfl, rfl, h⟩
  replace h := h.2 hc
  refine v_iinc (v := (v3 + 1)) (ls' := [(3, .int (v3 + 1)), (0, .ref p0), (1, .int v1), (2, .int v2)]) (pc' := 41) 22 3 rfl rfl rfl rfl (by decide) rfl ?_
  refine v_goto (tgt := 2) 23 rfl (by decide) ?_
  refine V.sub [1, 2, 3, 0] rfl ?_
  exact hR2 (v3 + 1) h
theorem l_X0_runEnd_2 {G : GT} {b d t : Nat} (p0 : Nat) (v1 : Int32) (v2 : Int32) (I : TI) (L : TL) (hp0 : bnOK p0) (Q : Int32 → Prop)  : ∀ (n9 : Nat) (v3 : Int32), L_X0_runEnd_2 p0 v1 v2 I L Q n9 v3 → V G Y_X0_runEnd 2 [(0, .ref p0), (1, .int v1), (2, .int v2), (3, .int v3)] [] (I, L, RT b d t, 457) 0 0 (fun v9 u9 => ∃ (r9 : Int32), v9 = some (.int r9) ∧ u9 = (I, L, RT b d t, 457) ∧ Q r9) (fun _ _ => False)
  | 0, _, h => h.elim
  | n9 + 1, v3, h => d_X0_runEnd_2 p0 v1 v2 I L hp0 Q _ (l_X0_runEnd_2 p0 v1 v2 I L hp0 Q n9) v3 h
def W_X0_runEnd (p0 : Nat) (p1 : Int32) (p2 : Int32) (I : TI) (L : TL) (Q : Int32 → Prop) : Prop :=
  ∃ n285, L_X0_runEnd_2 p0 p1 p2 I L Q n285 p2
set_option maxHeartbeats 4000000 in
set_option maxRecDepth 100000 in
theorem ok_X0_runEnd {G : GT} {b d t : Nat} (p0 : Nat) (p1 : Int32) (p2 : Int32) (I : TI) (L : TL) (hp0 : bnOK p0) {Q : Int32 → Prop} (h : W_X0_runEnd p0 p1 p2 I L Q) : MW G Y_X0_runEnd [.ref p0, .int p1, .int p2] (I, L, RT b d t, 457) (fun v9 u9 => ∃ (r9 : Int32), v9 = some (.int r9) ∧ u9 = (I, L, RT b d t, 457) ∧ Q r9) (fun _ _ => False) := by
  unfold W_X0_runEnd at h
  refine MW.intro rfl (by decide) is_X0_runEnd (Nat.le_of_ble_eq_true rfl) ?_
  show V G Y_X0_runEnd 0 [(0, .ref p0), (1, .int p1), (2, .int p2)] [] (I, L, RT b d t, 457) 0 0 _ _
  refine v_iload_n (pc' := 1) 0 2 rfl rfl rfl rfl ?_
  refine v_istore_n (ls' := [(3, .int p2), (0, .ref p0), (1, .int p1), (2, .int p2)]) (pc' := 2) 1 rfl rfl rfl (by decide) rfl ?_
  refine V.sub [1, 2, 3, 0] rfl ?_
  obtain ⟨n285, h⟩ := h
  exact l_X0_runEnd_2 p0 p1 p2 I L hp0 Q n285 p2 h
def W_X0_cheapVerdict (p0 : Nat) (p1 : Int32) (p2 : Int32) (p3 : Int32) (I : TI) (L : TL) (Q : Int32 → Prop) : Prop :=
  W_X0_swing p0 p1 p3 I L (fun (r287 : Int32) => (p2 ≤ r287 → Q 0) ∧ (¬ p2 ≤ r287 → Q 1))
set_option maxHeartbeats 4000000 in
set_option maxRecDepth 100000 in
theorem ok_X0_cheapVerdict {G : GT} {b d t : Nat} (p0 : Nat) (p1 : Int32) (p2 : Int32) (p3 : Int32) (I : TI) (L : TL) (hp0 : bnOK p0) {Q : Int32 → Prop} (h : W_X0_cheapVerdict p0 p1 p2 p3 I L Q) : MW G Y_X0_cheapVerdict [.ref p0, .int p1, .int p2, .int p3] (I, L, RT b d t, 457) (fun v9 u9 => ∃ (r9 : Int32), v9 = some (.int r9) ∧ u9 = (I, L, RT b d t, 457) ∧ Q r9) (fun _ _ => False) := by
  unfold W_X0_cheapVerdict at h
  refine MW.intro rfl (by decide) is_X0_cheapVerdict (Nat.le_of_ble_eq_true rfl) ?_
  show V G Y_X0_cheapVerdict 0 [(0, .ref p0), (1, .int p1), (2, .int p2), (3, .int p3)] [] (I, L, RT b d t, 457) 0 0 _ _
  refine v_iload_n (pc' := 1) 0 2 rfl rfl rfl rfl ?_
  refine v_aload_n (pc' := 2) 1 0 rfl rfl rfl rfl ?_
  refine v_iload_n (pc' := 3) 2 1 rfl rfl rfl rfl ?_
  refine v_iload_n (pc' := 4) 3 3 rfl rfl rfl rfl ?_
  refine v_cV (Y2 := Y_X0_swing) (As := [.int p1, .int p3]) (b := p0) (pc' := 7) (c1 := 0) (s1 := 0) 4 rfl rfl mf_X0_swing rfl rfl ml_X0_91 mi_X0_swing se_X0_swing (ci := 0) rfl (bn0l hp0) (lay_lt (bn0l hp0) (by decide)) rfl (Nat.le_of_ble_eq_true rfl) ⟨Nat.le_of_ble_eq_true rfl, Nat.le_of_ble_eq_true rfl⟩ rfl rfl (ok_X0_swing p0 p1 p3 I L hp0 h) ?_ ?_
  · intro e9 u9 hx9
    exact hx9.elim
  intro v9 u9 hv9
  obtain ⟨r287, rfl, rfl, h⟩ := hv9
  refine ⟨fun q => absurd q (Nat.lt_irrefl _), ?_⟩
  show V G Y_X0_cheapVerdict 7 _ (.int r287 :: _) _ _ _ _ _
  refine v_icmp_le (tgt := 14) (pc' := 10) 5 rfl rfl (by decide) (fun hc => ?_) (fun hc => ?_)
  · replace h := h.1 hc
    refine v_iconst (v := 0) (pc' := 15) 8 rfl rfl (by decide) ?_
    exact v_iret 9 rfl rfl (by decide) (by decide) ⟨_, rfl, rfl, h⟩
  replace h := h.2 hc
  refine v_iconst (v := 1) (pc' := 11) 6 rfl rfl (by decide) ?_
  refine v_goto (tgt := 15) 7 rfl (by decide) ?_
  exact v_iret 9 rfl rfl (by decide) (by decide) ⟨_, rfl, rfl, h⟩
def B_X0_dearVerdict_33 (p0 : Nat) (p1 : Nat) (s0 : Int64) (I : TI) (L : TL) (Q : Int32 → Prop) : Prop :=
  W_X8_window (I p1 1) (I p1 2) I L (fun (r294 : Int64) => ((s0 &&& r294) = 0 → Q 0) ∧ (¬ (s0 &&& r294) = 0 → Q 1))
set_option maxHeartbeats 4000000 in
set_option maxRecDepth 100000 in
theorem b_X0_dearVerdict_33 {G : GT} {b d t : Nat} (p0 : Nat) (p1 : Nat) (s0 : Int64) (I : TI) (L : TL) (hp0 : bnOK p0) (hp1 : LAY p1 = 2) (Q : Int32 → Prop)  (h : B_X0_dearVerdict_33 p0 p1 s0 I L Q) : V G Y_X0_dearVerdict 33 [(1, .ref p1)] [.long s0] (I, L, RT b d t, 457) 0 0 (fun v9 u9 => ∃ (r9 : Int32), v9 = some (.int r9) ∧ u9 = (I, L, RT b d t, 457) ∧ Q r9) (fun _ _ => False) := by
  unfold B_X0_dearVerdict_33 at h
  refine v_lstore_n (ls' := [(2, .long s0), (1, .ref p1)]) (pc' := 34) 17 rfl rfl rfl (by decide) rfl ?_
  refine v_lload_n (pc' := 35) 18 0 rfl rfl rfl rfl ?_
  refine v_aload_n (pc' := 36) 19 1 rfl rfl rfl rfl ?_
  refine v_getI (pc' := 39) 20 rfl rfl pf_X0_150 hp1 (lay_lt hp1 (by decide)) ?_
  refine v_aload_n (pc' := 40) 21 1 rfl rfl rfl rfl ?_
  refine v_getI (pc' := 43) 22 rfl rfl pf_X0_153 hp1 (lay_lt hp1 (by decide)) ?_
  refine v_cNS (Y2 := Y_X8_window) (As := [.int (I p1 1), .int (I p1 2)]) (pc' := 46) (c1 := 0) (s1 := 0) 23 rfl rfl mf_X8_window rfl rfl nt_X0_84 ms_X8_window rfl (Nat.le_of_ble_eq_true rfl) ⟨Nat.le_of_ble_eq_true rfl, Nat.le_of_ble_eq_true rfl⟩ rfl rfl (ok_X8_window (I p1 1) (I p1 2) I L h) ?_ ?_
  · intro e9 u9 hx9
    exact hx9.elim
  intro v9 u9 hv9
  obtain ⟨r294, rfl, rfl, h⟩ := hv9
  refine ⟨fun q => absurd q (Nat.lt_irrefl _), ?_⟩
  show V G Y_X0_dearVerdict 46 _ (.long r294 :: _) _ _ _ _ _
  refine v_land (pc' := 47) 24 rfl rfl ?_
  refine v_lconst (v := 0) (pc' := 48) 25 rfl rfl (by decide) ?_
  refine v_lc_eq (tgt := 56) (pc' := 52) 26 27 rfl rfl rfl (by decide) (fun hc => ?_) (fun hc => ?_)
  · replace h := h.1 hc
    refine v_iconst (v := 0) (pc' := 57) 30 rfl rfl (by decide) ?_
    exact v_iret 31 rfl rfl (by decide) (by decide) ⟨_, rfl, rfl, h⟩
  replace h := h.2 hc
  refine v_iconst (v := 1) (pc' := 53) 28 rfl rfl (by decide) ?_
  refine v_goto (tgt := 57) 29 rfl (by decide) ?_
  exact v_iret 31 rfl rfl (by decide) (by decide) ⟨_, rfl, rfl, h⟩
def W_X0_dearVerdict (p0 : Nat) (p1 : Nat) (I : TI) (L : TL) (Q : Int32 → Prop) : Prop :=
  (¬ (I p1 3) = 1 → vp_in (I p1 0) 16 ∧ (B_X0_dearVerdict_33 p0 p1 ((L (p0 + 39) ((I p1 0).toNatClampNeg)) ^^^ (-1)) I L Q)) ∧ ((I p1 3) = 1 → vp_in (I p1 0) 16 ∧ (B_X0_dearVerdict_33 p0 p1 (L (p0 + 39) ((I p1 0).toNatClampNeg)) I L Q))
set_option maxHeartbeats 4000000 in
set_option maxRecDepth 100000 in
theorem ok_X0_dearVerdict {G : GT} {b d t : Nat} (p0 : Nat) (p1 : Nat) (I : TI) (L : TL) (hp0 : bnOK p0) (hp1 : LAY p1 = 2) {Q : Int32 → Prop} (h : W_X0_dearVerdict p0 p1 I L Q) : MW G Y_X0_dearVerdict [.ref p0, .ref p1] (I, L, RT b d t, 457) (fun v9 u9 => ∃ (r9 : Int32), v9 = some (.int r9) ∧ u9 = (I, L, RT b d t, 457) ∧ Q r9) (fun _ _ => False) := by
  unfold W_X0_dearVerdict at h
  refine MW.intro rfl (by decide) is_X0_dearVerdict (Nat.le_of_ble_eq_true rfl) ?_
  show V G Y_X0_dearVerdict 0 [(0, .ref p0), (1, .ref p1)] [] (I, L, RT b d t, 457) 0 0 _ _
  refine v_aload_n (pc' := 1) 0 1 rfl rfl rfl rfl ?_
  refine v_getI (pc' := 4) 1 rfl rfl pf_X0_142 hp1 (lay_lt hp1 (by decide)) ?_
  refine v_iconst (v := 1) (pc' := 5) 2 rfl rfl (by decide) ?_
  refine v_icmp_ne (tgt := 20) (pc' := 8) 3 rfl rfl (by decide) (fun hc => ?_) (fun hc => ?_)
  · replace h := h.1 hc
    refine v_aload_n (pc' := 21) 10 0 rfl rfl rfl rfl ?_
    refine v_getR (t := (p0 + 39)) (pc' := 24) 11 rfl rfl pf_X0_32 (bn0l hp0) (lay_lt (bn0l hp0) (by decide)) (rt_bn_4 hp0) ?_
    refine v_aload_n (pc' := 25) 12 1 rfl rfl rfl rfl ?_
    refine v_getI (pc' := 28) 13 rfl rfl pf_X0_147 hp1 (lay_lt hp1 (by decide)) ?_
    obtain ⟨hi295, h⟩ := h
    refine v_lald (i := (I p1 0)) (j := (I p1 0).toNatClampNeg) (pc' := 29) 14 rfl rfl (bn39l hp0) (bn39n hp0) (lay_lt (bn39l hp0) (by decide)) hi295 rfl ?_
    refine v_ldc2 (v := -1) (pc' := 32) 15 rfl rfl kl_X0_112 ?_
    refine v_lxor (pc' := 33) 16 rfl rfl ?_
    refine V.sub [1] rfl ?_
    exact b_X0_dearVerdict_33 p0 p1 ((L (p0 + 39) ((I p1 0).toNatClampNeg)) ^^^ (-1)) I L hp0 hp1 Q h
  replace h := h.2 hc
  refine v_aload_n (pc' := 9) 4 0 rfl rfl rfl rfl ?_
  refine v_getR (t := (p0 + 39)) (pc' := 12) 5 rfl rfl pf_X0_32 (bn0l hp0) (lay_lt (bn0l hp0) (by decide)) (rt_bn_4 hp0) ?_
  refine v_aload_n (pc' := 13) 6 1 rfl rfl rfl rfl ?_
  refine v_getI (pc' := 16) 7 rfl rfl pf_X0_147 hp1 (lay_lt hp1 (by decide)) ?_
  obtain ⟨hi296, h⟩ := h
  refine v_lald (i := (I p1 0)) (j := (I p1 0).toNatClampNeg) (pc' := 17) 8 rfl rfl (bn39l hp0) (bn39n hp0) (lay_lt (bn39l hp0) (by decide)) hi296 rfl ?_
  refine v_goto (tgt := 33) 9 rfl (by decide) ?_
  refine V.sub [1] rfl ?_
  exact b_X0_dearVerdict_33 p0 p1 (L (p0 + 39) ((I p1 0).toNatClampNeg)) I L hp0 hp1 Q h
def W_X0_settle (p0 : Nat) (p1 : Int32) (p2 : Int32) (p3 : Int32) (I : TI) (L : TL) (Q : Int32 → TI → TL → Prop) : Prop :=
  W_X8_window p2 p3 I L (fun (r304 : Int64) => vp_in p1 16 ∧ (∀ x306 : Int64, x306 = (r304 &&& ((L (p0 + 12) (p1.toNatClampNeg)) ^^^ (-1))) → (vp_in p1 16 ∧ (vp_in p1 16 ∧ (∀ L309 : TL, L309 = (up2 L (p0 + 12) (p1.toNatClampNeg) ((L (p0 + 12) (p1.toNatClampNeg)) ||| x306)) → (W_X0_refresh p0 I L309 (fun (I310 : TI) (L311 : TL) => W_J13_bitCount_95d88 x306 I310 L311 (fun (r312 : Int32) => Q r312 I310 L311))))))))
set_option maxHeartbeats 4000000 in
set_option maxRecDepth 100000 in
theorem ok_X0_settle {G : GT} {b d t : Nat} (p0 : Nat) (p1 : Int32) (p2 : Int32) (p3 : Int32) (I : TI) (L : TL) (hp0 : bnOK p0) {Q : Int32 → TI → TL → Prop} (h : W_X0_settle p0 p1 p2 p3 I L Q) : MW G Y_X0_settle [.ref p0, .int p1, .int p2, .int p3] (I, L, RT b d t, 457) (fun v9 u9 => ∃ (r9 : Int32) (I9 : TI) (L9 : TL), v9 = some (.int r9) ∧ u9 = (I9, L9, RT b d t, 457) ∧ Q r9 I9 L9) (fun _ _ => False) := by
  unfold W_X0_settle at h
  refine MW.intro rfl (by decide) is_X0_settle (Nat.le_of_ble_eq_true rfl) ?_
  show V G Y_X0_settle 0 [(0, .ref p0), (1, .int p1), (2, .int p2), (3, .int p3)] [] (I, L, RT b d t, 457) 0 0 _ _
  refine v_iload_n (pc' := 1) 0 2 rfl rfl rfl rfl ?_
  refine v_iload_n (pc' := 2) 1 3 rfl rfl rfl rfl ?_
  refine v_cNS (Y2 := Y_X8_window) (As := [.int p2, .int p3]) (pc' := 5) (c1 := 0) (s1 := 0) 2 rfl rfl mf_X8_window rfl rfl nt_X0_84 ms_X8_window rfl (Nat.le_of_ble_eq_true rfl) ⟨Nat.le_of_ble_eq_true rfl, Nat.le_of_ble_eq_true rfl⟩ rfl rfl (ok_X8_window p2 p3 I L h) ?_ ?_
  · intro e9 u9 hx9
    exact hx9.elim
  intro v9 u9 hv9
  obtain ⟨r304, rfl, rfl, h⟩ := hv9
  refine ⟨fun q => absurd q (Nat.lt_irrefl _), ?_⟩
  show V G Y_X0_settle 5 _ (.long r304 :: _) _ _ _ _ _
  refine v_aload_n (pc' := 6) 3 0 rfl rfl rfl rfl ?_
  refine v_getR (t := (p0 + 6)) (pc' := 9) 4 rfl rfl pf_X0_21 (bn0l hp0) (lay_lt (bn0l hp0) (by decide)) (rt_bn_1 hp0) ?_
  refine v_getR (t := (p0 + 12)) (pc' := 12) 5 rfl rfl pf_X0_109 (bn6l hp0) (lay_lt (bn6l hp0) (by decide)) (rt_st_2 (bn_st hp0)) ?_
  refine v_iload_n (pc' := 13) 6 1 rfl rfl rfl rfl ?_
  obtain ⟨hi305, h⟩ := h
  refine v_lald (i := p1) (j := p1.toNatClampNeg) (pc' := 14) 7 rfl rfl (bn12l hp0) (bn12n hp0) (lay_lt (bn12l hp0) (by decide)) hi305 rfl ?_
  refine v_ldc2 (v := -1) (pc' := 17) 8 rfl rfl kl_X0_112 ?_
  refine v_lxor (pc' := 18) 9 rfl rfl ?_
  refine v_land (pc' := 19) 10 rfl rfl ?_
  refine nm_J (e := (r304 &&& ((L (p0 + 12) (p1.toNatClampNeg)) ^^^ (-1)))) (fun x306 hx306 => ?_)
  replace h := h x306 hx306
  refine v_lstore (ls' := [(4, .long x306), (0, .ref p0), (1, .int p1), (2, .int p2), (3, .int p3)]) (pc' := 21) 11 rfl rfl (by decide) rfl ?_
  refine v_aload_n (pc' := 22) 12 1 rfl rfl rfl rfl ?_
  refine v_getR (t := (p0 + 6)) (pc' := 25) 13 rfl rfl pf_X0_21 (bn0l hp0) (lay_lt (bn0l hp0) (by decide)) (rt_bn_1 hp0) ?_
  refine v_getR (t := (p0 + 12)) (pc' := 28) 14 rfl rfl pf_X0_109 (bn6l hp0) (lay_lt (bn6l hp0) (by decide)) (rt_st_2 (bn_st hp0)) ?_
  refine v_iload_n (pc' := 29) 15 2 rfl rfl rfl rfl ?_
  refine v_dup2 (pc' := 30) 16 rfl rfl rfl rfl ?_
  obtain ⟨hi307, h⟩ := h
  refine v_lald (i := p1) (j := p1.toNatClampNeg) (pc' := 31) 17 rfl rfl (bn12l hp0) (bn12n hp0) (lay_lt (bn12l hp0) (by decide)) hi307 rfl ?_
  refine v_lload (pc' := 33) 18 0 rfl rfl rfl ?_
  refine v_lor (pc' := 34) 19 rfl rfl ?_
  obtain ⟨hi308, h⟩ := h
  refine v_last (i := p1) (j := p1.toNatClampNeg) (pc' := 35) 20 rfl rfl (bn12l hp0) (bn12n hp0) (lay_lt (bn12l hp0) (by decide)) hi308 rfl ?_
  refine nm_N (e := (up2 L (p0 + 12) (p1.toNatClampNeg) ((L (p0 + 12) (p1.toNatClampNeg)) ||| x306))) (fun L309 hL309 => ?_)
  replace h := h L309 hL309
  refine v_aload_n (pc' := 36) 21 1 rfl rfl rfl rfl ?_
  refine v_cV (Y2 := Y_X0_refresh) (As := []) (b := p0) (pc' := 39) (c1 := 0) (s1 := 0) 22 rfl rfl mf_X0_refresh rfl rfl ml_X0_156 mi_X0_refresh se_X0_refresh (ci := 0) rfl (bn0l hp0) (lay_lt (bn0l hp0) (by decide)) rfl (Nat.le_of_ble_eq_true rfl) ⟨Nat.le_of_ble_eq_true rfl, Nat.le_of_ble_eq_true rfl⟩ rfl rfl (ok_X0_refresh p0 I L309 hp0 h) ?_ ?_
  · intro e9 u9 hx9
    exact hx9.elim
  intro v9 u9 hv9
  obtain ⟨I310, L311, rfl, rfl, h⟩ := hv9
  refine ⟨fun q => absurd q (Nat.lt_irrefl _), ?_⟩
  show V G Y_X0_settle 39 _ _ _ _ _ _ _
  refine v_lload (pc' := 41) 23 0 rfl rfl rfl ?_
  refine v_cS (Y2 := Y_J13_bitCount_95d88) (As := [.long x306]) (pc' := 44) (c1 := 0) (s1 := 0) 24 rfl rfl mf_J13_bitCount_95d88 rfl rfl ml_X0_117 ms_J13_bitCount_95d88 rfl (Nat.le_of_ble_eq_true rfl) ⟨Nat.le_of_ble_eq_true rfl, Nat.le_of_ble_eq_true rfl⟩ rfl rfl (ok_J13_bitCount_95d88 x306 I310 L311 h) ?_ ?_
  · intro e9 u9 hx9
    exact hx9.elim
  intro v9 u9 hv9
  obtain ⟨r312, rfl, rfl, h⟩ := hv9
  refine ⟨fun q => absurd q (Nat.lt_irrefl _), ?_⟩
  show V G Y_X0_settle 44 _ (.int r312 :: _) _ _ _ _ _
  exact v_iret 25 rfl rfl (by decide) (by decide) ⟨_, _, _, rfl, rfl, h⟩
def B_X0_rule_139 (p0 : Nat) (p1 : Nat) (v5 : Int64) (s1 : Int32) (s2 : Int64) (I : TI) (L : TL) (Q : Int32 → TI → TL → Prop) : Prop :=
  vp_in s1 16 ∧ (W_X0_refresh p0 I (up2 L (p0 + 14) (s1.toNatClampNeg) s2) (fun (I338 : TI) (L339 : TL) => W_J13_bitCount_95d88 v5 I338 L339 (fun (r340 : Int32) => Q r340 I338 L339)))
set_option maxHeartbeats 4000000 in
set_option maxRecDepth 100000 in
theorem b_X0_rule_139 {G : GT} {b d t : Nat} (p0 : Nat) (p1 : Nat) (v5 : Int64) (s1 : Int32) (s2 : Int64) (I : TI) (L : TL) (hp0 : bnOK p0) (hp1 : LAY p1 = 2) (Q : Int32 → TI → TL → Prop)  (h : B_X0_rule_139 p0 p1 v5 s1 s2 I L Q) : V G Y_X0_rule 139 [(0, .ref p0), (5, .long v5)] [.long s2, .int s1, .ref (p0 + 14)] (I, L, RT b d t, 457) 0 0 (fun v9 u9 => ∃ (r9 : Int32) (I9 : TI) (L9 : TL), v9 = some (.int r9) ∧ u9 = (I9, L9, RT b d t, 457) ∧ Q r9 I9 L9) (fun _ _ => False) := by
  unfold B_X0_rule_139 at h
  obtain ⟨hi337, h⟩ := h
  refine v_last (i := s1) (j := s1.toNatClampNeg) (pc' := 140) 78 rfl rfl (bn14l hp0) (bn14n hp0) (lay_lt (bn14l hp0) (by decide)) hi337 rfl ?_
  refine v_aload_n (pc' := 141) 79 0 rfl rfl rfl rfl ?_
  refine v_cV (Y2 := Y_X0_refresh) (As := []) (b := p0) (pc' := 144) (c1 := 0) (s1 := 0) 80 rfl rfl mf_X0_refresh rfl rfl ml_X0_156 mi_X0_refresh se_X0_refresh (ci := 0) rfl (bn0l hp0) (lay_lt (bn0l hp0) (by decide)) rfl (Nat.le_of_ble_eq_true rfl) ⟨Nat.le_of_ble_eq_true rfl, Nat.le_of_ble_eq_true rfl⟩ rfl rfl (ok_X0_refresh p0 I (up2 L (p0 + 14) (s1.toNatClampNeg) s2) hp0 h) ?_ ?_
  · intro e9 u9 hx9
    exact hx9.elim
  intro v9 u9 hv9
  obtain ⟨I338, L339, rfl, rfl, h⟩ := hv9
  refine ⟨fun q => absurd q (Nat.lt_irrefl _), ?_⟩
  show V G Y_X0_rule 144 _ _ _ _ _ _ _
  refine v_lload (pc' := 146) 81 1 rfl rfl rfl ?_
  refine v_cS (Y2 := Y_J13_bitCount_95d88) (As := [.long v5]) (pc' := 149) (c1 := 0) (s1 := 0) 82 rfl rfl mf_J13_bitCount_95d88 rfl rfl ml_X0_117 ms_J13_bitCount_95d88 rfl (Nat.le_of_ble_eq_true rfl) ⟨Nat.le_of_ble_eq_true rfl, Nat.le_of_ble_eq_true rfl⟩ rfl rfl (ok_J13_bitCount_95d88 v5 I338 L339 h) ?_ ?_
  · intro e9 u9 hx9
    exact hx9.elim
  intro v9 u9 hv9
  obtain ⟨r340, rfl, rfl, h⟩ := hv9
  refine ⟨fun q => absurd q (Nat.lt_irrefl _), ?_⟩
  show V G Y_X0_rule 149 _ (.int r340 :: _) _ _ _ _ _
  exact v_iret 83 rfl rfl (by decide) (by decide) ⟨_, _, _, rfl, rfl, h⟩
def B_X0_rule_82 (p0 : Nat) (p1 : Nat) (v2 : Int32) (v3 : Int64) (v5 : Int64) (s0 : Int32) (I : TI) (L : TL) (Q : Int32 → TI → TL → Prop) : Prop :=
  vp_in v2 16 ∧ (vp_in v2 16 ∧ (∀ L343 : TL, L343 = (up2 L (p0 + 13) (v2.toNatClampNeg) ((L (p0 + 13) (v2.toNatClampNeg)) ||| v3)) → ((s0 = 0 → vp_in v2 16 ∧ (B_X0_rule_139 p0 p1 v5 v2 ((L343 (p0 + 14) (v2.toNatClampNeg)) &&& (v3 ^^^ (-1))) I L343 Q)) ∧ (¬ s0 = 0 → vp_in v2 16 ∧ (B_X0_rule_139 p0 p1 v5 v2 ((L343 (p0 + 14) (v2.toNatClampNeg)) ||| v3) I L343 Q)))))
set_option maxHeartbeats 4000000 in
set_option maxRecDepth 100000 in
theorem b_X0_rule_82 {G : GT} {b d t : Nat} (p0 : Nat) (p1 : Nat) (v2 : Int32) (v3 : Int64) (v5 : Int64) (s0 : Int32) (I : TI) (L : TL) (hp0 : bnOK p0) (hp1 : LAY p1 = 2) (Q : Int32 → TI → TL → Prop)  (h : B_X0_rule_82 p0 p1 v2 v3 v5 s0 I L Q) : V G Y_X0_rule 82 [(0, .ref p0), (2, .int v2), (3, .long v3), (5, .long v5)] [.int s0] (I, L, RT b d t, 457) 0 0 (fun v9 u9 => ∃ (r9 : Int32) (I9 : TI) (L9 : TL), v9 = some (.int r9) ∧ u9 = (I9, L9, RT b d t, 457) ∧ Q r9 I9 L9) (fun _ _ => False) := by
  unfold B_X0_rule_82 at h
  refine v_istore (ls' := [(7, .int s0), (0, .ref p0), (2, .int v2), (3, .long v3), (5, .long v5)]) (pc' := 84) 45 rfl rfl (by decide) rfl ?_
  refine v_aload_n (pc' := 85) 46 1 rfl rfl rfl rfl ?_
  refine v_getR (t := (p0 + 6)) (pc' := 88) 47 rfl rfl pf_X0_21 (bn0l hp0) (lay_lt (bn0l hp0) (by decide)) (rt_bn_1 hp0) ?_
  refine v_getR (t := (p0 + 13)) (pc' := 91) 48 rfl rfl pf_X0_106 (bn6l hp0) (lay_lt (bn6l hp0) (by decide)) (rt_st_3 (bn_st hp0)) ?_
  refine v_iload_n (pc' := 92) 49 2 rfl rfl rfl rfl ?_
  refine v_dup2 (pc' := 93) 50 rfl rfl rfl rfl ?_
  obtain ⟨hi341, h⟩ := h
  refine v_lald (i := v2) (j := v2.toNatClampNeg) (pc' := 94) 51 rfl rfl (bn13l hp0) (bn13n hp0) (lay_lt (bn13l hp0) (by decide)) hi341 rfl ?_
  refine v_lload_n (pc' := 95) 52 3 rfl rfl rfl rfl ?_
  refine v_lor (pc' := 96) 53 rfl rfl ?_
  obtain ⟨hi342, h⟩ := h
  refine v_last (i := v2) (j := v2.toNatClampNeg) (pc' := 97) 54 rfl rfl (bn13l hp0) (bn13n hp0) (lay_lt (bn13l hp0) (by decide)) hi342 rfl ?_
  refine nm_N (e := (up2 L (p0 + 13) (v2.toNatClampNeg) ((L (p0 + 13) (v2.toNatClampNeg)) ||| v3))) (fun L343 hL343 => ?_)
  replace h := h L343 hL343
  refine v_aload_n (pc' := 98) 55 1 rfl rfl rfl rfl ?_
  refine v_getR (t := (p0 + 6)) (pc' := 101) 56 rfl rfl pf_X0_21 (bn0l hp0) (lay_lt (bn0l hp0) (by decide)) (rt_bn_1 hp0) ?_
  refine v_getR (t := (p0 + 14)) (pc' := 104) 57 rfl rfl pf_X0_114 (bn6l hp0) (lay_lt (bn6l hp0) (by decide)) (rt_st_4 (bn_st hp0)) ?_
  refine v_iload_n (pc' := 105) 58 2 rfl rfl rfl rfl ?_
  refine v_iload (pc' := 107) 59 0 rfl rfl rfl ?_
  refine v_if_eq (tgt := 124) (pc' := 110) 60 rfl rfl (by decide) (fun hc => ?_) (fun hc => ?_)
  · replace h := h.1 hc
    refine v_aload_n (pc' := 125) 69 1 rfl rfl rfl rfl ?_
    refine v_getR (t := (p0 + 6)) (pc' := 128) 70 rfl rfl pf_X0_21 (bn0l hp0) (lay_lt (bn0l hp0) (by decide)) (rt_bn_1 hp0) ?_
    refine v_getR (t := (p0 + 14)) (pc' := 131) 71 rfl rfl pf_X0_114 (bn6l hp0) (lay_lt (bn6l hp0) (by decide)) (rt_st_4 (bn_st hp0)) ?_
    refine v_iload_n (pc' := 132) 72 2 rfl rfl rfl rfl ?_
    obtain ⟨hi344, h⟩ := h
    refine v_lald (i := v2) (j := v2.toNatClampNeg) (pc' := 133) 73 rfl rfl (bn14l hp0) (bn14n hp0) (lay_lt (bn14l hp0) (by decide)) hi344 rfl ?_
    refine v_lload_n (pc' := 134) 74 3 rfl rfl rfl rfl ?_
    refine v_ldc2 (v := -1) (pc' := 137) 75 rfl rfl kl_X0_112 ?_
    refine v_lxor (pc' := 138) 76 rfl rfl ?_
    refine v_land (pc' := 139) 77 rfl rfl ?_
    refine V.sub [1, 4] rfl ?_
    exact b_X0_rule_139 p0 p1 v5 v2 ((L343 (p0 + 14) (v2.toNatClampNeg)) &&& (v3 ^^^ (-1))) I L343 hp0 hp1 Q h
  replace h := h.2 hc
  refine v_aload_n (pc' := 111) 61 1 rfl rfl rfl rfl ?_
  refine v_getR (t := (p0 + 6)) (pc' := 114) 62 rfl rfl pf_X0_21 (bn0l hp0) (lay_lt (bn0l hp0) (by decide)) (rt_bn_1 hp0) ?_
  refine v_getR (t := (p0 + 14)) (pc' := 117) 63 rfl rfl pf_X0_114 (bn6l hp0) (lay_lt (bn6l hp0) (by decide)) (rt_st_4 (bn_st hp0)) ?_
  refine v_iload_n (pc' := 118) 64 2 rfl rfl rfl rfl ?_
  obtain ⟨hi345, h⟩ := h
  refine v_lald (i := v2) (j := v2.toNatClampNeg) (pc' := 119) 65 rfl rfl (bn14l hp0) (bn14n hp0) (lay_lt (bn14l hp0) (by decide)) hi345 rfl ?_
  refine v_lload_n (pc' := 120) 66 3 rfl rfl rfl rfl ?_
  refine v_lor (pc' := 121) 67 rfl rfl ?_
  refine v_goto (tgt := 139) 68 rfl (by decide) ?_
  refine V.sub [1, 4] rfl ?_
  exact b_X0_rule_139 p0 p1 v5 v2 ((L343 (p0 + 14) (v2.toNatClampNeg)) ||| v3) I L343 hp0 hp1 Q h
def B_X0_rule_74 (p0 : Nat) (p1 : Nat) (v2 : Int32) (v3 : Int64) (v5 : Int64) (s0 : Int32) (s1 : Int32) (I : TI) (L : TL) (Q : Int32 → TI → TL → Prop) : Prop :=
  (¬ s0 = s1 → B_X0_rule_82 p0 p1 v2 v3 v5 (0 : Int32) I L Q) ∧ (s0 = s1 → B_X0_rule_82 p0 p1 v2 v3 v5 (1 : Int32) I L Q)
set_option maxHeartbeats 4000000 in
set_option maxRecDepth 100000 in
theorem b_X0_rule_74 {G : GT} {b d t : Nat} (p0 : Nat) (p1 : Nat) (v2 : Int32) (v3 : Int64) (v5 : Int64) (s0 : Int32) (s1 : Int32) (I : TI) (L : TL) (hp0 : bnOK p0) (hp1 : LAY p1 = 2) (Q : Int32 → TI → TL → Prop)  (h : B_X0_rule_74 p0 p1 v2 v3 v5 s0 s1 I L Q) : V G Y_X0_rule 74 [(0, .ref p0), (2, .int v2), (3, .long v3), (5, .long v5)] [.int s1, .int s0] (I, L, RT b d t, 457) 0 0 (fun v9 u9 => ∃ (r9 : Int32) (I9 : TI) (L9 : TL), v9 = some (.int r9) ∧ u9 = (I9, L9, RT b d t, 457) ∧ Q r9 I9 L9) (fun _ _ => False) := by
  unfold B_X0_rule_74 at h
  refine v_icmp_ne (tgt := 81) (pc' := 77) 41 rfl rfl (by decide) (fun hc => ?_) (fun hc => ?_)
  · replace h := h.1 hc
    refine v_iconst (v := 0) (pc' := 82) 44 rfl rfl (by decide) ?_
    exact b_X0_rule_82 p0 p1 v2 v3 v5 (0 : Int32) I L hp0 hp1 Q h
  replace h := h.2 hc
  refine v_iconst (v := 1) (pc' := 78) 42 rfl rfl (by decide) ?_
  refine v_goto (tgt := 82) 43 rfl (by decide) ?_
  exact b_X0_rule_82 p0 p1 v2 v3 v5 (1 : Int32) I L hp0 hp1 Q h
def B_X0_rule_61 (p0 : Nat) (p1 : Nat) (v2 : Int32) (v3 : Int64) (v5 : Int64) (s0 : Int32) (I : TI) (L : TL) (Q : Int32 → TI → TL → Prop) : Prop :=
  (¬ (I p1 3) = 1 → B_X0_rule_74 p0 p1 v2 v3 v5 s0 (0 : Int32) I L Q) ∧ ((I p1 3) = 1 → B_X0_rule_74 p0 p1 v2 v3 v5 s0 (1 : Int32) I L Q)
set_option maxHeartbeats 4000000 in
set_option maxRecDepth 100000 in
theorem b_X0_rule_61 {G : GT} {b d t : Nat} (p0 : Nat) (p1 : Nat) (v2 : Int32) (v3 : Int64) (v5 : Int64) (s0 : Int32) (I : TI) (L : TL) (hp0 : bnOK p0) (hp1 : LAY p1 = 2) (Q : Int32 → TI → TL → Prop)  (h : B_X0_rule_61 p0 p1 v2 v3 v5 s0 I L Q) : V G Y_X0_rule 61 [(0, .ref p0), (1, .ref p1), (2, .int v2), (3, .long v3), (5, .long v5)] [.int s0] (I, L, RT b d t, 457) 0 0 (fun v9 u9 => ∃ (r9 : Int32) (I9 : TI) (L9 : TL), v9 = some (.int r9) ∧ u9 = (I9, L9, RT b d t, 457) ∧ Q r9 I9 L9) (fun _ _ => False) := by
  unfold B_X0_rule_61 at h
  refine v_aload_n (pc' := 62) 34 1 rfl rfl rfl rfl ?_
  refine v_getI (pc' := 65) 35 rfl rfl pf_X0_142 hp1 (lay_lt hp1 (by decide)) ?_
  refine v_iconst (v := 1) (pc' := 66) 36 rfl rfl (by decide) ?_
  refine v_icmp_ne (tgt := 73) (pc' := 69) 37 rfl rfl (by decide) (fun hc => ?_) (fun hc => ?_)
  · replace h := h.1 hc
    refine v_iconst (v := 0) (pc' := 74) 40 rfl rfl (by decide) ?_
    refine V.sub [0, 2, 3, 4] rfl ?_
    exact b_X0_rule_74 p0 p1 v2 v3 v5 s0 (0 : Int32) I L hp0 hp1 Q h
  replace h := h.2 hc
  refine v_iconst (v := 1) (pc' := 70) 38 rfl rfl (by decide) ?_
  refine v_goto (tgt := 74) 39 rfl (by decide) ?_
  refine V.sub [0, 2, 3, 4] rfl ?_
  exact b_X0_rule_74 p0 p1 v2 v3 v5 s0 (1 : Int32) I L hp0 hp1 Q h
def W_X0_rule (p0 : Nat) (p1 : Nat) (I : TI) (L : TL) (Q : Int32 → TI → TL → Prop) : Prop :=
  W_X8_window (I p1 1) (I p1 2) I L (fun (r346 : Int64) => vp_in (I p1 0) 16 ∧ (vp_in (I p1 0) 16 ∧ (∀ x349 : Int64, x349 = ((r346 &&& ((L (p0 + 13) ((I p1 0).toNatClampNeg)) ^^^ (-1))) &&& ((L (p0 + 12) ((I p1 0).toNatClampNeg)) ^^^ (-1))) → ((¬ (I p1 7) = 1 → B_X0_rule_61 p0 p1 (I p1 0) r346 x349 (0 : Int32) I L Q) ∧ ((I p1 7) = 1 → B_X0_rule_61 p0 p1 (I p1 0) r346 x349 (1 : Int32) I L Q)))))
set_option maxHeartbeats 4000000 in
set_option maxRecDepth 100000 in
theorem ok_X0_rule {G : GT} {b d t : Nat} (p0 : Nat) (p1 : Nat) (I : TI) (L : TL) (hp0 : bnOK p0) (hp1 : LAY p1 = 2) {Q : Int32 → TI → TL → Prop} (h : W_X0_rule p0 p1 I L Q) : MW G Y_X0_rule [.ref p0, .ref p1] (I, L, RT b d t, 457) (fun v9 u9 => ∃ (r9 : Int32) (I9 : TI) (L9 : TL), v9 = some (.int r9) ∧ u9 = (I9, L9, RT b d t, 457) ∧ Q r9 I9 L9) (fun _ _ => False) := by
  unfold W_X0_rule at h
  refine MW.intro rfl (by decide) is_X0_rule (Nat.le_of_ble_eq_true rfl) ?_
  show V G Y_X0_rule 0 [(0, .ref p0), (1, .ref p1)] [] (I, L, RT b d t, 457) 0 0 _ _
  refine v_aload_n (pc' := 1) 0 1 rfl rfl rfl rfl ?_
  refine v_getI (pc' := 4) 1 rfl rfl pf_X0_147 hp1 (lay_lt hp1 (by decide)) ?_
  refine v_istore_n (ls' := [(2, .int (I p1 0)), (0, .ref p0), (1, .ref p1)]) (pc' := 5) 2 rfl rfl rfl (by decide) rfl ?_
  refine v_aload_n (pc' := 6) 3 2 rfl rfl rfl rfl ?_
  refine v_getI (pc' := 9) 4 rfl rfl pf_X0_150 hp1 (lay_lt hp1 (by decide)) ?_
  refine v_aload_n (pc' := 10) 5 2 rfl rfl rfl rfl ?_
  refine v_getI (pc' := 13) 6 rfl rfl pf_X0_153 hp1 (lay_lt hp1 (by decide)) ?_
  refine v_cNS (Y2 := Y_X8_window) (As := [.int (I p1 1), .int (I p1 2)]) (pc' := 16) (c1 := 0) (s1 := 0) 7 rfl rfl mf_X8_window rfl rfl nt_X0_84 ms_X8_window rfl (Nat.le_of_ble_eq_true rfl) ⟨Nat.le_of_ble_eq_true rfl, Nat.le_of_ble_eq_true rfl⟩ rfl rfl (ok_X8_window (I p1 1) (I p1 2) I L h) ?_ ?_
  · intro e9 u9 hx9
    exact hx9.elim
  intro v9 u9 hv9
  obtain ⟨r346, rfl, rfl, h⟩ := hv9
  refine ⟨fun q => absurd q (Nat.lt_irrefl _), ?_⟩
  show V G Y_X0_rule 16 _ (.long r346 :: _) _ _ _ _ _
  refine v_lstore_n (ls' := [(3, .long r346), (2, .int (I p1 0)), (0, .ref p0), (1, .ref p1)]) (pc' := 17) 8 rfl rfl rfl (by decide) rfl ?_
  refine v_lload_n (pc' := 18) 9 0 rfl rfl rfl rfl ?_
  refine v_aload_n (pc' := 19) 10 2 rfl rfl rfl rfl ?_
  refine v_getR (t := (p0 + 6)) (pc' := 22) 11 rfl rfl pf_X0_21 (bn0l hp0) (lay_lt (bn0l hp0) (by decide)) (rt_bn_1 hp0) ?_
  refine v_getR (t := (p0 + 13)) (pc' := 25) 12 rfl rfl pf_X0_106 (bn6l hp0) (lay_lt (bn6l hp0) (by decide)) (rt_st_3 (bn_st hp0)) ?_
  refine v_iload_n (pc' := 26) 13 1 rfl rfl rfl rfl ?_
  obtain ⟨hi347, h⟩ := h
  refine v_lald (i := (I p1 0)) (j := (I p1 0).toNatClampNeg) (pc' := 27) 14 rfl rfl (bn13l hp0) (bn13n hp0) (lay_lt (bn13l hp0) (by decide)) hi347 rfl ?_
  refine v_ldc2 (v := -1) (pc' := 30) 15 rfl rfl kl_X0_112 ?_
  refine v_lxor (pc' := 31) 16 rfl rfl ?_
  refine v_land (pc' := 32) 17 rfl rfl ?_
  refine v_aload_n (pc' := 33) 18 2 rfl rfl rfl rfl ?_
  refine v_getR (t := (p0 + 6)) (pc' := 36) 19 rfl rfl pf_X0_21 (bn0l hp0) (lay_lt (bn0l hp0) (by decide)) (rt_bn_1 hp0) ?_
  refine v_getR (t := (p0 + 12)) (pc' := 39) 20 rfl rfl pf_X0_109 (bn6l hp0) (lay_lt (bn6l hp0) (by decide)) (rt_st_2 (bn_st hp0)) ?_
  refine v_iload_n (pc' := 40) 21 1 rfl rfl rfl rfl ?_
  obtain ⟨hi348, h⟩ := h
  refine v_lald (i := (I p1 0)) (j := (I p1 0).toNatClampNeg) (pc' := 41) 22 rfl rfl (bn12l hp0) (bn12n hp0) (lay_lt (bn12l hp0) (by decide)) hi348 rfl ?_
  refine v_ldc2 (v := -1) (pc' := 44) 23 rfl rfl kl_X0_112 ?_
  refine v_lxor (pc' := 45) 24 rfl rfl ?_
  refine v_land (pc' := 46) 25 rfl rfl ?_
  refine nm_J (e := ((r346 &&& ((L (p0 + 13) ((I p1 0).toNatClampNeg)) ^^^ (-1))) &&& ((L (p0 + 12) ((I p1 0).toNatClampNeg)) ^^^ (-1)))) (fun x349 hx349 => ?_)
  replace h := h x349 hx349
  refine v_lstore (ls' := [(5, .long x349), (3, .long r346), (2, .int (I p1 0)), (0, .ref p0), (1, .ref p1)]) (pc' := 48) 26 rfl rfl (by decide) rfl ?_
  refine v_aload_n (pc' := 49) 27 4 rfl rfl rfl rfl ?_
  refine v_getI (pc' := 52) 28 rfl rfl pf_X0_159 hp1 (lay_lt hp1 (by decide)) ?_
  refine v_iconst (v := 1) (pc' := 53) 29 rfl rfl (by decide) ?_
  refine v_icmp_ne (tgt := 60) (pc' := 56) 30 rfl rfl (by decide) (fun hc => ?_) (fun hc => ?_)
  · replace h := h.1 hc
    refine v_iconst (v := 0) (pc' := 61) 33 rfl rfl (by decide) ?_
    refine V.sub [3, 4, 2, 1, 0] rfl ?_
    exact b_X0_rule_61 p0 p1 (I p1 0) r346 x349 (0 : Int32) I L hp0 hp1 Q h
  replace h := h.2 hc
  refine v_iconst (v := 1) (pc' := 57) 31 rfl rfl (by decide) ?_
  refine v_goto (tgt := 61) 32 rfl (by decide) ?_
  refine V.sub [3, 4, 2, 1, 0] rfl ?_
  exact b_X0_rule_61 p0 p1 (I p1 0) r346 x349 (1 : Int32) I L hp0 hp1 Q h
def W_X2_hasGate (p0 : Nat) (p1 : Int32) (I : TI) (L : TL) (Q : Int32 → Prop) : Prop :=
  (p1 < (I p0 4) → Q 0) ∧ (¬ p1 < (I p0 4) → W_X2_nets p0 I L (fun (r351 : Int32) => (r351 ≤ p1 → Q 0) ∧ (¬ r351 ≤ p1 → Q 1)))
set_option maxHeartbeats 4000000 in
set_option maxRecDepth 100000 in
theorem ok_X2_hasGate {G : GT} {b d t : Nat} (p0 : Nat) (p1 : Int32) (I : TI) (L : TL) (hp0 : ckOK p0) {Q : Int32 → Prop} (h : W_X2_hasGate p0 p1 I L Q) : MW G Y_X2_hasGate [.ref p0, .int p1] (I, L, RT b d t, 457) (fun v9 u9 => ∃ (r9 : Int32), v9 = some (.int r9) ∧ u9 = (I, L, RT b d t, 457) ∧ Q r9) (fun _ _ => False) := by
  unfold W_X2_hasGate at h
  refine MW.intro rfl (by decide) is_X2_hasGate (Nat.le_of_ble_eq_true rfl) ?_
  show V G Y_X2_hasGate 0 [(0, .ref p0), (1, .int p1)] [] (I, L, RT b d t, 457) 0 0 _ _
  refine v_iload_n (pc' := 1) 0 1 rfl rfl rfl rfl ?_
  refine v_aload_n (pc' := 2) 1 0 rfl rfl rfl rfl ?_
  refine v_getI (pc' := 5) 2 rfl rfl pf_X2_24 (ck0l hp0) (lay_lt (ck0l hp0) (by decide)) ?_
  refine v_icmp_lt (tgt := 20) (pc' := 8) 3 rfl rfl (by decide) (fun hc => ?_) (fun hc => ?_)
  · replace h := h.1 hc
    refine v_iconst (v := 0) (pc' := 21) 10 rfl rfl (by decide) ?_
    exact v_bret 11 rfl rfl (by decide) (by decide) (by decide) ⟨_, rfl, rfl, h⟩
  replace h := h.2 hc
  refine v_iload_n (pc' := 9) 4 1 rfl rfl rfl rfl ?_
  refine v_aload_n (pc' := 10) 5 0 rfl rfl rfl rfl ?_
  refine v_cV (Y2 := Y_X2_nets) (As := []) (b := p0) (pc' := 13) (c1 := 0) (s1 := 0) 6 rfl rfl mf_X2_nets rfl rfl ml_X2_40 mi_X2_nets se_X2_nets (ci := 1) rfl (ck0l hp0) (lay_lt (ck0l hp0) (by decide)) rfl (Nat.le_of_ble_eq_true rfl) ⟨Nat.le_of_ble_eq_true rfl, Nat.le_of_ble_eq_true rfl⟩ rfl rfl (ok_X2_nets p0 I L hp0 h) ?_ ?_
  · intro e9 u9 hx9
    exact hx9.elim
  intro v9 u9 hv9
  obtain ⟨r351, rfl, rfl, h⟩ := hv9
  refine ⟨fun q => absurd q (Nat.lt_irrefl _), ?_⟩
  show V G Y_X2_hasGate 13 _ (.int r351 :: _) _ _ _ _ _
  refine v_icmp_ge (tgt := 20) (pc' := 16) 7 rfl rfl (by decide) (fun hc => ?_) (fun hc => ?_)
  · replace h := h.1 hc
    refine v_iconst (v := 0) (pc' := 21) 10 rfl rfl (by decide) ?_
    exact v_bret 11 rfl rfl (by decide) (by decide) (by decide) ⟨_, rfl, rfl, h⟩
  replace h := h.2 hc
  refine v_iconst (v := 1) (pc' := 17) 8 rfl rfl (by decide) ?_
  refine v_goto (tgt := 21) 9 rfl (by decide) ?_
  exact v_bret 11 rfl rfl (by decide) (by decide) (by decide) ⟨_, rfl, rfl, h⟩
def B_X2_readersOf_41 (p0 : Nat) (v1 : Int32) (v2 : Int32) (v3 : Int32) (I : TI) (L : TL) (Q : Int32 → Prop) (R7 : Int32 → Int32 → Prop) : Prop :=
  R7 v2 (v3 + 1)
set_option maxHeartbeats 4000000 in
set_option maxRecDepth 100000 in
theorem b_X2_readersOf_41 {G : GT} {b d t : Nat} (p0 : Nat) (v1 : Int32) (v2 : Int32) (v3 : Int32) (I : TI) (L : TL) (hp0 : ckOK p0) (Q : Int32 → Prop) (R7 : Int32 → Int32 → Prop) (hR7 : ∀ (v2 : Int32) (v3 : Int32), R7 v2 v3 → V G Y_X2_readersOf 7 [(0, .ref p0), (1, .int v1), (2, .int v2), (3, .int v3)] [] (I, L, RT b d t, 457) 0 0 (fun v9 u9 => ∃ (r9 : Int32), v9 = some (.int r9) ∧ u9 = (I, L, RT b d t, 457) ∧ Q r9) (fun _ _ => False)) (h : B_X2_readersOf_41 p0 v1 v2 v3 I L Q R7) : V G Y_X2_readersOf 41 [(0, .ref p0), (1, .int v1), (2, .int v2), (3, .int v3)] [] (I, L, RT b d t, 457) 0 0 (fun v9 u9 => ∃ (r9 : Int32), v9 = some (.int r9) ∧ u9 = (I, L, RT b d t, 457) ∧ Q r9) (fun _ _ => False) := by
  unfold B_X2_readersOf_41 at h
  refine v_iinc (v := (v3 + 1)) (ls' := [(3, .int (v3 + 1)), (0, .ref p0), (1, .int v1), (2, .int v2)]) (pc' := 44) 27 3 rfl rfl rfl rfl (by decide) rfl ?_
  refine v_goto (tgt := 7) 28 rfl (by decide) ?_
  refine V.sub [1, 2, 3, 0] rfl ?_
  exact hR7 v2 (v3 + 1) h
def B_X2_readersOf_35 (p0 : Nat) (v1 : Int32) (v2 : Int32) (v3 : Int32) (I : TI) (L : TL) (Q : Int32 → Prop) (R7 : Int32 → Int32 → Prop) : Prop :=
  ∀ x358 : Int32, x358 = (v2 ||| ((1 : Int32) <<< (v3 &&& 31))) → (B_X2_readersOf_41 p0 v1 x358 v3 I L Q R7)
set_option maxHeartbeats 4000000 in
set_option maxRecDepth 100000 in
theorem b_X2_readersOf_35 {G : GT} {b d t : Nat} (p0 : Nat) (v1 : Int32) (v2 : Int32) (v3 : Int32) (I : TI) (L : TL) (hp0 : ckOK p0) (Q : Int32 → Prop) (R7 : Int32 → Int32 → Prop) (hR7 : ∀ (v2 : Int32) (v3 : Int32), R7 v2 v3 → V G Y_X2_readersOf 7 [(0, .ref p0), (1, .int v1), (2, .int v2), (3, .int v3)] [] (I, L, RT b d t, 457) 0 0 (fun v9 u9 => ∃ (r9 : Int32), v9 = some (.int r9) ∧ u9 = (I, L, RT b d t, 457) ∧ Q r9) (fun _ _ => False)) (h : B_X2_readersOf_35 p0 v1 v2 v3 I L Q R7) : V G Y_X2_readersOf 35 [(0, .ref p0), (1, .int v1), (2, .int v2), (3, .int v3)] [] (I, L, RT b d t, 457) 0 0 (fun v9 u9 => ∃ (r9 : Int32), v9 = some (.int r9) ∧ u9 = (I, L, RT b d t, 457) ∧ Q r9) (fun _ _ => False) := by
  unfold B_X2_readersOf_35 at h
  refine v_iload_n (pc' := 36) 21 2 rfl rfl rfl rfl ?_
  refine v_iconst (v := 1) (pc' := 37) 22 rfl rfl (by decide) ?_
  refine v_iload_n (pc' := 38) 23 3 rfl rfl rfl rfl ?_
  refine v_ishl (pc' := 39) 24 rfl rfl ?_
  refine v_ior (pc' := 40) 25 rfl rfl ?_
  refine nm_I (e := (v2 ||| ((1 : Int32) <<< (v3 &&& 31)))) (fun x358 hx358 => ?_)
  replace h := h x358 hx358
  refine v_istore_n (ls' := [(2, .int x358), (0, .ref p0), (1, .int v1), (3, .int v3)]) (pc' := 41) 26 rfl rfl rfl (by decide) rfl ?_
  refine V.sub [1, 2, 0, 3] rfl ?_
  exact b_X2_readersOf_41 p0 v1 x358 v3 I L hp0 Q R7 hR7 h
def D_X2_readersOf_7 (p0 : Nat) (v1 : Int32) (I : TI) (L : TL) (Q : Int32 → Prop) (R7 : Int32 → Int32 → Prop) (v2 : Int32) (v3 : Int32) : Prop :=
  W_X2_nets p0 I L (fun (r359 : Int32) => (r359 ≤ v3 → Q v2) ∧ (¬ r359 ≤ v3 → vp_in v3 16 ∧ (((I (p0 + 2) (v3.toNatClampNeg)) = v1 → B_X2_readersOf_35 p0 v1 v2 v3 I L Q R7) ∧ (¬ (I (p0 + 2) (v3.toNatClampNeg)) = v1 → vp_in v3 16 ∧ ((¬ (I (p0 + 3) (v3.toNatClampNeg)) = v1 → B_X2_readersOf_41 p0 v1 v2 v3 I L Q R7) ∧ ((I (p0 + 3) (v3.toNatClampNeg)) = v1 → B_X2_readersOf_35 p0 v1 v2 v3 I L Q R7))))))
def L_X2_readersOf_7 (p0 : Nat) (v1 : Int32) (I : TI) (L : TL) (Q : Int32 → Prop) : Nat → Int32 → Int32 → Prop
  | 0, _, _ => False
  | n9 + 1, v2, v3 => D_X2_readersOf_7 p0 v1 I L Q (fun v2 v3 => L_X2_readersOf_7 p0 v1 I L Q n9 v2 v3) v2 v3
set_option maxHeartbeats 4000000 in
set_option maxRecDepth 100000 in
theorem d_X2_readersOf_7 {G : GT} {b d t : Nat} (p0 : Nat) (v1 : Int32) (I : TI) (L : TL) (hp0 : ckOK p0) (Q : Int32 → Prop) (R7 : Int32 → Int32 → Prop)  (hR7 : ∀ (v2 : Int32) (v3 : Int32), R7 v2 v3 → V G Y_X2_readersOf 7 [(0, .ref p0), (1, .int v1), (2, .int v2), (3, .int v3)] [] (I, L, RT b d t, 457) 0 0 (fun v9 u9 => ∃ (r9 : Int32), v9 = some (.int r9) ∧ u9 = (I, L, RT b d t, 457) ∧ Q r9) (fun _ _ => False)) (v2 : Int32) (v3 : Int32)  (h : D_X2_readersOf_7 p0 v1 I L Q R7 v2 v3) : V G Y_X2_readersOf 7 [(0, .ref p0), (1, .int v1), (2, .int v2), (3, .int v3)] [] (I, L, RT b d t, 457) 0 0 (fun v9 u9 => ∃ (r9 : Int32), v9 = some (.int r9) ∧ u9 = (I, L, RT b d t, 457) ∧ Q r9) (fun _ _ => False) := by
  unfold D_X2_readersOf_7 at h
  refine v_iload_n (pc' := 8) 5 3 rfl rfl rfl rfl ?_
  refine v_aload_n (pc' := 9) 6 0 rfl rfl rfl rfl ?_
  refine v_cV (Y2 := Y_X2_nets) (As := []) (b := p0) (pc' := 12) (c1 := 0) (s1 := 0) 7 rfl rfl mf_X2_nets rfl rfl ml_X2_40 mi_X2_nets se_X2_nets (ci := 1) rfl (ck0l hp0) (lay_lt (ck0l hp0) (by decide)) rfl (Nat.le_of_ble_eq_true rfl) ⟨Nat.le_of_ble_eq_true rfl, Nat.le_of_ble_eq_true rfl⟩ rfl rfl (ok_X2_nets p0 I L hp0 h) ?_ ?_
  · intro e9 u9 hx9
    exact hx9.elim
  intro v9 u9 hv9
  obtain ⟨r359, rfl, rfl, h⟩ := hv9
  refine ⟨fun q => absurd q (Nat.lt_irrefl _), ?_⟩
  show V G Y_X2_readersOf 12 _ (.int r359 :: _) _ _ _ _ _
  refine v_icmp_ge (tgt := 47) (pc' := 15) 8 rfl rfl (by decide) (fun hc => ?_) (fun hc => ?_)
  · replace h := h.1 hc
    refine v_iload_n (pc' := 48) 29 2 rfl rfl rfl rfl ?_
    exact v_iret 30 rfl rfl (by decide) (by decide) ⟨_, rfl, rfl, h⟩
  replace h := h.2 hc
  refine v_aload_n (pc' := 16) 9 0 rfl rfl rfl rfl ?_
  refine v_getR (t := (p0 + 2)) (pc' := 19) 10 rfl rfl pf_X2_15 (ck0l hp0) (lay_lt (ck0l hp0) (by decide)) (rt_ck_1 hp0) ?_
  refine v_iload_n (pc' := 20) 11 3 rfl rfl rfl rfl ?_
  obtain ⟨hi360, h⟩ := h
  refine v_iald (i := v3) (j := v3.toNatClampNeg) (pc' := 21) 12 rfl rfl (ck2l hp0) (ck2n hp0) (lay_lt (ck2l hp0) (by decide)) hi360 rfl ?_
  refine v_iload_n (pc' := 22) 13 1 rfl rfl rfl rfl ?_
  refine v_icmp_eq (tgt := 35) (pc' := 25) 14 rfl rfl (by decide) (fun hc => ?_) (fun hc => ?_)
  · replace h := h.1 hc
    exact b_X2_readersOf_35 p0 v1 v2 v3 I L hp0 Q R7 hR7 h
  replace h := h.2 hc
  refine v_aload_n (pc' := 26) 15 0 rfl rfl rfl rfl ?_
  refine v_getR (t := (p0 + 3)) (pc' := 29) 16 rfl rfl pf_X2_18 (ck0l hp0) (lay_lt (ck0l hp0) (by decide)) (rt_ck_2 hp0) ?_
  refine v_iload_n (pc' := 30) 17 3 rfl rfl rfl rfl ?_
  obtain ⟨hi361, h⟩ := h
  refine v_iald (i := v3) (j := v3.toNatClampNeg) (pc' := 31) 18 rfl rfl (ck3l hp0) (ck3n hp0) (lay_lt (ck3l hp0) (by decide)) hi361 rfl ?_
  refine v_iload_n (pc' := 32) 19 1 rfl rfl rfl rfl ?_
  refine v_icmp_ne (tgt := 41) (pc' := 35) 20 rfl rfl (by decide) (fun hc => ?_) (fun hc => ?_)
  · replace h := h.1 hc
    exact b_X2_readersOf_41 p0 v1 v2 v3 I L hp0 Q R7 hR7 h
  replace h := h.2 hc
  exact b_X2_readersOf_35 p0 v1 v2 v3 I L hp0 Q R7 hR7 h
theorem l_X2_readersOf_7 {G : GT} {b d t : Nat} (p0 : Nat) (v1 : Int32) (I : TI) (L : TL) (hp0 : ckOK p0) (Q : Int32 → Prop)  : ∀ (n9 : Nat) (v2 : Int32) (v3 : Int32), L_X2_readersOf_7 p0 v1 I L Q n9 v2 v3 → V G Y_X2_readersOf 7 [(0, .ref p0), (1, .int v1), (2, .int v2), (3, .int v3)] [] (I, L, RT b d t, 457) 0 0 (fun v9 u9 => ∃ (r9 : Int32), v9 = some (.int r9) ∧ u9 = (I, L, RT b d t, 457) ∧ Q r9) (fun _ _ => False)
  | 0, _, _, h => h.elim
  | n9 + 1, v2, v3, h => d_X2_readersOf_7 p0 v1 I L hp0 Q _ (l_X2_readersOf_7 p0 v1 I L hp0 Q n9) v2 v3 h
def W_X2_readersOf (p0 : Nat) (p1 : Int32) (I : TI) (L : TL) (Q : Int32 → Prop) : Prop :=
  ∃ n362, L_X2_readersOf_7 p0 p1 I L Q n362 (0 : Int32) (I p0 4)
set_option maxHeartbeats 4000000 in
set_option maxRecDepth 100000 in
theorem ok_X2_readersOf {G : GT} {b d t : Nat} (p0 : Nat) (p1 : Int32) (I : TI) (L : TL) (hp0 : ckOK p0) {Q : Int32 → Prop} (h : W_X2_readersOf p0 p1 I L Q) : MW G Y_X2_readersOf [.ref p0, .int p1] (I, L, RT b d t, 457) (fun v9 u9 => ∃ (r9 : Int32), v9 = some (.int r9) ∧ u9 = (I, L, RT b d t, 457) ∧ Q r9) (fun _ _ => False) := by
  unfold W_X2_readersOf at h
  refine MW.intro rfl (by decide) is_X2_readersOf (Nat.le_of_ble_eq_true rfl) ?_
  show V G Y_X2_readersOf 0 [(0, .ref p0), (1, .int p1)] [] (I, L, RT b d t, 457) 0 0 _ _
  refine v_iconst (v := 0) (pc' := 1) 0 rfl rfl (by decide) ?_
  refine v_istore_n (ls' := [(2, .int 0), (0, .ref p0), (1, .int p1)]) (pc' := 2) 1 rfl rfl rfl (by decide) rfl ?_
  refine v_aload_n (pc' := 3) 2 1 rfl rfl rfl rfl ?_
  refine v_getI (pc' := 6) 3 rfl rfl pf_X2_24 (ck0l hp0) (lay_lt (ck0l hp0) (by decide)) ?_
  refine v_istore_n (ls' := [(3, .int (I p0 4)), (2, .int 0), (0, .ref p0), (1, .int p1)]) (pc' := 7) 4 rfl rfl rfl (by decide) rfl ?_
  refine V.sub [2, 3, 1, 0] rfl ?_
  obtain ⟨n362, h⟩ := h
  exact l_X2_readersOf_7 p0 p1 I L hp0 Q n362 (0 : Int32) (I p0 4) h
def B_X2_touchedBy_56 (p0 : Nat) (v2 : Int32) (v3 : Int32) (v4 : Int32) (I : TI) (L : TL) (Q : Int32 → Prop) (R28 : Int32 → Int32 → Prop) : Prop :=
  R28 v3 (v4 + 1)
set_option maxHeartbeats 4000000 in
set_option maxRecDepth 100000 in
theorem b_X2_touchedBy_56 {G : GT} {b d t : Nat} (p0 : Nat) (v2 : Int32) (v3 : Int32) (v4 : Int32) (I : TI) (L : TL) (hp0 : ckOK p0) (Q : Int32 → Prop) (R28 : Int32 → Int32 → Prop) (hR28 : ∀ (v3 : Int32) (v4 : Int32), R28 v3 v4 → V G Y_X2_touchedBy 28 [(0, .ref p0), (2, .int v2), (3, .int v3), (4, .int v4)] [] (I, L, RT b d t, 457) 0 0 (fun v9 u9 => ∃ (r9 : Int32), v9 = some (.int r9) ∧ u9 = (I, L, RT b d t, 457) ∧ Q r9) (fun _ _ => False)) (h : B_X2_touchedBy_56 p0 v2 v3 v4 I L Q R28) : V G Y_X2_touchedBy 56 [(0, .ref p0), (2, .int v2), (3, .int v3), (4, .int v4)] [] (I, L, RT b d t, 457) 0 0 (fun v9 u9 => ∃ (r9 : Int32), v9 = some (.int r9) ∧ u9 = (I, L, RT b d t, 457) ∧ Q r9) (fun _ _ => False) := by
  unfold B_X2_touchedBy_56 at h
  refine v_iinc (v := (v4 + 1)) (ls' := [(4, .int (v4 + 1)), (0, .ref p0), (2, .int v2), (3, .int v3)]) (pc' := 59) 34 3 rfl rfl rfl rfl (by decide) rfl ?_
  refine v_goto (tgt := 28) 35 rfl (by decide) ?_
  refine V.sub [1, 2, 3, 0] rfl ?_
  exact hR28 v3 (v4 + 1) h
def D_X2_touchedBy_28 (p0 : Nat) (v2 : Int32) (I : TI) (L : TL) (Q : Int32 → Prop) (R28 : Int32 → Int32 → Prop) (v3 : Int32) (v4 : Int32) : Prop :=
  W_X2_nets p0 I L (fun (r373 : Int32) => (r373 ≤ v4 → Q v3) ∧ (¬ r373 ≤ v4 → vp_in v4 16 ∧ ((((I (p0 + 4) (v4.toNatClampNeg)) &&& v2) = 0 → B_X2_touchedBy_56 p0 v2 v3 v4 I L Q R28) ∧ (¬ ((I (p0 + 4) (v4.toNatClampNeg)) &&& v2) = 0 → ∀ x375 : Int32, x375 = (v3 ||| ((1 : Int32) <<< (v4 &&& 31))) → (B_X2_touchedBy_56 p0 v2 x375 v4 I L Q R28)))))
def L_X2_touchedBy_28 (p0 : Nat) (v2 : Int32) (I : TI) (L : TL) (Q : Int32 → Prop) : Nat → Int32 → Int32 → Prop
  | 0, _, _ => False
  | n9 + 1, v3, v4 => D_X2_touchedBy_28 p0 v2 I L Q (fun v3 v4 => L_X2_touchedBy_28 p0 v2 I L Q n9 v3 v4) v3 v4
set_option maxHeartbeats 4000000 in
set_option maxRecDepth 100000 in
theorem d_X2_touchedBy_28 {G : GT} {b d t : Nat} (p0 : Nat) (v2 : Int32) (I : TI) (L : TL) (hp0 : ckOK p0) (Q : Int32 → Prop) (R28 : Int32 → Int32 → Prop)  (hR28 : ∀ (v3 : Int32) (v4 : Int32), R28 v3 v4 → V G Y_X2_touchedBy 28 [(0, .ref p0), (2, .int v2), (3, .int v3), (4, .int v4)] [] (I, L, RT b d t, 457) 0 0 (fun v9 u9 => ∃ (r9 : Int32), v9 = some (.int r9) ∧ u9 = (I, L, RT b d t, 457) ∧ Q r9) (fun _ _ => False)) (v3 : Int32) (v4 : Int32)  (h : D_X2_touchedBy_28 p0 v2 I L Q R28 v3 v4) : V G Y_X2_touchedBy 28 [(0, .ref p0), (2, .int v2), (3, .int v3), (4, .int v4)] [] (I, L, RT b d t, 457) 0 0 (fun v9 u9 => ∃ (r9 : Int32), v9 = some (.int r9) ∧ u9 = (I, L, RT b d t, 457) ∧ Q r9) (fun _ _ => False) := by
  unfold D_X2_touchedBy_28 at h
  refine v_iload (pc' := 30) 17 3 rfl rfl rfl ?_
  refine v_aload_n (pc' := 31) 18 0 rfl rfl rfl rfl ?_
  refine v_cV (Y2 := Y_X2_nets) (As := []) (b := p0) (pc' := 34) (c1 := 0) (s1 := 0) 19 rfl rfl mf_X2_nets rfl rfl ml_X2_40 mi_X2_nets se_X2_nets (ci := 1) rfl (ck0l hp0) (lay_lt (ck0l hp0) (by decide)) rfl (Nat.le_of_ble_eq_true rfl) ⟨Nat.le_of_ble_eq_true rfl, Nat.le_of_ble_eq_true rfl⟩ rfl rfl (ok_X2_nets p0 I L hp0 h) ?_ ?_
  · intro e9 u9 hx9
    exact hx9.elim
  intro v9 u9 hv9
  obtain ⟨r373, rfl, rfl, h⟩ := hv9
  refine ⟨fun q => absurd q (Nat.lt_irrefl _), ?_⟩
  show V G Y_X2_touchedBy 34 _ (.int r373 :: _) _ _ _ _ _
  refine v_icmp_ge (tgt := 62) (pc' := 37) 20 rfl rfl (by decide) (fun hc => ?_) (fun hc => ?_)
  · replace h := h.1 hc
    refine v_iload_n (pc' := 63) 36 2 rfl rfl rfl rfl ?_
    exact v_iret 37 rfl rfl (by decide) (by decide) ⟨_, rfl, rfl, h⟩
  replace h := h.2 hc
  refine v_aload_n (pc' := 38) 21 0 rfl rfl rfl rfl ?_
  refine v_getR (t := (p0 + 4)) (pc' := 41) 22 rfl rfl pf_X2_21 (ck0l hp0) (lay_lt (ck0l hp0) (by decide)) (rt_ck_3 hp0) ?_
  refine v_iload (pc' := 43) 23 3 rfl rfl rfl ?_
  obtain ⟨hi374, h⟩ := h
  refine v_iald (i := v4) (j := v4.toNatClampNeg) (pc' := 44) 24 rfl rfl (ck4l hp0) (ck4n hp0) (lay_lt (ck4l hp0) (by decide)) hi374 rfl ?_
  refine v_iload_n (pc' := 45) 25 1 rfl rfl rfl rfl ?_
  refine v_iand (pc' := 46) 26 rfl rfl ?_
  refine v_if_eq (tgt := 56) (pc' := 49) 27 rfl rfl (by decide) (fun hc => ?_) (fun hc => ?_)
  · replace h := h.1 hc
    exact b_X2_touchedBy_56 p0 v2 v3 v4 I L hp0 Q R28 hR28 h
  replace h := h.2 hc
  refine v_iload_n (pc' := 50) 28 2 rfl rfl rfl rfl ?_
  refine v_iconst (v := 1) (pc' := 51) 29 rfl rfl (by decide) ?_
  refine v_iload (pc' := 53) 30 3 rfl rfl rfl ?_
  refine v_ishl (pc' := 54) 31 rfl rfl ?_
  refine v_ior (pc' := 55) 32 rfl rfl ?_
  refine nm_I (e := (v3 ||| ((1 : Int32) <<< (v4 &&& 31)))) (fun x375 hx375 => ?_)
  replace h := h x375 hx375
  refine v_istore_n (ls' := [(3, .int x375), (0, .ref p0), (2, .int v2), (4, .int v4)]) (pc' := 56) 33 rfl rfl rfl (by decide) rfl ?_
  refine V.sub [1, 2, 0, 3] rfl ?_
  exact b_X2_touchedBy_56 p0 v2 x375 v4 I L hp0 Q R28 hR28 h
theorem l_X2_touchedBy_28 {G : GT} {b d t : Nat} (p0 : Nat) (v2 : Int32) (I : TI) (L : TL) (hp0 : ckOK p0) (Q : Int32 → Prop)  : ∀ (n9 : Nat) (v3 : Int32) (v4 : Int32), L_X2_touchedBy_28 p0 v2 I L Q n9 v3 v4 → V G Y_X2_touchedBy 28 [(0, .ref p0), (2, .int v2), (3, .int v3), (4, .int v4)] [] (I, L, RT b d t, 457) 0 0 (fun v9 u9 => ∃ (r9 : Int32), v9 = some (.int r9) ∧ u9 = (I, L, RT b d t, 457) ∧ Q r9) (fun _ _ => False)
  | 0, _, _, h => h.elim
  | n9 + 1, v3, v4, h => d_X2_touchedBy_28 p0 v2 I L hp0 Q _ (l_X2_touchedBy_28 p0 v2 I L hp0 Q n9) v3 v4 h
def B_X2_touchedBy_19 (p0 : Nat) (s0 : Int32) (I : TI) (L : TL) (Q : Int32 → Prop) : Prop :=
  ∃ n376, L_X2_touchedBy_28 p0 s0 I L Q n376 (0 : Int32) (I p0 4)
set_option maxHeartbeats 4000000 in
set_option maxRecDepth 100000 in
theorem b_X2_touchedBy_19 {G : GT} {b d t : Nat} (p0 : Nat) (s0 : Int32) (I : TI) (L : TL) (hp0 : ckOK p0) (Q : Int32 → Prop)  (h : B_X2_touchedBy_19 p0 s0 I L Q) : V G Y_X2_touchedBy 19 [(0, .ref p0)] [.int s0] (I, L, RT b d t, 457) 0 0 (fun v9 u9 => ∃ (r9 : Int32), v9 = some (.int r9) ∧ u9 = (I, L, RT b d t, 457) ∧ Q r9) (fun _ _ => False) := by
  unfold B_X2_touchedBy_19 at h
  refine v_istore_n (ls' := [(2, .int s0), (0, .ref p0)]) (pc' := 20) 11 rfl rfl rfl (by decide) rfl ?_
  refine v_iconst (v := 0) (pc' := 21) 12 rfl rfl (by decide) ?_
  refine v_istore_n (ls' := [(3, .int 0), (2, .int s0), (0, .ref p0)]) (pc' := 22) 13 rfl rfl rfl (by decide) rfl ?_
  refine v_aload_n (pc' := 23) 14 2 rfl rfl rfl rfl ?_
  refine v_getI (pc' := 26) 15 rfl rfl pf_X2_24 (ck0l hp0) (lay_lt (ck0l hp0) (by decide)) ?_
  refine v_istore (ls' := [(4, .int (I p0 4)), (3, .int 0), (2, .int s0), (0, .ref p0)]) (pc' := 28) 16 rfl rfl (by decide) rfl ?_
  refine V.sub [3, 2, 1, 0] rfl ?_
  obtain ⟨n376, h⟩ := h
  exact l_X2_touchedBy_28 p0 s0 I L hp0 Q n376 (0 : Int32) (I p0 4) h
def W_X2_touchedBy (p0 : Nat) (p1 : Int32) (I : TI) (L : TL) (Q : Int32 → Prop) : Prop :=
  W_X2_hasGate p0 p1 I L (fun (r377 : Int32) => (r377 = 0 → W_X2_readersOf p0 p1 I L (fun (r378 : Int32) => B_X2_touchedBy_19 p0 r378 I L Q)) ∧ (¬ r377 = 0 → B_X2_touchedBy_19 p0 ((1 : Int32) <<< (p1 &&& 31)) I L Q))
set_option maxHeartbeats 4000000 in
set_option maxRecDepth 100000 in
theorem ok_X2_touchedBy {G : GT} {b d t : Nat} (p0 : Nat) (p1 : Int32) (I : TI) (L : TL) (hp0 : ckOK p0) {Q : Int32 → Prop} (h : W_X2_touchedBy p0 p1 I L Q) : MW G Y_X2_touchedBy [.ref p0, .int p1] (I, L, RT b d t, 457) (fun v9 u9 => ∃ (r9 : Int32), v9 = some (.int r9) ∧ u9 = (I, L, RT b d t, 457) ∧ Q r9) (fun _ _ => False) := by
  unfold W_X2_touchedBy at h
  refine MW.intro rfl (by decide) is_X2_touchedBy (Nat.le_of_ble_eq_true rfl) ?_
  show V G Y_X2_touchedBy 0 [(0, .ref p0), (1, .int p1)] [] (I, L, RT b d t, 457) 0 0 _ _
  refine v_aload_n (pc' := 1) 0 0 rfl rfl rfl rfl ?_
  refine v_iload_n (pc' := 2) 1 1 rfl rfl rfl rfl ?_
  refine v_cV (Y2 := Y_X2_hasGate) (As := [.int p1]) (b := p0) (pc' := 5) (c1 := 0) (s1 := 0) 2 rfl rfl mf_X2_hasGate rfl rfl ml_X2_56 mi_X2_hasGate se_X2_hasGate (ci := 1) rfl (ck0l hp0) (lay_lt (ck0l hp0) (by decide)) rfl (Nat.le_of_ble_eq_true rfl) ⟨Nat.le_of_ble_eq_true rfl, Nat.le_of_ble_eq_true rfl⟩ rfl rfl (ok_X2_hasGate p0 p1 I L hp0 h) ?_ ?_
  · intro e9 u9 hx9
    exact hx9.elim
  intro v9 u9 hv9
  obtain ⟨r377, rfl, rfl, h⟩ := hv9
  refine ⟨fun q => absurd q (Nat.lt_irrefl _), ?_⟩
  show V G Y_X2_touchedBy 5 _ (.int r377 :: _) _ _ _ _ _
  refine v_if_eq (tgt := 14) (pc' := 8) 3 rfl rfl (by decide) (fun hc => ?_) (fun hc => ?_)
  · replace h := h.1 hc
    refine v_aload_n (pc' := 15) 8 0 rfl rfl rfl rfl ?_
    refine v_iload_n (pc' := 16) 9 1 rfl rfl rfl rfl ?_
    refine v_cV (Y2 := Y_X2_readersOf) (As := [.int p1]) (b := p0) (pc' := 19) (c1 := 0) (s1 := 0) 10 rfl rfl mf_X2_readersOf rfl rfl ml_X2_60 mi_X2_readersOf se_X2_readersOf (ci := 1) rfl (ck0l hp0) (lay_lt (ck0l hp0) (by decide)) rfl (Nat.le_of_ble_eq_true rfl) ⟨Nat.le_of_ble_eq_true rfl, Nat.le_of_ble_eq_true rfl⟩ rfl rfl (ok_X2_readersOf p0 p1 I L hp0 h) ?_ ?_
    · intro e9 u9 hx9
      exact hx9.elim
    intro v9 u9 hv9
    obtain ⟨r378, rfl, rfl, h⟩ := hv9
    refine ⟨fun q => absurd q (Nat.lt_irrefl _), ?_⟩
    show V G Y_X2_touchedBy 19 _ (.int r378 :: _) _ _ _ _ _
    refine V.sub [0] rfl ?_
    exact b_X2_touchedBy_19 p0 r378 I L hp0 Q h
  replace h := h.2 hc
  refine v_iconst (v := 1) (pc' := 9) 4 rfl rfl (by decide) ?_
  refine v_iload_n (pc' := 10) 5 1 rfl rfl rfl rfl ?_
  refine v_ishl (pc' := 11) 6 rfl rfl ?_
  refine v_goto (tgt := 19) 7 rfl (by decide) ?_
  refine V.sub [0] rfl ?_
  exact b_X2_touchedBy_19 p0 ((1 : Int32) <<< (p1 &&& 31)) I L hp0 Q h
def W_X3_isPending (p0 : Nat) (I : TI) (L : TL) (Q : Int32 → Prop) : Prop :=
  ((I p0 6) = 0 → Q 1) ∧ (¬ (I p0 6) = 0 → (¬ (I p0 6) = 1 → Q 0) ∧ ((I p0 6) = 1 → Q 1))
set_option maxHeartbeats 4000000 in
set_option maxRecDepth 100000 in
theorem ok_X3_isPending {G : GT} {b d t : Nat} (p0 : Nat) (I : TI) (L : TL) (hp0 : LAY p0 = 2) {Q : Int32 → Prop} (h : W_X3_isPending p0 I L Q) : MW G Y_X3_isPending [.ref p0] (I, L, RT b d t, 457) (fun v9 u9 => ∃ (r9 : Int32), v9 = some (.int r9) ∧ u9 = (I, L, RT b d t, 457) ∧ Q r9) (fun _ _ => False) := by
  unfold W_X3_isPending at h
  refine MW.intro rfl (by decide) is_X3_isPending (Nat.le_of_ble_eq_true rfl) ?_
  show V G Y_X3_isPending 0 [(0, .ref p0)] [] (I, L, RT b d t, 457) 0 0 _ _
  refine v_aload_n (pc' := 1) 0 0 rfl rfl rfl rfl ?_
  refine v_getI (pc' := 4) 1 rfl rfl pf_X3_34 hp0 (lay_lt hp0 (by decide)) ?_
  refine v_if_eq (tgt := 15) (pc' := 7) 2 rfl rfl (by decide) (fun hc => ?_) (fun hc => ?_)
  · replace h := h.1 hc
    refine v_iconst (v := 1) (pc' := 16) 7 rfl rfl (by decide) ?_
    refine v_goto (tgt := 20) 8 rfl (by decide) ?_
    exact v_bret 10 rfl rfl (by decide) (by decide) (by decide) ⟨_, rfl, rfl, h⟩
  replace h := h.2 hc
  refine v_aload_n (pc' := 8) 3 0 rfl rfl rfl rfl ?_
  refine v_getI (pc' := 11) 4 rfl rfl pf_X3_34 hp0 (lay_lt hp0 (by decide)) ?_
  refine v_iconst (v := 1) (pc' := 12) 5 rfl rfl (by decide) ?_
  refine v_icmp_ne (tgt := 19) (pc' := 15) 6 rfl rfl (by decide) (fun hc => ?_) (fun hc => ?_)
  · replace h := h.1 hc
    refine v_iconst (v := 0) (pc' := 20) 9 rfl rfl (by decide) ?_
    exact v_bret 10 rfl rfl (by decide) (by decide) (by decide) ⟨_, rfl, rfl, h⟩
  replace h := h.2 hc
  refine v_iconst (v := 1) (pc' := 16) 7 rfl rfl (by decide) ?_
  refine v_goto (tgt := 20) 8 rfl (by decide) ?_
  exact v_bret 10 rfl rfl (by decide) (by decide) (by decide) ⟨_, rfl, rfl, h⟩
def B_X6_dropPending_50 (p0 : Nat) (v1 : Int32) (v2 : Int32) (v3 : Int32) (I : TI) (L : TL) (Q : Int32 → TI → Prop) (R4 : Int32 → Int32 → TI → Prop) : Prop :=
  R4 v2 (v3 + 1) I
set_option maxHeartbeats 4000000 in
set_option maxRecDepth 100000 in
theorem b_X6_dropPending_50 {G : GT} {b d t : Nat} (p0 : Nat) (v1 : Int32) (v2 : Int32) (v3 : Int32) (I : TI) (L : TL) (hp0 : stOK p0) (Q : Int32 → TI → Prop) (R4 : Int32 → Int32 → TI → Prop) (hR4 : ∀ (v2 : Int32) (v3 : Int32) (I : TI), R4 v2 v3 I → V G Y_X6_dropPending 4 [(0, .ref p0), (1, .int v1), (2, .int v2), (3, .int v3)] [] (I, L, RT b d t, 457) 0 0 (fun v9 u9 => ∃ (r9 : Int32) (I9 : TI), v9 = some (.int r9) ∧ u9 = (I9, L, RT b d t, 457) ∧ Q r9 I9) (fun _ _ => False)) (h : B_X6_dropPending_50 p0 v1 v2 v3 I L Q R4) : V G Y_X6_dropPending 50 [(0, .ref p0), (1, .int v1), (2, .int v2), (3, .int v3)] [] (I, L, RT b d t, 457) 0 0 (fun v9 u9 => ∃ (r9 : Int32) (I9 : TI), v9 = some (.int r9) ∧ u9 = (I9, L, RT b d t, 457) ∧ Q r9 I9) (fun _ _ => False) := by
  unfold B_X6_dropPending_50 at h
  refine v_iinc (v := (v3 + 1)) (ls' := [(3, .int (v3 + 1)), (0, .ref p0), (1, .int v1), (2, .int v2)]) (pc' := 53) 28 3 rfl rfl rfl rfl (by decide) rfl ?_
  refine v_goto (tgt := 4) 29 rfl (by decide) ?_
  refine V.sub [1, 2, 3, 0] rfl ?_
  exact hR4 v2 (v3 + 1) I h
def D_X6_dropPending_4 (p0 : Nat) (v1 : Int32) (L : TL) (Q : Int32 → TI → Prop) (R4 : Int32 → Int32 → TI → Prop) (v2 : Int32) (v3 : Int32) (I : TI) : Prop :=
  ((I p0 7) ≤ v3 → Q v2 I) ∧ (¬ (I p0 7) ≤ v3 → vp_in v3 20 ∧ ((¬ (I ((p0 + 11) + v3.toNatClampNeg) 0) = v1 → B_X6_dropPending_50 p0 v1 v2 v3 I L Q R4) ∧ ((I ((p0 + 11) + v3.toNatClampNeg) 0) = v1 → vp_in v3 20 ∧ (W_X3_isPending ((p0 + 11) + v3.toNatClampNeg) I L (fun (r389 : Int32) => (r389 = 0 → B_X6_dropPending_50 p0 v1 v2 v3 I L Q R4) ∧ (¬ r389 = 0 → vp_in v3 20 ∧ (B_X6_dropPending_50 p0 v1 (v2 + 1) v3 (up2 I ((p0 + 11) + v3.toNatClampNeg) 6 4) L Q R4)))))))
def L_X6_dropPending_4 (p0 : Nat) (v1 : Int32) (L : TL) (Q : Int32 → TI → Prop) : Nat → Int32 → Int32 → TI → Prop
  | 0, _, _, _ => False
  | n9 + 1, v2, v3, I => D_X6_dropPending_4 p0 v1 L Q (fun v2 v3 I => L_X6_dropPending_4 p0 v1 L Q n9 v2 v3 I) v2 v3 I
set_option maxHeartbeats 4000000 in
set_option maxRecDepth 100000 in
theorem d_X6_dropPending_4 {G : GT} {b d t : Nat} (p0 : Nat) (v1 : Int32) (L : TL) (hp0 : stOK p0) (Q : Int32 → TI → Prop) (R4 : Int32 → Int32 → TI → Prop)  (hR4 : ∀ (v2 : Int32) (v3 : Int32) (I : TI), R4 v2 v3 I → V G Y_X6_dropPending 4 [(0, .ref p0), (1, .int v1), (2, .int v2), (3, .int v3)] [] (I, L, RT b d t, 457) 0 0 (fun v9 u9 => ∃ (r9 : Int32) (I9 : TI), v9 = some (.int r9) ∧ u9 = (I9, L, RT b d t, 457) ∧ Q r9 I9) (fun _ _ => False)) (v2 : Int32) (v3 : Int32) (I : TI)  (h : D_X6_dropPending_4 p0 v1 L Q R4 v2 v3 I) : V G Y_X6_dropPending 4 [(0, .ref p0), (1, .int v1), (2, .int v2), (3, .int v3)] [] (I, L, RT b d t, 457) 0 0 (fun v9 u9 => ∃ (r9 : Int32) (I9 : TI), v9 = some (.int r9) ∧ u9 = (I9, L, RT b d t, 457) ∧ Q r9 I9) (fun _ _ => False) := by
  unfold D_X6_dropPending_4 at h
  refine v_iload_n (pc' := 5) 4 3 rfl rfl rfl rfl ?_
  refine v_aload_n (pc' := 6) 5 0 rfl rfl rfl rfl ?_
  refine v_getI (pc' := 9) 6 rfl rfl pf_X6_39 (st0l hp0) (lay_lt (st0l hp0) (by decide)) ?_
  refine v_icmp_ge (tgt := 56) (pc' := 12) 7 rfl rfl (by decide) (fun hc => ?_) (fun hc => ?_)
  · replace h := h.1 hc
    refine v_iload_n (pc' := 57) 30 2 rfl rfl rfl rfl ?_
    exact v_iret 31 rfl rfl (by decide) (by decide) ⟨_, _, rfl, rfl, h⟩
  replace h := h.2 hc
  refine v_aload_n (pc' := 13) 8 0 rfl rfl rfl rfl ?_
  refine v_getR (t := (p0 + 10)) (pc' := 16) 9 rfl rfl pf_X6_35 (st0l hp0) (lay_lt (st0l hp0) (by decide)) (rt_st_6 hp0) ?_
  refine v_iload_n (pc' := 17) 10 3 rfl rfl rfl rfl ?_
  obtain ⟨hi387, h⟩ := h
  refine v_aald5 (i := v3) (r := ((p0 + 11) + v3.toNatClampNeg)) (j := v3.toNatClampNeg) (pc' := 18) 11 rfl rfl (st10l hp0) (st10n hp0) (lay_lt (st10l hp0) (by decide)) hi387 rfl (rt_dis hp0 (vp_nat hi387)) ?_
  refine v_getI (pc' := 21) 12 rfl rfl pf_X6_83 (st_disl hp0 (vp_nat hi387)) (lay_lt (st_disl hp0 (vp_nat hi387)) (by decide)) ?_
  refine v_iload_n (pc' := 22) 13 1 rfl rfl rfl rfl ?_
  refine v_icmp_ne (tgt := 50) (pc' := 25) 14 rfl rfl (by decide) (fun hc => ?_) (fun hc => ?_)
  · replace h := h.1 hc
    exact b_X6_dropPending_50 p0 v1 v2 v3 I L hp0 Q R4 hR4 h
  replace h := h.2 hc
  refine v_aload_n (pc' := 26) 15 0 rfl rfl rfl rfl ?_
  refine v_getR (t := (p0 + 10)) (pc' := 29) 16 rfl rfl pf_X6_35 (st0l hp0) (lay_lt (st0l hp0) (by decide)) (rt_st_6 hp0) ?_
  refine v_iload_n (pc' := 30) 17 3 rfl rfl rfl rfl ?_
  obtain ⟨hi388, h⟩ := h
  refine v_aald5 (i := v3) (r := ((p0 + 11) + v3.toNatClampNeg)) (j := v3.toNatClampNeg) (pc' := 31) 18 rfl rfl (st10l hp0) (st10n hp0) (lay_lt (st10l hp0) (by decide)) hi388 rfl (rt_dis hp0 (vp_nat hi388)) ?_
  refine v_cV (Y2 := Y_X3_isPending) (As := []) (b := ((p0 + 11) + v3.toNatClampNeg)) (pc' := 34) (c1 := 0) (s1 := 0) 19 rfl rfl mf_X3_isPending rfl rfl ml_X6_79 mi_X3_isPending se_X3_isPending (ci := 2) rfl (st_disl hp0 (vp_nat hi388)) (lay_lt (st_disl hp0 (vp_nat hi388)) (by decide)) rfl (Nat.le_of_ble_eq_true rfl) ⟨Nat.le_of_ble_eq_true rfl, Nat.le_of_ble_eq_true rfl⟩ rfl rfl (ok_X3_isPending ((p0 + 11) + v3.toNatClampNeg) I L (st_disl hp0 (vp_nat hi388)) h) ?_ ?_
  · intro e9 u9 hx9
    exact hx9.elim
  intro v9 u9 hv9
  obtain ⟨r389, rfl, rfl, h⟩ := hv9
  refine ⟨fun q => absurd q (Nat.lt_irrefl _), ?_⟩
  show V G Y_X6_dropPending 34 _ (.int r389 :: _) _ _ _ _ _
  refine v_if_eq (tgt := 50) (pc' := 37) 20 rfl rfl (by decide) (fun hc => ?_) (fun hc => ?_)
  · replace h := h.1 hc
    exact b_X6_dropPending_50 p0 v1 v2 v3 I L hp0 Q R4 hR4 h
  replace h := h.2 hc
  refine v_aload_n (pc' := 38) 21 0 rfl rfl rfl rfl ?_
  refine v_getR (t := (p0 + 10)) (pc' := 41) 22 rfl rfl pf_X6_35 (st0l hp0) (lay_lt (st0l hp0) (by decide)) (rt_st_6 hp0) ?_
  refine v_iload_n (pc' := 42) 23 3 rfl rfl rfl rfl ?_
  obtain ⟨hi390, h⟩ := h
  refine v_aald5 (i := v3) (r := ((p0 + 11) + v3.toNatClampNeg)) (j := v3.toNatClampNeg) (pc' := 43) 24 rfl rfl (st10l hp0) (st10n hp0) (lay_lt (st10l hp0) (by decide)) hi390 rfl (rt_dis hp0 (vp_nat hi390)) ?_
  refine v_iconst (v := 4) (pc' := 44) 25 rfl rfl (by decide) ?_
  refine v_putI (pc' := 47) 26 rfl rfl pf_X6_92 (fun q => absurd q (by decide)) (st_disl hp0 (vp_nat hi390)) (lay_lt (st_disl hp0 (vp_nat hi390)) (by decide)) ?_
  refine v_iinc (v := (v2 + 1)) (ls' := [(2, .int (v2 + 1)), (0, .ref p0), (1, .int v1), (3, .int v3)]) (pc' := 50) 27 2 rfl rfl rfl rfl (by decide) rfl ?_
  refine V.sub [1, 2, 0, 3] rfl ?_
  exact b_X6_dropPending_50 p0 v1 (v2 + 1) v3 (up2 I ((p0 + 11) + v3.toNatClampNeg) 6 4) L hp0 Q R4 hR4 h
theorem l_X6_dropPending_4 {G : GT} {b d t : Nat} (p0 : Nat) (v1 : Int32) (L : TL) (hp0 : stOK p0) (Q : Int32 → TI → Prop)  : ∀ (n9 : Nat) (v2 : Int32) (v3 : Int32) (I : TI), L_X6_dropPending_4 p0 v1 L Q n9 v2 v3 I → V G Y_X6_dropPending 4 [(0, .ref p0), (1, .int v1), (2, .int v2), (3, .int v3)] [] (I, L, RT b d t, 457) 0 0 (fun v9 u9 => ∃ (r9 : Int32) (I9 : TI), v9 = some (.int r9) ∧ u9 = (I9, L, RT b d t, 457) ∧ Q r9 I9) (fun _ _ => False)
  | 0, _, _, _, h => h.elim
  | n9 + 1, v2, v3, I, h => d_X6_dropPending_4 p0 v1 L hp0 Q _ (l_X6_dropPending_4 p0 v1 L hp0 Q n9) v2 v3 I h
def W_X6_dropPending (p0 : Nat) (p1 : Int32) (I : TI) (L : TL) (Q : Int32 → TI → Prop) : Prop :=
  ∃ n391, L_X6_dropPending_4 p0 p1 L Q n391 (0 : Int32) (0 : Int32) I
set_option maxHeartbeats 4000000 in
set_option maxRecDepth 100000 in
theorem ok_X6_dropPending {G : GT} {b d t : Nat} (p0 : Nat) (p1 : Int32) (I : TI) (L : TL) (hp0 : stOK p0) {Q : Int32 → TI → Prop} (h : W_X6_dropPending p0 p1 I L Q) : MW G Y_X6_dropPending [.ref p0, .int p1] (I, L, RT b d t, 457) (fun v9 u9 => ∃ (r9 : Int32) (I9 : TI), v9 = some (.int r9) ∧ u9 = (I9, L, RT b d t, 457) ∧ Q r9 I9) (fun _ _ => False) := by
  unfold W_X6_dropPending at h
  refine MW.intro rfl (by decide) is_X6_dropPending (Nat.le_of_ble_eq_true rfl) ?_
  show V G Y_X6_dropPending 0 [(0, .ref p0), (1, .int p1)] [] (I, L, RT b d t, 457) 0 0 _ _
  refine v_iconst (v := 0) (pc' := 1) 0 rfl rfl (by decide) ?_
  refine v_istore_n (ls' := [(2, .int 0), (0, .ref p0), (1, .int p1)]) (pc' := 2) 1 rfl rfl rfl (by decide) rfl ?_
  refine v_iconst (v := 0) (pc' := 3) 2 rfl rfl (by decide) ?_
  refine v_istore_n (ls' := [(3, .int 0), (2, .int 0), (0, .ref p0), (1, .int p1)]) (pc' := 4) 3 rfl rfl rfl (by decide) rfl ?_
  refine V.sub [2, 3, 1, 0] rfl ?_
  obtain ⟨n391, h⟩ := h
  exact l_X6_dropPending_4 p0 p1 L hp0 Q n391 (0 : Int32) (0 : Int32) I h
def B_X0_unsettle_63 (p0 : Nat) (v2 : Int32) (v3 : Int32) (v4 : Int32) (I : TI) (L : TL) (Q : Int32 → TI → TL → Prop) (R20 : Int32 → Int32 → TI → TL → Prop) : Prop :=
  R20 v3 (v4 + 1) I L
set_option maxHeartbeats 4000000 in
set_option maxRecDepth 100000 in
theorem b_X0_unsettle_63 {G : GT} {b d t : Nat} (p0 : Nat) (v2 : Int32) (v3 : Int32) (v4 : Int32) (I : TI) (L : TL) (hp0 : bnOK p0) (Q : Int32 → TI → TL → Prop) (R20 : Int32 → Int32 → TI → TL → Prop) (hR20 : ∀ (v3 : Int32) (v4 : Int32) (I : TI) (L : TL), R20 v3 v4 I L → V G Y_X0_unsettle 20 [(0, .ref p0), (2, .int v2), (3, .int v3), (4, .int v4)] [] (I, L, RT b d t, 457) 0 0 (fun v9 u9 => ∃ (r9 : Int32) (I9 : TI) (L9 : TL), v9 = some (.int r9) ∧ u9 = (I9, L9, RT b d t, 457) ∧ Q r9 I9 L9) (fun _ _ => False)) (h : B_X0_unsettle_63 p0 v2 v3 v4 I L Q R20) : V G Y_X0_unsettle 63 [(0, .ref p0), (2, .int v2), (3, .int v3), (4, .int v4)] [] (I, L, RT b d t, 457) 0 0 (fun v9 u9 => ∃ (r9 : Int32) (I9 : TI) (L9 : TL), v9 = some (.int r9) ∧ u9 = (I9, L9, RT b d t, 457) ∧ Q r9 I9 L9) (fun _ _ => False) := by
  unfold B_X0_unsettle_63 at h
  refine v_iinc (v := (v4 + 1)) (ls' := [(4, .int (v4 + 1)), (0, .ref p0), (2, .int v2), (3, .int v3)]) (pc' := 66) 34 3 rfl rfl rfl rfl (by decide) rfl ?_
  refine v_goto (tgt := 20) 35 rfl (by decide) ?_
  refine V.sub [1, 2, 3, 0] rfl ?_
  exact hR20 v3 (v4 + 1) I L h
def D_X0_unsettle_20 (p0 : Nat) (v2 : Int32) (Q : Int32 → TI → TL → Prop) (R20 : Int32 → Int32 → TI → TL → Prop) (v3 : Int32) (v4 : Int32) (I : TI) (L : TL) : Prop :=
  W_X2_nets (p0 + 1) I L (fun (r406 : Int32) => (r406 ≤ v4 → W_X0_refresh p0 I L (fun (I407 : TI) (L408 : TL) => Q v3 I407 L408)) ∧ (¬ r406 ≤ v4 → (¬ ((ushI v2 v4) &&& 1) = 1 → B_X0_unsettle_63 p0 v2 v3 v4 I L Q R20) ∧ (((ushI v2 v4) &&& 1) = 1 → W_X6_forget (p0 + 6) v4 I L (fun (L409 : TL) => W_X6_dropPending (p0 + 6) v4 I L409 (fun (r410 : Int32) (I411 : TI) => B_X0_unsettle_63 p0 v2 (v3 + r410) v4 I411 L409 Q R20)))))
def L_X0_unsettle_20 (p0 : Nat) (v2 : Int32) (Q : Int32 → TI → TL → Prop) : Nat → Int32 → Int32 → TI → TL → Prop
  | 0, _, _, _, _ => False
  | n9 + 1, v3, v4, I, L => D_X0_unsettle_20 p0 v2 Q (fun v3 v4 I L => L_X0_unsettle_20 p0 v2 Q n9 v3 v4 I L) v3 v4 I L
set_option maxHeartbeats 4000000 in
set_option maxRecDepth 100000 in
theorem d_X0_unsettle_20 {G : GT} {b d t : Nat} (p0 : Nat) (v2 : Int32) (hp0 : bnOK p0) (Q : Int32 → TI → TL → Prop) (R20 : Int32 → Int32 → TI → TL → Prop)  (hR20 : ∀ (v3 : Int32) (v4 : Int32) (I : TI) (L : TL), R20 v3 v4 I L → V G Y_X0_unsettle 20 [(0, .ref p0), (2, .int v2), (3, .int v3), (4, .int v4)] [] (I, L, RT b d t, 457) 0 0 (fun v9 u9 => ∃ (r9 : Int32) (I9 : TI) (L9 : TL), v9 = some (.int r9) ∧ u9 = (I9, L9, RT b d t, 457) ∧ Q r9 I9 L9) (fun _ _ => False)) (v3 : Int32) (v4 : Int32) (I : TI) (L : TL)  (h : D_X0_unsettle_20 p0 v2 Q R20 v3 v4 I L) : V G Y_X0_unsettle 20 [(0, .ref p0), (2, .int v2), (3, .int v3), (4, .int v4)] [] (I, L, RT b d t, 457) 0 0 (fun v9 u9 => ∃ (r9 : Int32) (I9 : TI) (L9 : TL), v9 = some (.int r9) ∧ u9 = (I9, L9, RT b d t, 457) ∧ Q r9 I9 L9) (fun _ _ => False) := by
  unfold D_X0_unsettle_20 at h
  refine v_iload (pc' := 22) 11 3 rfl rfl rfl ?_
  refine v_aload_n (pc' := 23) 12 0 rfl rfl rfl rfl ?_
  refine v_getR (t := (p0 + 1)) (pc' := 26) 13 rfl rfl pf_X0_12 (bn0l hp0) (lay_lt (bn0l hp0) (by decide)) (rt_bn_0 hp0) ?_
  refine v_cV (Y2 := Y_X2_nets) (As := []) (b := (p0 + 1)) (pc' := 29) (c1 := 0) (s1 := 0) 14 rfl rfl mf_X2_nets rfl rfl ml_X0_53 mi_X2_nets se_X2_nets (ci := 1) rfl (bn1l hp0) (lay_lt (bn1l hp0) (by decide)) rfl (Nat.le_of_ble_eq_true rfl) ⟨Nat.le_of_ble_eq_true rfl, Nat.le_of_ble_eq_true rfl⟩ rfl rfl (ok_X2_nets (p0 + 1) I L (bn_ck hp0) h) ?_ ?_
  · intro e9 u9 hx9
    exact hx9.elim
  intro v9 u9 hv9
  obtain ⟨r406, rfl, rfl, h⟩ := hv9
  refine ⟨fun q => absurd q (Nat.lt_irrefl _), ?_⟩
  show V G Y_X0_unsettle 29 _ (.int r406 :: _) _ _ _ _ _
  refine v_icmp_ge (tgt := 69) (pc' := 32) 15 rfl rfl (by decide) (fun hc => ?_) (fun hc => ?_)
  · replace h := h.1 hc
    refine v_aload_n (pc' := 70) 36 0 rfl rfl rfl rfl ?_
    refine v_cV (Y2 := Y_X0_refresh) (As := []) (b := p0) (pc' := 73) (c1 := 0) (s1 := 0) 37 rfl rfl mf_X0_refresh rfl rfl ml_X0_156 mi_X0_refresh se_X0_refresh (ci := 0) rfl (bn0l hp0) (lay_lt (bn0l hp0) (by decide)) rfl (Nat.le_of_ble_eq_true rfl) ⟨Nat.le_of_ble_eq_true rfl, Nat.le_of_ble_eq_true rfl⟩ rfl rfl (ok_X0_refresh p0 I L hp0 h) ?_ ?_
    · intro e9 u9 hx9
      exact hx9.elim
    intro v9 u9 hv9
    obtain ⟨I407, L408, rfl, rfl, h⟩ := hv9
    refine ⟨fun q => absurd q (Nat.lt_irrefl _), ?_⟩
    show V G Y_X0_unsettle 73 _ _ _ _ _ _ _
    refine v_iload_n (pc' := 74) 38 2 rfl rfl rfl rfl ?_
    exact v_iret 39 rfl rfl (by decide) (by decide) ⟨_, _, _, rfl, rfl, h⟩
  replace h := h.2 hc
  refine v_iload_n (pc' := 33) 16 1 rfl rfl rfl rfl ?_
  refine v_iload (pc' := 35) 17 3 rfl rfl rfl ?_
  refine v_iushr (pc' := 36) 18 rfl rfl ?_
  refine v_iconst (v := 1) (pc' := 37) 19 rfl rfl (by decide) ?_
  refine v_iand (pc' := 38) 20 rfl rfl ?_
  refine v_iconst (v := 1) (pc' := 39) 21 rfl rfl (by decide) ?_
  refine v_icmp_ne (tgt := 63) (pc' := 42) 22 rfl rfl (by decide) (fun hc => ?_) (fun hc => ?_)
  · replace h := h.1 hc
    exact b_X0_unsettle_63 p0 v2 v3 v4 I L hp0 Q R20 hR20 h
  replace h := h.2 hc
  refine v_aload_n (pc' := 43) 23 0 rfl rfl rfl rfl ?_
  refine v_getR (t := (p0 + 6)) (pc' := 46) 24 rfl rfl pf_X0_21 (bn0l hp0) (lay_lt (bn0l hp0) (by decide)) (rt_bn_1 hp0) ?_
  refine v_iload (pc' := 48) 25 3 rfl rfl rfl ?_
  refine v_cV (Y2 := Y_X6_forget) (As := [.int v4]) (b := (p0 + 6)) (pc' := 51) (c1 := 0) (s1 := 0) 26 rfl rfl mf_X6_forget rfl rfl ml_X0_165 mi_X6_forget se_X6_forget (ci := 5) rfl (bn6l hp0) (lay_lt (bn6l hp0) (by decide)) rfl (Nat.le_of_ble_eq_true rfl) ⟨Nat.le_of_ble_eq_true rfl, Nat.le_of_ble_eq_true rfl⟩ rfl rfl (ok_X6_forget (p0 + 6) v4 I L (bn_st hp0) h) ?_ ?_
  · intro e9 u9 hx9
    exact hx9.elim
  intro v9 u9 hv9
  obtain ⟨L409, rfl, rfl, h⟩ := hv9
  refine ⟨fun q => absurd q (Nat.lt_irrefl _), ?_⟩
  show V G Y_X0_unsettle 51 _ _ _ _ _ _ _
  refine v_iload_n (pc' := 52) 27 2 rfl rfl rfl rfl ?_
  refine v_aload_n (pc' := 53) 28 0 rfl rfl rfl rfl ?_
  refine v_getR (t := (p0 + 6)) (pc' := 56) 29 rfl rfl pf_X0_21 (bn0l hp0) (lay_lt (bn0l hp0) (by decide)) (rt_bn_1 hp0) ?_
  refine v_iload (pc' := 58) 30 3 rfl rfl rfl ?_
  refine v_cV (Y2 := Y_X6_dropPending) (As := [.int v4]) (b := (p0 + 6)) (pc' := 61) (c1 := 0) (s1 := 0) 31 rfl rfl mf_X6_dropPending rfl rfl ml_X0_169 mi_X6_dropPending se_X6_dropPending (ci := 5) rfl (bn6l hp0) (lay_lt (bn6l hp0) (by decide)) rfl (Nat.le_of_ble_eq_true rfl) ⟨Nat.le_of_ble_eq_true rfl, Nat.le_of_ble_eq_true rfl⟩ rfl rfl (ok_X6_dropPending (p0 + 6) v4 I L409 (bn_st hp0) h) ?_ ?_
  · intro e9 u9 hx9
    exact hx9.elim
  intro v9 u9 hv9
  obtain ⟨r410, I411, rfl, rfl, h⟩ := hv9
  refine ⟨fun q => absurd q (Nat.lt_irrefl _), ?_⟩
  show V G Y_X0_unsettle 61 _ (.int r410 :: _) _ _ _ _ _
  refine v_iadd (pc' := 62) 32 rfl rfl ?_
  refine v_istore_n (ls' := [(3, .int (v3 + r410)), (0, .ref p0), (2, .int v2), (4, .int v4)]) (pc' := 63) 33 rfl rfl rfl (by decide) rfl ?_
  refine V.sub [1, 2, 0, 3] rfl ?_
  exact b_X0_unsettle_63 p0 v2 (v3 + r410) v4 I411 L409 hp0 Q R20 hR20 h
theorem l_X0_unsettle_20 {G : GT} {b d t : Nat} (p0 : Nat) (v2 : Int32) (hp0 : bnOK p0) (Q : Int32 → TI → TL → Prop)  : ∀ (n9 : Nat) (v3 : Int32) (v4 : Int32) (I : TI) (L : TL), L_X0_unsettle_20 p0 v2 Q n9 v3 v4 I L → V G Y_X0_unsettle 20 [(0, .ref p0), (2, .int v2), (3, .int v3), (4, .int v4)] [] (I, L, RT b d t, 457) 0 0 (fun v9 u9 => ∃ (r9 : Int32) (I9 : TI) (L9 : TL), v9 = some (.int r9) ∧ u9 = (I9, L9, RT b d t, 457) ∧ Q r9 I9 L9) (fun _ _ => False)
  | 0, _, _, _, _, h => h.elim
  | n9 + 1, v3, v4, I, L, h => d_X0_unsettle_20 p0 v2 hp0 Q _ (l_X0_unsettle_20 p0 v2 hp0 Q n9) v3 v4 I L h
def W_X0_unsettle (p0 : Nat) (p1 : Int32) (I : TI) (L : TL) (Q : Int32 → TI → TL → Prop) : Prop :=
  W_X2_touchedBy (p0 + 1) p1 I L (fun (r412 : Int32) => ∃ n413, L_X0_unsettle_20 p0 r412 Q n413 (0 : Int32) (I (p0 + 1) 4) I L)
set_option maxHeartbeats 4000000 in
set_option maxRecDepth 100000 in
theorem ok_X0_unsettle {G : GT} {b d t : Nat} (p0 : Nat) (p1 : Int32) (I : TI) (L : TL) (hp0 : bnOK p0) {Q : Int32 → TI → TL → Prop} (h : W_X0_unsettle p0 p1 I L Q) : MW G Y_X0_unsettle [.ref p0, .int p1] (I, L, RT b d t, 457) (fun v9 u9 => ∃ (r9 : Int32) (I9 : TI) (L9 : TL), v9 = some (.int r9) ∧ u9 = (I9, L9, RT b d t, 457) ∧ Q r9 I9 L9) (fun _ _ => False) := by
  unfold W_X0_unsettle at h
  refine MW.intro rfl (by decide) is_X0_unsettle (Nat.le_of_ble_eq_true rfl) ?_
  show V G Y_X0_unsettle 0 [(0, .ref p0), (1, .int p1)] [] (I, L, RT b d t, 457) 0 0 _ _
  refine v_aload_n (pc' := 1) 0 0 rfl rfl rfl rfl ?_
  refine v_getR (t := (p0 + 1)) (pc' := 4) 1 rfl rfl pf_X0_12 (bn0l hp0) (lay_lt (bn0l hp0) (by decide)) (rt_bn_0 hp0) ?_
  refine v_iload_n (pc' := 5) 2 1 rfl rfl rfl rfl ?_
  refine v_cV (Y2 := Y_X2_touchedBy) (As := [.int p1]) (b := (p0 + 1)) (pc' := 8) (c1 := 0) (s1 := 0) 3 rfl rfl mf_X2_touchedBy rfl rfl ml_X0_162 mi_X2_touchedBy se_X2_touchedBy (ci := 1) rfl (bn1l hp0) (lay_lt (bn1l hp0) (by decide)) rfl (Nat.le_of_ble_eq_true rfl) ⟨Nat.le_of_ble_eq_true rfl, Nat.le_of_ble_eq_true rfl⟩ rfl rfl (ok_X2_touchedBy (p0 + 1) p1 I L (bn_ck hp0) h) ?_ ?_
  · intro e9 u9 hx9
    exact hx9.elim
  intro v9 u9 hv9
  obtain ⟨r412, rfl, rfl, h⟩ := hv9
  refine ⟨fun q => absurd q (Nat.lt_irrefl _), ?_⟩
  show V G Y_X0_unsettle 8 _ (.int r412 :: _) _ _ _ _ _
  refine v_istore_n (ls' := [(2, .int r412), (0, .ref p0), (1, .int p1)]) (pc' := 9) 4 rfl rfl rfl (by decide) rfl ?_
  refine v_iconst (v := 0) (pc' := 10) 5 rfl rfl (by decide) ?_
  refine v_istore_n (ls' := [(3, .int 0), (2, .int r412), (0, .ref p0), (1, .int p1)]) (pc' := 11) 6 rfl rfl rfl (by decide) rfl ?_
  refine v_aload_n (pc' := 12) 7 2 rfl rfl rfl rfl ?_
  refine v_getR (t := (p0 + 1)) (pc' := 15) 8 rfl rfl pf_X0_12 (bn0l hp0) (lay_lt (bn0l hp0) (by decide)) (rt_bn_0 hp0) ?_
  refine v_getI (pc' := 18) 9 rfl rfl pf_X0_46 (bn1l hp0) (lay_lt (bn1l hp0) (by decide)) ?_
  refine v_istore (ls' := [(4, .int (I (p0 + 1) 4)), (3, .int 0), (2, .int r412), (0, .ref p0), (1, .int p1)]) (pc' := 20) 10 rfl rfl (by decide) rfl ?_
  refine V.sub [3, 2, 1, 0] rfl ?_
  obtain ⟨n413, h⟩ := h
  exact l_X0_unsettle_20 p0 r412 hp0 Q n413 (0 : Int32) (I (p0 + 1) 4) I L h
def W_X6_settledTimes (p0 : Nat) (p1 : Int32) (I : TI) (L : TL) (Q : Int32 → Prop) : Prop :=
  vp_in p1 16 ∧ (W_J13_bitCount_95d88 (L (p0 + 6) (p1.toNatClampNeg)) I L (fun (r417 : Int32) => Q r417))
set_option maxHeartbeats 4000000 in
set_option maxRecDepth 100000 in
theorem ok_X6_settledTimes {G : GT} {b d t : Nat} (p0 : Nat) (p1 : Int32) (I : TI) (L : TL) (hp0 : stOK p0) {Q : Int32 → Prop} (h : W_X6_settledTimes p0 p1 I L Q) : MW G Y_X6_settledTimes [.ref p0, .int p1] (I, L, RT b d t, 457) (fun v9 u9 => ∃ (r9 : Int32), v9 = some (.int r9) ∧ u9 = (I, L, RT b d t, 457) ∧ Q r9) (fun _ _ => False) := by
  unfold W_X6_settledTimes at h
  refine MW.intro rfl (by decide) is_X6_settledTimes (Nat.le_of_ble_eq_true rfl) ?_
  show V G Y_X6_settledTimes 0 [(0, .ref p0), (1, .int p1)] [] (I, L, RT b d t, 457) 0 0 _ _
  refine v_aload_n (pc' := 1) 0 0 rfl rfl rfl rfl ?_
  refine v_getR (t := (p0 + 6)) (pc' := 4) 1 rfl rfl pf_X6_20 (st0l hp0) (lay_lt (st0l hp0) (by decide)) (rt_st_2 hp0) ?_
  refine v_iload_n (pc' := 5) 2 1 rfl rfl rfl rfl ?_
  obtain ⟨hi416, h⟩ := h
  refine v_lald (i := p1) (j := p1.toNatClampNeg) (pc' := 6) 3 rfl rfl (st6l hp0) (st6n hp0) (lay_lt (st6l hp0) (by decide)) hi416 rfl ?_
  refine v_cS (Y2 := Y_J13_bitCount_95d88) (As := [.long (L (p0 + 6) (p1.toNatClampNeg))]) (pc' := 9) (c1 := 0) (s1 := 0) 4 rfl rfl mf_J13_bitCount_95d88 rfl rfl ml_X6_67 ms_J13_bitCount_95d88 rfl (Nat.le_of_ble_eq_true rfl) ⟨Nat.le_of_ble_eq_true rfl, Nat.le_of_ble_eq_true rfl⟩ rfl rfl (ok_J13_bitCount_95d88 (L (p0 + 6) (p1.toNatClampNeg)) I L h) ?_ ?_
  · intro e9 u9 hx9
    exact hx9.elim
  intro v9 u9 hv9
  obtain ⟨r417, rfl, rfl, h⟩ := hv9
  refine ⟨fun q => absurd q (Nat.lt_irrefl _), ?_⟩
  show V G Y_X6_settledTimes 9 _ (.int r417 :: _) _ _ _ _ _
  exact v_iret 5 rfl rfl (by decide) (by decide) ⟨_, rfl, rfl, h⟩
def W_X6_ruledTimes (p0 : Nat) (p1 : Int32) (I : TI) (L : TL) (Q : Int32 → Prop) : Prop :=
  vp_in p1 16 ∧ (vp_in p1 16 ∧ (W_J13_bitCount_95d88 ((L (p0 + 7) (p1.toNatClampNeg)) &&& ((L (p0 + 6) (p1.toNatClampNeg)) ^^^ (-1))) I L (fun (r423 : Int32) => Q r423)))
set_option maxHeartbeats 4000000 in
set_option maxRecDepth 100000 in
theorem ok_X6_ruledTimes {G : GT} {b d t : Nat} (p0 : Nat) (p1 : Int32) (I : TI) (L : TL) (hp0 : stOK p0) {Q : Int32 → Prop} (h : W_X6_ruledTimes p0 p1 I L Q) : MW G Y_X6_ruledTimes [.ref p0, .int p1] (I, L, RT b d t, 457) (fun v9 u9 => ∃ (r9 : Int32), v9 = some (.int r9) ∧ u9 = (I, L, RT b d t, 457) ∧ Q r9) (fun _ _ => False) := by
  unfold W_X6_ruledTimes at h
  refine MW.intro rfl (by decide) is_X6_ruledTimes (Nat.le_of_ble_eq_true rfl) ?_
  show V G Y_X6_ruledTimes 0 [(0, .ref p0), (1, .int p1)] [] (I, L, RT b d t, 457) 0 0 _ _
  refine v_aload_n (pc' := 1) 0 0 rfl rfl rfl rfl ?_
  refine v_getR (t := (p0 + 7)) (pc' := 4) 1 rfl rfl pf_X6_23 (st0l hp0) (lay_lt (st0l hp0) (by decide)) (rt_st_3 hp0) ?_
  refine v_iload_n (pc' := 5) 2 1 rfl rfl rfl rfl ?_
  obtain ⟨hi421, h⟩ := h
  refine v_lald (i := p1) (j := p1.toNatClampNeg) (pc' := 6) 3 rfl rfl (st7l hp0) (st7n hp0) (lay_lt (st7l hp0) (by decide)) hi421 rfl ?_
  refine v_aload_n (pc' := 7) 4 0 rfl rfl rfl rfl ?_
  refine v_getR (t := (p0 + 6)) (pc' := 10) 5 rfl rfl pf_X6_20 (st0l hp0) (lay_lt (st0l hp0) (by decide)) (rt_st_2 hp0) ?_
  refine v_iload_n (pc' := 11) 6 1 rfl rfl rfl rfl ?_
  obtain ⟨hi422, h⟩ := h
  refine v_lald (i := p1) (j := p1.toNatClampNeg) (pc' := 12) 7 rfl rfl (st6l hp0) (st6n hp0) (lay_lt (st6l hp0) (by decide)) hi422 rfl ?_
  refine v_ldc2 (v := -1) (pc' := 15) 8 rfl rfl kl_X6_73 ?_
  refine v_lxor (pc' := 16) 9 rfl rfl ?_
  refine v_land (pc' := 17) 10 rfl rfl ?_
  refine v_cS (Y2 := Y_J13_bitCount_95d88) (As := [.long ((L (p0 + 7) (p1.toNatClampNeg)) &&& ((L (p0 + 6) (p1.toNatClampNeg)) ^^^ (-1)))]) (pc' := 20) (c1 := 0) (s1 := 0) 11 rfl rfl mf_J13_bitCount_95d88 rfl rfl ml_X6_67 ms_J13_bitCount_95d88 rfl (Nat.le_of_ble_eq_true rfl) ⟨Nat.le_of_ble_eq_true rfl, Nat.le_of_ble_eq_true rfl⟩ rfl rfl (ok_J13_bitCount_95d88 ((L (p0 + 7) (p1.toNatClampNeg)) &&& ((L (p0 + 6) (p1.toNatClampNeg)) ^^^ (-1))) I L h) ?_ ?_
  · intro e9 u9 hx9
    exact hx9.elim
  intro v9 u9 hv9
  obtain ⟨r423, rfl, rfl, h⟩ := hv9
  refine ⟨fun q => absurd q (Nat.lt_irrefl _), ?_⟩
  show V G Y_X6_ruledTimes 20 _ (.int r423 :: _) _ _ _ _ _
  exact v_iret 12 rfl rfl (by decide) (by decide) ⟨_, rfl, rfl, h⟩
def W_X0_propertyOf (p0 : Nat) (p1 : Int32) (p2 : Int32) (I : TI) (L : TL) (Q : Int32 → Prop) : Prop :=
  W_X2_hasGate (p0 + 1) p1 I L (fun (r436 : Int32) => (p2 = 0 → Q p1) ∧ (p2 = 1 → (r436 = 0 → Q 0) ∧ (¬ r436 = 0 → vp_in p1 16 ∧ (Q ((1 : Int32) + (I (p0 + 2) (p1.toNatClampNeg)))))) ∧ (p2 = 2 → (r436 = 0 → Q 0) ∧ (¬ r436 = 0 → W_X2_cone (p0 + 1) p1 I L (fun (r438 : Int32) => Q r438))) ∧ (p2 = 3 → vp_in p1 16 ∧ (W_X8_changesOf (L (p0 + 37) (p1.toNatClampNeg)) (I (p0 + 1) 6) I L (fun (r440 : Int32) => Q r440))) ∧ (p2 = 4 → W_X0_wrongTimes p0 p1 I L (fun (r441 : Int64) => W_J13_bitCount_95d88 r441 I L (fun (r442 : Int32) => Q r442))) ∧ (p2 = 5 → W_X6_settledTimes (p0 + 6) p1 I L (fun (r443 : Int32) => Q r443)) ∧ (p2 = 6 → W_X6_ruledTimes (p0 + 6) p1 I L (fun (r444 : Int32) => Q r444)) ∧ (p2 = 7 → (r436 = 0 → Q 0) ∧ (¬ r436 = 0 → W_X0_pulses p0 p1 I L (fun (r445 : Int32) => Q r445))) ∧ (p2 < 0 ∨ 7 < p2 → vp_in p1 16 ∧ (W_X8_bitOf (L (p0 + 37) (p1.toNatClampNeg)) (I (p0 + 1) 6) I L (fun (r447 : Int32) => Q r447))))
set_option maxHeartbeats 4000000 in
set_option maxRecDepth 100000 in
theorem ok_X0_propertyOf {G : GT} {b d t : Nat} (p0 : Nat) (p1 : Int32) (p2 : Int32) (I : TI) (L : TL) (hp0 : bnOK p0) {Q : Int32 → Prop} (h : W_X0_propertyOf p0 p1 p2 I L Q) : MW G Y_X0_propertyOf [.ref p0, .int p1, .int p2] (I, L, RT b d t, 457) (fun v9 u9 => ∃ (r9 : Int32), v9 = some (.int r9) ∧ u9 = (I, L, RT b d t, 457) ∧ Q r9) (fun _ _ => False) := by
  unfold W_X0_propertyOf at h
  refine MW.intro rfl (by decide) is_X0_propertyOf (Nat.le_of_ble_eq_true rfl) ?_
  show V G Y_X0_propertyOf 0 [(0, .ref p0), (1, .int p1), (2, .int p2)] [] (I, L, RT b d t, 457) 0 0 _ _
  refine v_aload_n (pc' := 1) 0 0 rfl rfl rfl rfl ?_
  refine v_getR (t := (p0 + 1)) (pc' := 4) 1 rfl rfl pf_X0_12 (bn0l hp0) (lay_lt (bn0l hp0) (by decide)) (rt_bn_0 hp0) ?_
  refine v_iload_n (pc' := 5) 2 1 rfl rfl rfl rfl ?_
  refine v_cV (Y2 := Y_X2_hasGate) (As := [.int p1]) (b := (p0 + 1)) (pc' := 8) (c1 := 0) (s1 := 0) 3 rfl rfl mf_X2_hasGate rfl rfl ml_X0_172 mi_X2_hasGate se_X2_hasGate (ci := 1) rfl (bn1l hp0) (lay_lt (bn1l hp0) (by decide)) rfl (Nat.le_of_ble_eq_true rfl) ⟨Nat.le_of_ble_eq_true rfl, Nat.le_of_ble_eq_true rfl⟩ rfl rfl (ok_X2_hasGate (p0 + 1) p1 I L (bn_ck hp0) h) ?_ ?_
  · intro e9 u9 hx9
    exact hx9.elim
  intro v9 u9 hv9
  obtain ⟨r436, rfl, rfl, h⟩ := hv9
  refine ⟨fun q => absurd q (Nat.lt_irrefl _), ?_⟩
  show V G Y_X0_propertyOf 8 _ (.int r436 :: _) _ _ _ _ _
  refine v_istore_n (ls' := [(3, .int r436), (0, .ref p0), (1, .int p1), (2, .int p2)]) (pc' := 9) 4 rfl rfl rfl (by decide) rfl ?_
  refine v_iload_n (pc' := 10) 5 3 rfl rfl rfl rfl ?_
  refine v_ts (clo := 0) (chi := 7) (dt := 153) 6 8 [56, 58, 78, 95, 112, 121, 130, 139] rfl (by decide) (by decide) (by decide) (by decide) (by decide) ?_ (fun hc => ?_)
  · intro j9 t9 ht9 hj9 hx9
    match j9, ht9, hj9, hx9 with
    | 0, ht9, hj9, hx9 =>
      cases ht9
      replace hx9 := hx9.trans (show Int32.ofInt _ = (0 : Int32) by decide)
      replace h := h.1 hx9
      refine v_iload_n (pc' := 57) 7 2 rfl rfl rfl rfl ?_
      exact v_iret 8 rfl rfl (by decide) (by decide) ⟨_, rfl, rfl, h⟩
    | 1, ht9, hj9, hx9 =>
      cases ht9
      replace hx9 := hx9.trans (show Int32.ofInt _ = (1 : Int32) by decide)
      replace h := h.2.1 hx9
      refine v_iload_n (pc' := 59) 9 0 rfl rfl rfl rfl ?_
      refine v_if_eq (tgt := 76) (pc' := 62) 10 rfl rfl (by decide) (fun hc => ?_) (fun hc => ?_)
      · replace h := h.1 hc
        refine v_iconst (v := 0) (pc' := 77) 19 rfl rfl (by decide) ?_
        exact v_iret 20 rfl rfl (by decide) (by decide) ⟨_, rfl, rfl, h⟩
      replace h := h.2 hc
      refine v_iconst (v := 1) (pc' := 63) 11 rfl rfl (by decide) ?_
      refine v_aload_n (pc' := 64) 12 1 rfl rfl rfl rfl ?_
      refine v_getR (t := (p0 + 1)) (pc' := 67) 13 rfl rfl pf_X0_12 (bn0l hp0) (lay_lt (bn0l hp0) (by decide)) (rt_bn_0 hp0) ?_
      refine v_getR (t := (p0 + 2)) (pc' := 70) 14 rfl rfl pf_X0_176 (bn1l hp0) (lay_lt (bn1l hp0) (by decide)) (rt_ck_0 (bn_ck hp0)) ?_
      refine v_iload_n (pc' := 71) 15 2 rfl rfl rfl rfl ?_
      obtain ⟨hi437, h⟩ := h
      refine v_iald (i := p1) (j := p1.toNatClampNeg) (pc' := 72) 16 rfl rfl (bn2l hp0) (bn2n hp0) (lay_lt (bn2l hp0) (by decide)) hi437 rfl ?_
      refine v_iadd (pc' := 73) 17 rfl rfl ?_
      refine v_goto (tgt := 77) 18 rfl (by decide) ?_
      exact v_iret 20 rfl rfl (by decide) (by decide) ⟨_, rfl, rfl, h⟩
    | 2, ht9, hj9, hx9 =>
      cases ht9
      replace hx9 := hx9.trans (show Int32.ofInt _ = (2 : Int32) by decide)
      replace h := h.2.2.1 hx9
      refine v_iload_n (pc' := 79) 21 0 rfl rfl rfl rfl ?_
      refine v_if_eq (tgt := 93) (pc' := 82) 22 rfl rfl (by decide) (fun hc => ?_) (fun hc => ?_)
      · replace h := h.1 hc
        refine v_iconst (v := 0) (pc' := 94) 28 rfl rfl (by decide) ?_
        exact v_iret 29 rfl rfl (by decide) (by decide) ⟨_, rfl, rfl, h⟩
      replace h := h.2 hc
      refine v_aload_n (pc' := 83) 23 1 rfl rfl rfl rfl ?_
      refine v_getR (t := (p0 + 1)) (pc' := 86) 24 rfl rfl pf_X0_12 (bn0l hp0) (lay_lt (bn0l hp0) (by decide)) (rt_bn_0 hp0) ?_
      refine v_iload_n (pc' := 87) 25 2 rfl rfl rfl rfl ?_
      refine v_cV (Y2 := Y_X2_cone) (As := [.int p1]) (b := (p0 + 1)) (pc' := 90) (c1 := 0) (s1 := 0) 26 rfl rfl mf_X2_cone rfl rfl ml_X0_129 mi_X2_cone se_X2_cone (ci := 1) rfl (bn1l hp0) (lay_lt (bn1l hp0) (by decide)) rfl (Nat.le_of_ble_eq_true rfl) ⟨Nat.le_of_ble_eq_true rfl, Nat.le_of_ble_eq_true rfl⟩ rfl rfl (ok_X2_cone (p0 + 1) p1 I L (bn_ck hp0) h) ?_ ?_
      · intro e9 u9 hx9
        exact hx9.elim
      intro v9 u9 hv9
      obtain ⟨r438, rfl, rfl, h⟩ := hv9
      refine ⟨fun q => absurd q (Nat.lt_irrefl _), ?_⟩
      show V G Y_X0_propertyOf 90 _ (.int r438 :: _) _ _ _ _ _
      refine v_goto (tgt := 94) 27 rfl (by decide) ?_
      exact v_iret 29 rfl rfl (by decide) (by decide) ⟨_, rfl, rfl, h⟩
    | 3, ht9, hj9, hx9 =>
      cases ht9
      replace hx9 := hx9.trans (show Int32.ofInt _ = (3 : Int32) by decide)
      replace h := h.2.2.2.1 hx9
      refine v_aload_n (pc' := 96) 30 1 rfl rfl rfl rfl ?_
      refine v_getR (t := (p0 + 37)) (pc' := 99) 31 rfl rfl pf_X0_25 (bn0l hp0) (lay_lt (bn0l hp0) (by decide)) (rt_bn_2 hp0) ?_
      refine v_iload_n (pc' := 100) 32 2 rfl rfl rfl rfl ?_
      obtain ⟨hi439, h⟩ := h
      refine v_lald (i := p1) (j := p1.toNatClampNeg) (pc' := 101) 33 rfl rfl (bn37l hp0) (bn37n hp0) (lay_lt (bn37l hp0) (by decide)) hi439 rfl ?_
      refine v_aload_n (pc' := 102) 34 1 rfl rfl rfl rfl ?_
      refine v_getR (t := (p0 + 1)) (pc' := 105) 35 rfl rfl pf_X0_12 (bn0l hp0) (lay_lt (bn0l hp0) (by decide)) (rt_bn_0 hp0) ?_
      refine v_getI (pc' := 108) 36 rfl rfl pf_X0_88 (bn1l hp0) (lay_lt (bn1l hp0) (by decide)) ?_
      refine v_cNS (Y2 := Y_X8_changesOf) (As := [.long (L (p0 + 37) (p1.toNatClampNeg)), .int (I (p0 + 1) 6)]) (pc' := 111) (c1 := 0) (s1 := 0) 37 rfl rfl mf_X8_changesOf rfl rfl nt_X0_123 ms_X8_changesOf rfl (Nat.le_of_ble_eq_true rfl) ⟨Nat.le_of_ble_eq_true rfl, Nat.le_of_ble_eq_true rfl⟩ rfl rfl (ok_X8_changesOf (L (p0 + 37) (p1.toNatClampNeg)) (I (p0 + 1) 6) I L h) ?_ ?_
      · intro e9 u9 hx9
        exact hx9.elim
      intro v9 u9 hv9
      obtain ⟨r440, rfl, rfl, h⟩ := hv9
      refine ⟨fun q => absurd q (Nat.lt_irrefl _), ?_⟩
      show V G Y_X0_propertyOf 111 _ (.int r440 :: _) _ _ _ _ _
      exact v_iret 38 rfl rfl (by decide) (by decide) ⟨_, rfl, rfl, h⟩
    | 4, ht9, hj9, hx9 =>
      cases ht9
      replace hx9 := hx9.trans (show Int32.ofInt _ = (4 : Int32) by decide)
      replace h := h.2.2.2.2.1 hx9
      refine v_aload_n (pc' := 113) 39 1 rfl rfl rfl rfl ?_
      refine v_iload_n (pc' := 114) 40 2 rfl rfl rfl rfl ?_
      refine v_cV (Y2 := Y_X0_wrongTimes) (As := [.int p1]) (b := p0) (pc' := 117) (c1 := 0) (s1 := 0) 41 rfl rfl mf_X0_wrongTimes rfl rfl ml_X0_179 mi_X0_wrongTimes se_X0_wrongTimes (ci := 0) rfl (bn0l hp0) (lay_lt (bn0l hp0) (by decide)) rfl (Nat.le_of_ble_eq_true rfl) ⟨Nat.le_of_ble_eq_true rfl, Nat.le_of_ble_eq_true rfl⟩ rfl rfl (ok_X0_wrongTimes p0 p1 I L hp0 h) ?_ ?_
      · intro e9 u9 hx9
        exact hx9.elim
      intro v9 u9 hv9
      obtain ⟨r441, rfl, rfl, h⟩ := hv9
      refine ⟨fun q => absurd q (Nat.lt_irrefl _), ?_⟩
      show V G Y_X0_propertyOf 117 _ (.long r441 :: _) _ _ _ _ _
      refine v_cS (Y2 := Y_J13_bitCount_95d88) (As := [.long r441]) (pc' := 120) (c1 := 0) (s1 := 0) 42 rfl rfl mf_J13_bitCount_95d88 rfl rfl ml_X0_117 ms_J13_bitCount_95d88 rfl (Nat.le_of_ble_eq_true rfl) ⟨Nat.le_of_ble_eq_true rfl, Nat.le_of_ble_eq_true rfl⟩ rfl rfl (ok_J13_bitCount_95d88 r441 I L h) ?_ ?_
      · intro e9 u9 hx9
        exact hx9.elim
      intro v9 u9 hv9
      obtain ⟨r442, rfl, rfl, h⟩ := hv9
      refine ⟨fun q => absurd q (Nat.lt_irrefl _), ?_⟩
      show V G Y_X0_propertyOf 120 _ (.int r442 :: _) _ _ _ _ _
      exact v_iret 43 rfl rfl (by decide) (by decide) ⟨_, rfl, rfl, h⟩
    | 5, ht9, hj9, hx9 =>
      cases ht9
      replace hx9 := hx9.trans (show Int32.ofInt _ = (5 : Int32) by decide)
      replace h := h.2.2.2.2.2.1 hx9
      refine v_aload_n (pc' := 122) 44 1 rfl rfl rfl rfl ?_
      refine v_getR (t := (p0 + 6)) (pc' := 125) 45 rfl rfl pf_X0_21 (bn0l hp0) (lay_lt (bn0l hp0) (by decide)) (rt_bn_1 hp0) ?_
      refine v_iload_n (pc' := 126) 46 2 rfl rfl rfl rfl ?_
      refine v_cV (Y2 := Y_X6_settledTimes) (As := [.int p1]) (b := (p0 + 6)) (pc' := 129) (c1 := 0) (s1 := 0) 47 rfl rfl mf_X6_settledTimes rfl rfl ml_X0_182 mi_X6_settledTimes se_X6_settledTimes (ci := 5) rfl (bn6l hp0) (lay_lt (bn6l hp0) (by decide)) rfl (Nat.le_of_ble_eq_true rfl) ⟨Nat.le_of_ble_eq_true rfl, Nat.le_of_ble_eq_true rfl⟩ rfl rfl (ok_X6_settledTimes (p0 + 6) p1 I L (bn_st hp0) h) ?_ ?_
      · intro e9 u9 hx9
        exact hx9.elim
      intro v9 u9 hv9
      obtain ⟨r443, rfl, rfl, h⟩ := hv9
      refine ⟨fun q => absurd q (Nat.lt_irrefl _), ?_⟩
      show V G Y_X0_propertyOf 129 _ (.int r443 :: _) _ _ _ _ _
      exact v_iret 48 rfl rfl (by decide) (by decide) ⟨_, rfl, rfl, h⟩
    | 6, ht9, hj9, hx9 =>
      cases ht9
      replace hx9 := hx9.trans (show Int32.ofInt _ = (6 : Int32) by decide)
      replace h := h.2.2.2.2.2.2.1 hx9
      refine v_aload_n (pc' := 131) 49 1 rfl rfl rfl rfl ?_
      refine v_getR (t := (p0 + 6)) (pc' := 134) 50 rfl rfl pf_X0_21 (bn0l hp0) (lay_lt (bn0l hp0) (by decide)) (rt_bn_1 hp0) ?_
      refine v_iload_n (pc' := 135) 51 2 rfl rfl rfl rfl ?_
      refine v_cV (Y2 := Y_X6_ruledTimes) (As := [.int p1]) (b := (p0 + 6)) (pc' := 138) (c1 := 0) (s1 := 0) 52 rfl rfl mf_X6_ruledTimes rfl rfl ml_X0_185 mi_X6_ruledTimes se_X6_ruledTimes (ci := 5) rfl (bn6l hp0) (lay_lt (bn6l hp0) (by decide)) rfl (Nat.le_of_ble_eq_true rfl) ⟨Nat.le_of_ble_eq_true rfl, Nat.le_of_ble_eq_true rfl⟩ rfl rfl (ok_X6_ruledTimes (p0 + 6) p1 I L (bn_st hp0) h) ?_ ?_
      · intro e9 u9 hx9
        exact hx9.elim
      intro v9 u9 hv9
      obtain ⟨r444, rfl, rfl, h⟩ := hv9
      refine ⟨fun q => absurd q (Nat.lt_irrefl _), ?_⟩
      show V G Y_X0_propertyOf 138 _ (.int r444 :: _) _ _ _ _ _
      exact v_iret 53 rfl rfl (by decide) (by decide) ⟨_, rfl, rfl, h⟩
    | 7, ht9, hj9, hx9 =>
      cases ht9
      replace hx9 := hx9.trans (show Int32.ofInt _ = (7 : Int32) by decide)
      replace h := h.2.2.2.2.2.2.2.1 hx9
      refine v_iload_n (pc' := 140) 54 0 rfl rfl rfl rfl ?_
      refine v_if_eq (tgt := 151) (pc' := 143) 55 rfl rfl (by decide) (fun hc => ?_) (fun hc => ?_)
      · replace h := h.1 hc
        refine v_iconst (v := 0) (pc' := 152) 60 rfl rfl (by decide) ?_
        exact v_iret 61 rfl rfl (by decide) (by decide) ⟨_, rfl, rfl, h⟩
      replace h := h.2 hc
      refine v_aload_n (pc' := 144) 56 1 rfl rfl rfl rfl ?_
      refine v_iload_n (pc' := 145) 57 2 rfl rfl rfl rfl ?_
      refine v_cV (Y2 := Y_X0_pulses) (As := [.int p1]) (b := p0) (pc' := 148) (c1 := 0) (s1 := 0) 58 rfl rfl mf_X0_pulses rfl rfl ml_X0_188 mi_X0_pulses se_X0_pulses (ci := 0) rfl (bn0l hp0) (lay_lt (bn0l hp0) (by decide)) rfl (Nat.le_of_ble_eq_true rfl) ⟨Nat.le_of_ble_eq_true rfl, Nat.le_of_ble_eq_true rfl⟩ rfl rfl (ok_X0_pulses p0 p1 I L hp0 h) ?_ ?_
      · intro e9 u9 hx9
        exact hx9.elim
      intro v9 u9 hv9
      obtain ⟨r445, rfl, rfl, h⟩ := hv9
      refine ⟨fun q => absurd q (Nat.lt_irrefl _), ?_⟩
      show V G Y_X0_propertyOf 148 _ (.int r445 :: _) _ _ _ _ _
      refine v_goto (tgt := 152) 59 rfl (by decide) ?_
      exact v_iret 61 rfl rfl (by decide) (by decide) ⟨_, rfl, rfl, h⟩
    | q9 + 8, ht9, hj9, hx9 => exact absurd hj9 (by omega)
  replace h := h.2.2.2.2.2.2.2.2 hc
  refine v_aload_n (pc' := 154) 62 1 rfl rfl rfl rfl ?_
  refine v_getR (t := (p0 + 37)) (pc' := 157) 63 rfl rfl pf_X0_25 (bn0l hp0) (lay_lt (bn0l hp0) (by decide)) (rt_bn_2 hp0) ?_
  refine v_iload_n (pc' := 158) 64 2 rfl rfl rfl rfl ?_
  obtain ⟨hi446, h⟩ := h
  refine v_lald (i := p1) (j := p1.toNatClampNeg) (pc' := 159) 65 rfl rfl (bn37l hp0) (bn37n hp0) (lay_lt (bn37l hp0) (by decide)) hi446 rfl ?_
  refine v_aload_n (pc' := 160) 66 1 rfl rfl rfl rfl ?_
  refine v_getR (t := (p0 + 1)) (pc' := 163) 67 rfl rfl pf_X0_12 (bn0l hp0) (lay_lt (bn0l hp0) (by decide)) (rt_bn_0 hp0) ?_
  refine v_getI (pc' := 166) 68 rfl rfl pf_X0_88 (bn1l hp0) (lay_lt (bn1l hp0) (by decide)) ?_
  refine v_cNS (Y2 := Y_X8_bitOf) (As := [.long (L (p0 + 37) (p1.toNatClampNeg)), .int (I (p0 + 1) 6)]) (pc' := 169) (c1 := 0) (s1 := 0) 69 rfl rfl mf_X8_bitOf rfl rfl nt_X0_80 ms_X8_bitOf rfl (Nat.le_of_ble_eq_true rfl) ⟨Nat.le_of_ble_eq_true rfl, Nat.le_of_ble_eq_true rfl⟩ rfl rfl (ok_X8_bitOf (L (p0 + 37) (p1.toNatClampNeg)) (I (p0 + 1) 6) I L h) ?_ ?_
  · intro e9 u9 hx9
    exact hx9.elim
  intro v9 u9 hv9
  obtain ⟨r447, rfl, rfl, h⟩ := hv9
  refine ⟨fun q => absurd q (Nat.lt_irrefl _), ?_⟩
  show V G Y_X0_propertyOf 169 _ (.int r447 :: _) _ _ _ _ _
  exact v_iret 70 rfl rfl (by decide) (by decide) ⟨_, rfl, rfl, h⟩
def W_X7_failed (I : TI) (L : TL) (Q : Int32 → Prop) : Prop :=
  ((I 344 6) = 0 → Q 0) ∧ (¬ (I 344 6) = 0 → Q 1)
set_option maxHeartbeats 4000000 in
set_option maxRecDepth 100000 in
theorem ok_X7_failed {G : GT} {b d t : Nat} (I : TI) (L : TL)  {Q : Int32 → Prop} (h : W_X7_failed I L Q) : MW G Y_X7_failed [.ref 344] (I, L, RT b d t, 457) (fun v9 u9 => ∃ (r9 : Int32), v9 = some (.int r9) ∧ u9 = (I, L, RT b d t, 457) ∧ Q r9) (fun _ _ => False) := by
  unfold W_X7_failed at h
  refine MW.intro rfl (by decide) is_X7_failed (Nat.le_of_ble_eq_true rfl) ?_
  show V G Y_X7_failed 0 [(0, .ref 344)] [] (I, L, RT b d t, 457) 0 0 _ _
  refine v_aload_n (pc' := 1) 0 0 rfl rfl rfl rfl ?_
  refine v_getI (pc' := 4) 1 rfl rfl pf_X7_31 ly_344 (lay_lt ly_344 (by decide)) ?_
  refine v_if_eq (tgt := 11) (pc' := 7) 2 rfl rfl (by decide) (fun hc => ?_) (fun hc => ?_)
  · replace h := h.1 hc
    refine v_iconst (v := 0) (pc' := 12) 5 rfl rfl (by decide) ?_
    exact v_bret 6 rfl rfl (by decide) (by decide) (by decide) ⟨_, rfl, rfl, h⟩
  replace h := h.2 hc
  refine v_iconst (v := 1) (pc' := 8) 3 rfl rfl (by decide) ?_
  refine v_goto (tgt := 12) 4 rfl (by decide) ?_
  exact v_bret 6 rfl rfl (by decide) (by decide) (by decide) ⟨_, rfl, rfl, h⟩
def W_X7_fail (p1 : Int32) (I : TI) (L : TL) (Q : TI → Prop) : Prop :=
  W_X7_failed I L (fun (r449 : Int32) => (¬ r449 = 0 → Q I) ∧ (r449 = 0 → Q (up2 (up2 I 344 6 p1) 344 7 ((up2 I 344 6 p1) 344 2))))
set_option maxHeartbeats 4000000 in
set_option maxRecDepth 100000 in
theorem ok_X7_fail {G : GT} {b d t : Nat} (p1 : Int32) (I : TI) (L : TL)  {Q : TI → Prop} (h : W_X7_fail p1 I L Q) : MW G Y_X7_fail [.ref 344, .int p1] (I, L, RT b d t, 457) (fun v9 u9 => ∃ (I9 : TI), v9 = none ∧ u9 = (I9, L, RT b d t, 457) ∧ Q I9) (fun _ _ => False) := by
  unfold W_X7_fail at h
  refine MW.intro rfl (by decide) is_X7_fail (Nat.le_of_ble_eq_true rfl) ?_
  show V G Y_X7_fail 0 [(0, .ref 344), (1, .int p1)] [] (I, L, RT b d t, 457) 0 0 _ _
  refine v_aload_n (pc' := 1) 0 0 rfl rfl rfl rfl ?_
  refine v_cV (Y2 := Y_X7_failed) (As := []) (b := 344) (pc' := 4) (c1 := 0) (s1 := 0) 1 rfl rfl mf_X7_failed rfl rfl ml_X7_46 mi_X7_failed se_X7_failed (ci := 6) rfl ly_344 (lay_lt ly_344 (by decide)) rfl (Nat.le_of_ble_eq_true rfl) ⟨Nat.le_of_ble_eq_true rfl, Nat.le_of_ble_eq_true rfl⟩ rfl rfl (ok_X7_failed I L h) ?_ ?_
  · intro e9 u9 hx9
    exact hx9.elim
  intro v9 u9 hv9
  obtain ⟨r449, rfl, rfl, h⟩ := hv9
  refine ⟨fun q => absurd q (Nat.lt_irrefl _), ?_⟩
  show V G Y_X7_fail 4 _ (.int r449 :: _) _ _ _ _ _
  refine v_if_ne (tgt := 20) (pc' := 7) 2 rfl rfl (by decide) (fun hc => ?_) (fun hc => ?_)
  · replace h := h.1 hc
    exact v_vret 10 rfl rfl (by decide) (by decide) ⟨_, rfl, rfl, h⟩
  replace h := h.2 hc
  refine v_aload_n (pc' := 8) 3 0 rfl rfl rfl rfl ?_
  refine v_iload_n (pc' := 9) 4 1 rfl rfl rfl rfl ?_
  refine v_putI (pc' := 12) 5 rfl rfl pf_X7_31 (fun q => absurd q (by decide)) ly_344 (lay_lt ly_344 (by decide)) ?_
  refine v_aload_n (pc' := 13) 6 0 rfl rfl rfl rfl ?_
  refine v_aload_n (pc' := 14) 7 0 rfl rfl rfl rfl ?_
  refine v_getI (pc' := 17) 8 rfl rfl pf_X7_19 ly_344 (lay_lt ly_344 (by decide)) ?_
  refine v_putI (pc' := 20) 9 rfl rfl pf_X7_34 (fun q => absurd q (by decide)) ly_344 (lay_lt ly_344 (by decide)) ?_
  exact v_vret 10 rfl rfl (by decide) (by decide) ⟨_, rfl, rfl, h⟩
def D_X7_scanWord_5 (L : TL) (t : Nat) (Q : TI → Prop) (R5 : TI → Prop) (I : TI) : Prop :=
  ((I 344 1) ≤ (I 344 3) → Q I) ∧ (¬ (I 344 1) ≤ (I 344 3) → vp_in (I 344 3) (LEN t) ∧ (((I t ((I 344 3).toNatClampNeg)) < 97 → Q I) ∧ (¬ (I t ((I 344 3).toNatClampNeg)) < 97 → vp_in (I 344 3) (LEN t) ∧ ((122 < (I t ((I 344 3).toNatClampNeg)) → Q I) ∧ (¬ 122 < (I t ((I 344 3).toNatClampNeg)) → R5 (up2 I 344 3 ((I 344 3) + 1)))))))
def L_X7_scanWord_5 (L : TL) (t : Nat) (Q : TI → Prop) : Nat → TI → Prop
  | 0, _ => False
  | n9 + 1, I => D_X7_scanWord_5 L t Q (fun I => L_X7_scanWord_5 L t Q n9 I) I
set_option maxHeartbeats 4000000 in
set_option maxRecDepth 100000 in
theorem d_X7_scanWord_5 {G : GT} {b d : Nat} (L : TL) (t : Nat) (ht : txOK t) (Q : TI → Prop) (R5 : TI → Prop)  (hR5 : ∀ (I : TI), R5 I → V G Y_X7_scanWord 5 [(0, .ref 344)] [] (I, L, RT b d t, 457) 0 0 (fun v9 u9 => ∃ (I9 : TI), v9 = none ∧ u9 = (I9, L, RT b d t, 457) ∧ Q I9) (fun _ _ => False)) (I : TI)  (h : D_X7_scanWord_5 L t Q R5 I) : V G Y_X7_scanWord 5 [(0, .ref 344)] [] (I, L, RT b d t, 457) 0 0 (fun v9 u9 => ∃ (I9 : TI), v9 = none ∧ u9 = (I9, L, RT b d t, 457) ∧ Q I9) (fun _ _ => False) := by
  unfold D_X7_scanWord_5 at h
  refine v_aload_n (pc' := 6) 3 0 rfl rfl rfl rfl ?_
  refine v_getI (pc' := 9) 4 rfl rfl pf_X7_22 ly_344 (lay_lt ly_344 (by decide)) ?_
  refine v_aload_n (pc' := 10) 5 0 rfl rfl rfl rfl ?_
  refine v_getI (pc' := 13) 6 rfl rfl pf_X7_15 ly_344 (lay_lt ly_344 (by decide)) ?_
  refine v_icmp_ge (tgt := 57) (pc' := 16) 7 rfl rfl (by decide) (fun hc => ?_) (fun hc => ?_)
  · replace h := h.1 hc
    exact v_vret 29 rfl rfl (by decide) (by decide) ⟨_, rfl, rfl, h⟩
  replace h := h.2 hc
  refine v_aload_n (pc' := 17) 8 0 rfl rfl rfl rfl ?_
  refine v_getR (t := t) (pc' := 20) 9 rfl rfl pf_X7_9 ly_344 (lay_lt ly_344 (by decide)) rt_344_0 ?_
  refine v_aload_n (pc' := 21) 10 0 rfl rfl rfl rfl ?_
  refine v_getI (pc' := 24) 11 rfl rfl pf_X7_22 ly_344 (lay_lt ly_344 (by decide)) ?_
  obtain ⟨hi454, h⟩ := h
  refine v_bald (i := (I 344 3)) (j := (I 344 3).toNatClampNeg) (pc' := 25) 12 rfl rfl (tx0l ht) rfl (lay_lt (tx0l ht) (by decide)) hi454 rfl ?_
  refine v_bipush (v := 97) (pc' := 27) 13 rfl rfl (by decide) ?_
  refine v_icmp_lt (tgt := 57) (pc' := 30) 14 rfl rfl (by decide) (fun hc => ?_) (fun hc => ?_)
  · replace h := h.1 hc
    exact v_vret 29 rfl rfl (by decide) (by decide) ⟨_, rfl, rfl, h⟩
  replace h := h.2 hc
  refine v_aload_n (pc' := 31) 15 0 rfl rfl rfl rfl ?_
  refine v_getR (t := t) (pc' := 34) 16 rfl rfl pf_X7_9 ly_344 (lay_lt ly_344 (by decide)) rt_344_0 ?_
  refine v_aload_n (pc' := 35) 17 0 rfl rfl rfl rfl ?_
  refine v_getI (pc' := 38) 18 rfl rfl pf_X7_22 ly_344 (lay_lt ly_344 (by decide)) ?_
  obtain ⟨hi455, h⟩ := h
  refine v_bald (i := (I 344 3)) (j := (I 344 3).toNatClampNeg) (pc' := 39) 19 rfl rfl (tx0l ht) rfl (lay_lt (tx0l ht) (by decide)) hi455 rfl ?_
  refine v_bipush (v := 122) (pc' := 41) 20 rfl rfl (by decide) ?_
  refine v_icmp_gt (tgt := 57) (pc' := 44) 21 rfl rfl (by decide) (fun hc => ?_) (fun hc => ?_)
  · replace h := h.1 hc
    exact v_vret 29 rfl rfl (by decide) (by decide) ⟨_, rfl, rfl, h⟩
  replace h := h.2 hc
  refine v_aload_n (pc' := 45) 22 0 rfl rfl rfl rfl ?_
  refine v_dup (pc' := 46) 23 rfl rfl rfl ?_
  refine v_getI (pc' := 49) 24 rfl rfl pf_X7_22 ly_344 (lay_lt ly_344 (by decide)) ?_
  refine v_iconst (v := 1) (pc' := 50) 25 rfl rfl (by decide) ?_
  refine v_iadd (pc' := 51) 26 rfl rfl ?_
  refine v_putI (pc' := 54) 27 rfl rfl pf_X7_22 (fun q => absurd q (by decide)) ly_344 (lay_lt ly_344 (by decide)) ?_
  refine v_goto (tgt := 5) 28 rfl (by decide) ?_
  exact hR5 (up2 I 344 3 ((I 344 3) + 1)) h
theorem l_X7_scanWord_5 {G : GT} {b d : Nat} (L : TL) (t : Nat) (ht : txOK t) (Q : TI → Prop)  : ∀ (n9 : Nat) (I : TI), L_X7_scanWord_5 L t Q n9 I → V G Y_X7_scanWord 5 [(0, .ref 344)] [] (I, L, RT b d t, 457) 0 0 (fun v9 u9 => ∃ (I9 : TI), v9 = none ∧ u9 = (I9, L, RT b d t, 457) ∧ Q I9) (fun _ _ => False)
  | 0, _, h => h.elim
  | n9 + 1, I, h => d_X7_scanWord_5 L t ht Q _ (l_X7_scanWord_5 L t ht Q n9) I h
def W_X7_scanWord (I : TI) (L : TL) (t : Nat) (Q : TI → Prop) : Prop :=
  ∃ n456, L_X7_scanWord_5 L t Q n456 (up2 I 344 4 1)
set_option maxHeartbeats 4000000 in
set_option maxRecDepth 100000 in
theorem ok_X7_scanWord {G : GT} {b d : Nat} (I : TI) (L : TL) (t : Nat) (ht : txOK t) {Q : TI → Prop} (h : W_X7_scanWord I L t Q) : MW G Y_X7_scanWord [.ref 344] (I, L, RT b d t, 457) (fun v9 u9 => ∃ (I9 : TI), v9 = none ∧ u9 = (I9, L, RT b d t, 457) ∧ Q I9) (fun _ _ => False) := by
  unfold W_X7_scanWord at h
  refine MW.intro rfl (by decide) is_X7_scanWord (Nat.le_of_ble_eq_true rfl) ?_
  show V G Y_X7_scanWord 0 [(0, .ref 344)] [] (I, L, RT b d t, 457) 0 0 _ _
  refine v_aload_n (pc' := 1) 0 0 rfl rfl rfl rfl ?_
  refine v_iconst (v := 1) (pc' := 2) 1 rfl rfl (by decide) ?_
  refine v_putI (pc' := 5) 2 rfl rfl pf_X7_25 (fun q => absurd q (by decide)) ly_344 (lay_lt ly_344 (by decide)) ?_
  obtain ⟨n456, h⟩ := h
  exact l_X7_scanWord_5 L t ht Q n456 (up2 I 344 4 1) h
def D_X7_scanNumber_10 (L : TL) (t : Nat) (Q : TI → Prop) (R10 : TI → Prop) (I : TI) : Prop :=
  ((I 344 1) ≤ (I 344 3) → Q I) ∧ (¬ (I 344 1) ≤ (I 344 3) → vp_in (I 344 3) (LEN t) ∧ (((I t ((I 344 3).toNatClampNeg)) < 48 → Q I) ∧ (¬ (I t ((I 344 3).toNatClampNeg)) < 48 → vp_in (I 344 3) (LEN t) ∧ ((57 < (I t ((I 344 3).toNatClampNeg)) → Q I) ∧ (¬ 57 < (I t ((I 344 3).toNatClampNeg)) → vp_in (I 344 3) (LEN t) ∧ (∀ I466 : TI, I466 = (up2 I 344 5 (mnI ((((10 : Int32) * (I 344 5)) + (I t ((I 344 3).toNatClampNeg))) - 48) (1000000 : Int32))) → (R10 (up2 I466 344 3 ((I466 344 3) + 1)))))))))
def L_X7_scanNumber_10 (L : TL) (t : Nat) (Q : TI → Prop) : Nat → TI → Prop
  | 0, _ => False
  | n9 + 1, I => D_X7_scanNumber_10 L t Q (fun I => L_X7_scanNumber_10 L t Q n9 I) I
set_option maxHeartbeats 4000000 in
set_option maxRecDepth 100000 in
theorem d_X7_scanNumber_10 {G : GT} {b d : Nat} (L : TL) (t : Nat) (ht : txOK t) (Q : TI → Prop) (R10 : TI → Prop)  (hR10 : ∀ (I : TI), R10 I → V G Y_X7_scanNumber 10 [(0, .ref 344)] [] (I, L, RT b d t, 457) 0 0 (fun v9 u9 => ∃ (I9 : TI), v9 = none ∧ u9 = (I9, L, RT b d t, 457) ∧ Q I9) (fun _ _ => False)) (I : TI)  (h : D_X7_scanNumber_10 L t Q R10 I) : V G Y_X7_scanNumber 10 [(0, .ref 344)] [] (I, L, RT b d t, 457) 0 0 (fun v9 u9 => ∃ (I9 : TI), v9 = none ∧ u9 = (I9, L, RT b d t, 457) ∧ Q I9) (fun _ _ => False) := by
  unfold D_X7_scanNumber_10 at h
  refine v_aload_n (pc' := 11) 6 0 rfl rfl rfl rfl ?_
  refine v_getI (pc' := 14) 7 rfl rfl pf_X7_22 ly_344 (lay_lt ly_344 (by decide)) ?_
  refine v_aload_n (pc' := 15) 8 0 rfl rfl rfl rfl ?_
  refine v_getI (pc' := 18) 9 rfl rfl pf_X7_15 ly_344 (lay_lt ly_344 (by decide)) ?_
  refine v_icmp_ge (tgt := 91) (pc' := 21) 10 rfl rfl (by decide) (fun hc => ?_) (fun hc => ?_)
  · replace h := h.1 hc
    exact v_vret 48 rfl rfl (by decide) (by decide) ⟨_, rfl, rfl, h⟩
  replace h := h.2 hc
  refine v_aload_n (pc' := 22) 11 0 rfl rfl rfl rfl ?_
  refine v_getR (t := t) (pc' := 25) 12 rfl rfl pf_X7_9 ly_344 (lay_lt ly_344 (by decide)) rt_344_0 ?_
  refine v_aload_n (pc' := 26) 13 0 rfl rfl rfl rfl ?_
  refine v_getI (pc' := 29) 14 rfl rfl pf_X7_22 ly_344 (lay_lt ly_344 (by decide)) ?_
  obtain ⟨hi463, h⟩ := h
  refine v_bald (i := (I 344 3)) (j := (I 344 3).toNatClampNeg) (pc' := 30) 15 rfl rfl (tx0l ht) rfl (lay_lt (tx0l ht) (by decide)) hi463 rfl ?_
  refine v_bipush (v := 48) (pc' := 32) 16 rfl rfl (by decide) ?_
  refine v_icmp_lt (tgt := 91) (pc' := 35) 17 rfl rfl (by decide) (fun hc => ?_) (fun hc => ?_)
  · replace h := h.1 hc
    exact v_vret 48 rfl rfl (by decide) (by decide) ⟨_, rfl, rfl, h⟩
  replace h := h.2 hc
  refine v_aload_n (pc' := 36) 18 0 rfl rfl rfl rfl ?_
  refine v_getR (t := t) (pc' := 39) 19 rfl rfl pf_X7_9 ly_344 (lay_lt ly_344 (by decide)) rt_344_0 ?_
  refine v_aload_n (pc' := 40) 20 0 rfl rfl rfl rfl ?_
  refine v_getI (pc' := 43) 21 rfl rfl pf_X7_22 ly_344 (lay_lt ly_344 (by decide)) ?_
  obtain ⟨hi464, h⟩ := h
  refine v_bald (i := (I 344 3)) (j := (I 344 3).toNatClampNeg) (pc' := 44) 22 rfl rfl (tx0l ht) rfl (lay_lt (tx0l ht) (by decide)) hi464 rfl ?_
  refine v_bipush (v := 57) (pc' := 46) 23 rfl rfl (by decide) ?_
  refine v_icmp_gt (tgt := 91) (pc' := 49) 24 rfl rfl (by decide) (fun hc => ?_) (fun hc => ?_)
  · replace h := h.1 hc
    exact v_vret 48 rfl rfl (by decide) (by decide) ⟨_, rfl, rfl, h⟩
  replace h := h.2 hc
  refine v_aload_n (pc' := 50) 25 0 rfl rfl rfl rfl ?_
  refine v_bipush (v := 10) (pc' := 52) 26 rfl rfl (by decide) ?_
  refine v_aload_n (pc' := 53) 27 0 rfl rfl rfl rfl ?_
  refine v_getI (pc' := 56) 28 rfl rfl pf_X7_28 ly_344 (lay_lt ly_344 (by decide)) ?_
  refine v_imul (pc' := 57) 29 rfl rfl ?_
  refine v_aload_n (pc' := 58) 30 0 rfl rfl rfl rfl ?_
  refine v_getR (t := t) (pc' := 61) 31 rfl rfl pf_X7_9 ly_344 (lay_lt ly_344 (by decide)) rt_344_0 ?_
  refine v_aload_n (pc' := 62) 32 0 rfl rfl rfl rfl ?_
  refine v_getI (pc' := 65) 33 rfl rfl pf_X7_22 ly_344 (lay_lt ly_344 (by decide)) ?_
  obtain ⟨hi465, h⟩ := h
  refine v_bald (i := (I 344 3)) (j := (I 344 3).toNatClampNeg) (pc' := 66) 34 rfl rfl (tx0l ht) rfl (lay_lt (tx0l ht) (by decide)) hi465 rfl ?_
  refine v_iadd (pc' := 67) 35 rfl rfl ?_
  refine v_bipush (v := 48) (pc' := 69) 36 rfl rfl (by decide) ?_
  refine v_isub (pc' := 70) 37 rfl rfl ?_
  refine v_ldc (v := 1000000) (pc' := 72) 38 rfl rfl ki_X7_56 ?_
  refine v_mmin (pc' := 75) 39 rfl rfl mm_X7_37 (Nat.le_of_ble_eq_true rfl) (by decide) (by decide) ⟨Nat.le_of_ble_eq_true rfl, Nat.le_of_ble_eq_true rfl⟩ ?_
  refine v_putI (pc' := 78) 40 rfl rfl pf_X7_28 (fun q => absurd q (by decide)) ly_344 (lay_lt ly_344 (by decide)) ?_
  refine nm_M (e := (up2 I 344 5 (mnI ((((10 : Int32) * (I 344 5)) + (I t ((I 344 3).toNatClampNeg))) - 48) (1000000 : Int32)))) (fun I466 hI466 => ?_)
  replace h := h I466 hI466
  refine v_aload_n (pc' := 79) 41 0 rfl rfl rfl rfl ?_
  refine v_dup (pc' := 80) 42 rfl rfl rfl ?_
  refine v_getI (pc' := 83) 43 rfl rfl pf_X7_22 ly_344 (lay_lt ly_344 (by decide)) ?_
  refine v_iconst (v := 1) (pc' := 84) 44 rfl rfl (by decide) ?_
  refine v_iadd (pc' := 85) 45 rfl rfl ?_
  refine v_putI (pc' := 88) 46 rfl rfl pf_X7_22 (fun q => absurd q (by decide)) ly_344 (lay_lt ly_344 (by decide)) ?_
  refine v_goto (tgt := 10) 47 rfl (by decide) ?_
  exact hR10 (up2 I466 344 3 ((I466 344 3) + 1)) h
theorem l_X7_scanNumber_10 {G : GT} {b d : Nat} (L : TL) (t : Nat) (ht : txOK t) (Q : TI → Prop)  : ∀ (n9 : Nat) (I : TI), L_X7_scanNumber_10 L t Q n9 I → V G Y_X7_scanNumber 10 [(0, .ref 344)] [] (I, L, RT b d t, 457) 0 0 (fun v9 u9 => ∃ (I9 : TI), v9 = none ∧ u9 = (I9, L, RT b d t, 457) ∧ Q I9) (fun _ _ => False)
  | 0, _, h => h.elim
  | n9 + 1, I, h => d_X7_scanNumber_10 L t ht Q _ (l_X7_scanNumber_10 L t ht Q n9) I h
def W_X7_scanNumber (I : TI) (L : TL) (t : Nat) (Q : TI → Prop) : Prop :=
  ∃ n467, L_X7_scanNumber_10 L t Q n467 (up2 (up2 I 344 4 2) 344 5 0)
set_option maxHeartbeats 4000000 in
set_option maxRecDepth 100000 in
theorem ok_X7_scanNumber {G : GT} {b d : Nat} (I : TI) (L : TL) (t : Nat) (ht : txOK t) {Q : TI → Prop} (h : W_X7_scanNumber I L t Q) : MW G Y_X7_scanNumber [.ref 344] (I, L, RT b d t, 457) (fun v9 u9 => ∃ (I9 : TI), v9 = none ∧ u9 = (I9, L, RT b d t, 457) ∧ Q I9) (fun _ _ => False) := by
  unfold W_X7_scanNumber at h
  refine MW.intro rfl (by decide) is_X7_scanNumber (Nat.le_of_ble_eq_true rfl) ?_
  show V G Y_X7_scanNumber 0 [(0, .ref 344)] [] (I, L, RT b d t, 457) 0 0 _ _
  refine v_aload_n (pc' := 1) 0 0 rfl rfl rfl rfl ?_
  refine v_iconst (v := 2) (pc' := 2) 1 rfl rfl (by decide) ?_
  refine v_putI (pc' := 5) 2 rfl rfl pf_X7_25 (fun q => absurd q (by decide)) ly_344 (lay_lt ly_344 (by decide)) ?_
  refine v_aload_n (pc' := 6) 3 0 rfl rfl rfl rfl ?_
  refine v_iconst (v := 0) (pc' := 7) 4 rfl rfl (by decide) ?_
  refine v_putI (pc' := 10) 5 rfl rfl pf_X7_28 (fun q => absurd q (by decide)) ly_344 (lay_lt ly_344 (by decide)) ?_
  obtain ⟨n467, h⟩ := h
  exact l_X7_scanNumber_10 L t ht Q n467 (up2 (up2 I 344 4 2) 344 5 0) h
def B_X7_advance_157 (I : TI) (L : TL) (t : Nat) (Q : TI → Prop) : Prop :=
  Q (up2 (up2 I 344 4 3) 344 3 (((up2 I 344 4 3) 344 3) + 1))
set_option maxHeartbeats 4000000 in
set_option maxRecDepth 100000 in
theorem b_X7_advance_157 {G : GT} {b d : Nat} (I : TI) (L : TL) (t : Nat) (ht : txOK t) (Q : TI → Prop)  (h : B_X7_advance_157 I L t Q) : V G Y_X7_advance 157 [(0, .ref 344)] [] (I, L, RT b d t, 457) 0 0 (fun v9 u9 => ∃ (I9 : TI), v9 = none ∧ u9 = (I9, L, RT b d t, 457) ∧ Q I9) (fun _ _ => False) := by
  unfold B_X7_advance_157 at h
  refine v_aload_n (pc' := 158) 77 0 rfl rfl rfl rfl ?_
  refine v_iconst (v := 3) (pc' := 159) 78 rfl rfl (by decide) ?_
  refine v_putI (pc' := 162) 79 rfl rfl pf_X7_25 (fun q => absurd q (by decide)) ly_344 (lay_lt ly_344 (by decide)) ?_
  refine v_aload_n (pc' := 163) 80 0 rfl rfl rfl rfl ?_
  refine v_dup (pc' := 164) 81 rfl rfl rfl ?_
  refine v_getI (pc' := 167) 82 rfl rfl pf_X7_22 ly_344 (lay_lt ly_344 (by decide)) ?_
  refine v_iconst (v := 1) (pc' := 168) 83 rfl rfl (by decide) ?_
  refine v_iadd (pc' := 169) 84 rfl rfl ?_
  refine v_putI (pc' := 172) 85 rfl rfl pf_X7_22 (fun q => absurd q (by decide)) ly_344 (lay_lt ly_344 (by decide)) ?_
  exact v_vret 86 rfl rfl (by decide) (by decide) ⟨_, rfl, rfl, h⟩
def B_X7_advance_122 (I : TI) (L : TL) (t : Nat) (Q : TI → Prop) : Prop :=
  vp_in (I 344 2) (LEN t) ∧ (((I t ((I 344 2).toNatClampNeg)) < 48 → B_X7_advance_157 I L t Q) ∧ (¬ (I t ((I 344 2).toNatClampNeg)) < 48 → vp_in (I 344 2) (LEN t) ∧ ((57 < (I t ((I 344 2).toNatClampNeg)) → B_X7_advance_157 I L t Q) ∧ (¬ 57 < (I t ((I 344 2).toNatClampNeg)) → W_X7_scanNumber I L t (fun (I497 : TI) => Q I497)))))
set_option maxHeartbeats 4000000 in
set_option maxRecDepth 100000 in
theorem b_X7_advance_122 {G : GT} {b d : Nat} (I : TI) (L : TL) (t : Nat) (ht : txOK t) (Q : TI → Prop)  (h : B_X7_advance_122 I L t Q) : V G Y_X7_advance 122 [(0, .ref 344)] [] (I, L, RT b d t, 457) 0 0 (fun v9 u9 => ∃ (I9 : TI), v9 = none ∧ u9 = (I9, L, RT b d t, 457) ∧ Q I9) (fun _ _ => False) := by
  unfold B_X7_advance_122 at h
  refine v_aload_n (pc' := 123) 60 0 rfl rfl rfl rfl ?_
  refine v_getR (t := t) (pc' := 126) 61 rfl rfl pf_X7_9 ly_344 (lay_lt ly_344 (by decide)) rt_344_0 ?_
  refine v_aload_n (pc' := 127) 62 0 rfl rfl rfl rfl ?_
  refine v_getI (pc' := 130) 63 rfl rfl pf_X7_19 ly_344 (lay_lt ly_344 (by decide)) ?_
  obtain ⟨hi495, h⟩ := h
  refine v_bald (i := (I 344 2)) (j := (I 344 2).toNatClampNeg) (pc' := 131) 64 rfl rfl (tx0l ht) rfl (lay_lt (tx0l ht) (by decide)) hi495 rfl ?_
  refine v_bipush (v := 48) (pc' := 133) 65 rfl rfl (by decide) ?_
  refine v_icmp_lt (tgt := 157) (pc' := 136) 66 rfl rfl (by decide) (fun hc => ?_) (fun hc => ?_)
  · replace h := h.1 hc
    exact b_X7_advance_157 I L t ht Q h
  replace h := h.2 hc
  refine v_aload_n (pc' := 137) 67 0 rfl rfl rfl rfl ?_
  refine v_getR (t := t) (pc' := 140) 68 rfl rfl pf_X7_9 ly_344 (lay_lt ly_344 (by decide)) rt_344_0 ?_
  refine v_aload_n (pc' := 141) 69 0 rfl rfl rfl rfl ?_
  refine v_getI (pc' := 144) 70 rfl rfl pf_X7_19 ly_344 (lay_lt ly_344 (by decide)) ?_
  obtain ⟨hi496, h⟩ := h
  refine v_bald (i := (I 344 2)) (j := (I 344 2).toNatClampNeg) (pc' := 145) 71 rfl rfl (tx0l ht) rfl (lay_lt (tx0l ht) (by decide)) hi496 rfl ?_
  refine v_bipush (v := 57) (pc' := 147) 72 rfl rfl (by decide) ?_
  refine v_icmp_gt (tgt := 157) (pc' := 150) 73 rfl rfl (by decide) (fun hc => ?_) (fun hc => ?_)
  · replace h := h.1 hc
    exact b_X7_advance_157 I L t ht Q h
  replace h := h.2 hc
  refine v_aload_n (pc' := 151) 74 0 rfl rfl rfl rfl ?_
  refine v_cV (Y2 := Y_X7_scanNumber) (As := []) (b := 344) (pc' := 154) (c1 := 0) (s1 := 0) 75 rfl rfl mf_X7_scanNumber rfl rfl ml_X7_53 mi_X7_scanNumber se_X7_scanNumber (ci := 6) rfl ly_344 (lay_lt ly_344 (by decide)) rfl (Nat.le_of_ble_eq_true rfl) ⟨Nat.le_of_ble_eq_true rfl, Nat.le_of_ble_eq_true rfl⟩ rfl rfl (ok_X7_scanNumber I L t ht h) ?_ ?_
  · intro e9 u9 hx9
    exact hx9.elim
  intro v9 u9 hv9
  obtain ⟨I497, rfl, rfl, h⟩ := hv9
  refine ⟨fun q => absurd q (Nat.lt_irrefl _), ?_⟩
  show V G Y_X7_advance 154 _ _ _ _ _ _ _
  refine v_goto (tgt := 172) 76 rfl (by decide) ?_
  exact v_vret 86 rfl rfl (by decide) (by decide) ⟨_, rfl, rfl, h⟩
def B_X7_advance_60 (I : TI) (L : TL) (t : Nat) (Q : TI → Prop) : Prop :=
  (((up2 I 344 2 (I 344 3)) 344 2) < ((up2 I 344 2 (I 344 3)) 344 1) → vp_in ((up2 I 344 2 (I 344 3)) 344 2) (LEN t) ∧ ((((up2 I 344 2 (I 344 3)) t (((up2 I 344 2 (I 344 3)) 344 2).toNatClampNeg)) < 97 → B_X7_advance_122 (up2 I 344 2 (I 344 3)) L t Q) ∧ (¬ ((up2 I 344 2 (I 344 3)) t (((up2 I 344 2 (I 344 3)) 344 2).toNatClampNeg)) < 97 → vp_in ((up2 I 344 2 (I 344 3)) 344 2) (LEN t) ∧ ((122 < ((up2 I 344 2 (I 344 3)) t (((up2 I 344 2 (I 344 3)) 344 2).toNatClampNeg)) → B_X7_advance_122 (up2 I 344 2 (I 344 3)) L t Q) ∧ (¬ 122 < ((up2 I 344 2 (I 344 3)) t (((up2 I 344 2 (I 344 3)) 344 2).toNatClampNeg)) → W_X7_scanWord (up2 I 344 2 (I 344 3)) L t (fun (I500 : TI) => Q I500)))))) ∧ (¬ ((up2 I 344 2 (I 344 3)) 344 2) < ((up2 I 344 2 (I 344 3)) 344 1) → Q (up2 (up2 I 344 2 (I 344 3)) 344 4 0))
set_option maxHeartbeats 4000000 in
set_option maxRecDepth 100000 in
theorem b_X7_advance_60 {G : GT} {b d : Nat} (I : TI) (L : TL) (t : Nat) (ht : txOK t) (Q : TI → Prop)  (h : B_X7_advance_60 I L t Q) : V G Y_X7_advance 60 [(0, .ref 344)] [] (I, L, RT b d t, 457) 0 0 (fun v9 u9 => ∃ (I9 : TI), v9 = none ∧ u9 = (I9, L, RT b d t, 457) ∧ Q I9) (fun _ _ => False) := by
  unfold B_X7_advance_60 at h
  refine v_aload_n (pc' := 61) 30 0 rfl rfl rfl rfl ?_
  refine v_aload_n (pc' := 62) 31 0 rfl rfl rfl rfl ?_
  refine v_getI (pc' := 65) 32 rfl rfl pf_X7_22 ly_344 (lay_lt ly_344 (by decide)) ?_
  refine v_putI (pc' := 68) 33 rfl rfl pf_X7_19 (fun q => absurd q (by decide)) ly_344 (lay_lt ly_344 (by decide)) ?_
  refine v_aload_n (pc' := 69) 34 0 rfl rfl rfl rfl ?_
  refine v_getI (pc' := 72) 35 rfl rfl pf_X7_19 ly_344 (lay_lt ly_344 (by decide)) ?_
  refine v_aload_n (pc' := 73) 36 0 rfl rfl rfl rfl ?_
  refine v_getI (pc' := 76) 37 rfl rfl pf_X7_15 ly_344 (lay_lt ly_344 (by decide)) ?_
  refine v_icmp_lt (tgt := 87) (pc' := 79) 38 rfl rfl (by decide) (fun hc => ?_) (fun hc => ?_)
  · replace h := h.1 hc
    refine v_aload_n (pc' := 88) 43 0 rfl rfl rfl rfl ?_
    refine v_getR (t := t) (pc' := 91) 44 rfl rfl pf_X7_9 ly_344 (lay_lt ly_344 (by decide)) rt_344_0 ?_
    refine v_aload_n (pc' := 92) 45 0 rfl rfl rfl rfl ?_
    refine v_getI (pc' := 95) 46 rfl rfl pf_X7_19 ly_344 (lay_lt ly_344 (by decide)) ?_
    obtain ⟨hi498, h⟩ := h
    refine v_bald (i := ((up2 I 344 2 (I 344 3)) 344 2)) (j := ((up2 I 344 2 (I 344 3)) 344 2).toNatClampNeg) (pc' := 96) 47 rfl rfl (tx0l ht) rfl (lay_lt (tx0l ht) (by decide)) hi498 rfl ?_
    refine v_bipush (v := 97) (pc' := 98) 48 rfl rfl (by decide) ?_
    refine v_icmp_lt (tgt := 122) (pc' := 101) 49 rfl rfl (by decide) (fun hc => ?_) (fun hc => ?_)
    · replace h := h.1 hc
      exact b_X7_advance_122 (up2 I 344 2 (I 344 3)) L t ht Q h
    replace h := h.2 hc
    refine v_aload_n (pc' := 102) 50 0 rfl rfl rfl rfl ?_
    refine v_getR (t := t) (pc' := 105) 51 rfl rfl pf_X7_9 ly_344 (lay_lt ly_344 (by decide)) rt_344_0 ?_
    refine v_aload_n (pc' := 106) 52 0 rfl rfl rfl rfl ?_
    refine v_getI (pc' := 109) 53 rfl rfl pf_X7_19 ly_344 (lay_lt ly_344 (by decide)) ?_
    obtain ⟨hi499, h⟩ := h
    refine v_bald (i := ((up2 I 344 2 (I 344 3)) 344 2)) (j := ((up2 I 344 2 (I 344 3)) 344 2).toNatClampNeg) (pc' := 110) 54 rfl rfl (tx0l ht) rfl (lay_lt (tx0l ht) (by decide)) hi499 rfl ?_
    refine v_bipush (v := 122) (pc' := 112) 55 rfl rfl (by decide) ?_
    refine v_icmp_gt (tgt := 122) (pc' := 115) 56 rfl rfl (by decide) (fun hc => ?_) (fun hc => ?_)
    · replace h := h.1 hc
      exact b_X7_advance_122 (up2 I 344 2 (I 344 3)) L t ht Q h
    replace h := h.2 hc
    refine v_aload_n (pc' := 116) 57 0 rfl rfl rfl rfl ?_
    refine v_cV (Y2 := Y_X7_scanWord) (As := []) (b := 344) (pc' := 119) (c1 := 0) (s1 := 0) 58 rfl rfl mf_X7_scanWord rfl rfl ml_X7_50 mi_X7_scanWord se_X7_scanWord (ci := 6) rfl ly_344 (lay_lt ly_344 (by decide)) rfl (Nat.le_of_ble_eq_true rfl) ⟨Nat.le_of_ble_eq_true rfl, Nat.le_of_ble_eq_true rfl⟩ rfl rfl (ok_X7_scanWord (up2 I 344 2 (I 344 3)) L t ht h) ?_ ?_
    · intro e9 u9 hx9
      exact hx9.elim
    intro v9 u9 hv9
    obtain ⟨I500, rfl, rfl, h⟩ := hv9
    refine ⟨fun q => absurd q (Nat.lt_irrefl _), ?_⟩
    show V G Y_X7_advance 119 _ _ _ _ _ _ _
    refine v_goto (tgt := 172) 59 rfl (by decide) ?_
    exact v_vret 86 rfl rfl (by decide) (by decide) ⟨_, rfl, rfl, h⟩
  replace h := h.2 hc
  refine v_aload_n (pc' := 80) 39 0 rfl rfl rfl rfl ?_
  refine v_iconst (v := 0) (pc' := 81) 40 rfl rfl (by decide) ?_
  refine v_putI (pc' := 84) 41 rfl rfl pf_X7_25 (fun q => absurd q (by decide)) ly_344 (lay_lt ly_344 (by decide)) ?_
  refine v_goto (tgt := 172) 42 rfl (by decide) ?_
  exact v_vret 86 rfl rfl (by decide) (by decide) ⟨_, rfl, rfl, h⟩
def B_X7_advance_47 (I : TI) (L : TL) (t : Nat) (Q : TI → Prop) (R8 : TI → Prop) : Prop :=
  R8 (up2 I 344 3 ((I 344 3) + 1))
set_option maxHeartbeats 4000000 in
set_option maxRecDepth 100000 in
theorem b_X7_advance_47 {G : GT} {b d : Nat} (I : TI) (L : TL) (t : Nat) (ht : txOK t) (Q : TI → Prop) (R8 : TI → Prop) (hR8 : ∀ (I : TI), R8 I → V G Y_X7_advance 8 [(0, .ref 344)] [] (I, L, RT b d t, 457) 0 0 (fun v9 u9 => ∃ (I9 : TI), v9 = none ∧ u9 = (I9, L, RT b d t, 457) ∧ Q I9) (fun _ _ => False)) (h : B_X7_advance_47 I L t Q R8) : V G Y_X7_advance 47 [(0, .ref 344)] [] (I, L, RT b d t, 457) 0 0 (fun v9 u9 => ∃ (I9 : TI), v9 = none ∧ u9 = (I9, L, RT b d t, 457) ∧ Q I9) (fun _ _ => False) := by
  unfold B_X7_advance_47 at h
  refine v_aload_n (pc' := 48) 23 0 rfl rfl rfl rfl ?_
  refine v_dup (pc' := 49) 24 rfl rfl rfl ?_
  refine v_getI (pc' := 52) 25 rfl rfl pf_X7_22 ly_344 (lay_lt ly_344 (by decide)) ?_
  refine v_iconst (v := 1) (pc' := 53) 26 rfl rfl (by decide) ?_
  refine v_iadd (pc' := 54) 27 rfl rfl ?_
  refine v_putI (pc' := 57) 28 rfl rfl pf_X7_22 (fun q => absurd q (by decide)) ly_344 (lay_lt ly_344 (by decide)) ?_
  refine v_goto (tgt := 8) 29 rfl (by decide) ?_
  exact hR8 (up2 I 344 3 ((I 344 3) + 1)) h
def D_X7_advance_8 (L : TL) (t : Nat) (Q : TI → Prop) (R8 : TI → Prop) (I : TI) : Prop :=
  ((I 344 1) ≤ (I 344 3) → B_X7_advance_60 I L t Q) ∧ (¬ (I 344 1) ≤ (I 344 3) → vp_in (I 344 3) (LEN t) ∧ (((I t ((I 344 3).toNatClampNeg)) = 32 → B_X7_advance_47 I L t Q R8) ∧ (¬ (I t ((I 344 3).toNatClampNeg)) = 32 → vp_in (I 344 3) (LEN t) ∧ ((¬ (I t ((I 344 3).toNatClampNeg)) = 10 → B_X7_advance_60 I L t Q) ∧ ((I t ((I 344 3).toNatClampNeg)) = 10 → B_X7_advance_47 I L t Q R8)))))
def L_X7_advance_8 (L : TL) (t : Nat) (Q : TI → Prop) : Nat → TI → Prop
  | 0, _ => False
  | n9 + 1, I => D_X7_advance_8 L t Q (fun I => L_X7_advance_8 L t Q n9 I) I
set_option maxHeartbeats 4000000 in
set_option maxRecDepth 100000 in
theorem d_X7_advance_8 {G : GT} {b d : Nat} (L : TL) (t : Nat) (ht : txOK t) (Q : TI → Prop) (R8 : TI → Prop)  (hR8 : ∀ (I : TI), R8 I → V G Y_X7_advance 8 [(0, .ref 344)] [] (I, L, RT b d t, 457) 0 0 (fun v9 u9 => ∃ (I9 : TI), v9 = none ∧ u9 = (I9, L, RT b d t, 457) ∧ Q I9) (fun _ _ => False)) (I : TI)  (h : D_X7_advance_8 L t Q R8 I) : V G Y_X7_advance 8 [(0, .ref 344)] [] (I, L, RT b d t, 457) 0 0 (fun v9 u9 => ∃ (I9 : TI), v9 = none ∧ u9 = (I9, L, RT b d t, 457) ∧ Q I9) (fun _ _ => False) := by
  unfold D_X7_advance_8 at h
  refine v_aload_n (pc' := 9) 4 0 rfl rfl rfl rfl ?_
  refine v_getI (pc' := 12) 5 rfl rfl pf_X7_22 ly_344 (lay_lt ly_344 (by decide)) ?_
  refine v_aload_n (pc' := 13) 6 0 rfl rfl rfl rfl ?_
  refine v_getI (pc' := 16) 7 rfl rfl pf_X7_15 ly_344 (lay_lt ly_344 (by decide)) ?_
  refine v_icmp_ge (tgt := 60) (pc' := 19) 8 rfl rfl (by decide) (fun hc => ?_) (fun hc => ?_)
  · replace h := h.1 hc
    exact b_X7_advance_60 I L t ht Q h
  replace h := h.2 hc
  refine v_aload_n (pc' := 20) 9 0 rfl rfl rfl rfl ?_
  refine v_getR (t := t) (pc' := 23) 10 rfl rfl pf_X7_9 ly_344 (lay_lt ly_344 (by decide)) rt_344_0 ?_
  refine v_aload_n (pc' := 24) 11 0 rfl rfl rfl rfl ?_
  refine v_getI (pc' := 27) 12 rfl rfl pf_X7_22 ly_344 (lay_lt ly_344 (by decide)) ?_
  obtain ⟨hi501, h⟩ := h
  refine v_bald (i := (I 344 3)) (j := (I 344 3).toNatClampNeg) (pc' := 28) 13 rfl rfl (tx0l ht) rfl (lay_lt (tx0l ht) (by decide)) hi501 rfl ?_
  refine v_bipush (v := 32) (pc' := 30) 14 rfl rfl (by decide) ?_
  refine v_icmp_eq (tgt := 47) (pc' := 33) 15 rfl rfl (by decide) (fun hc => ?_) (fun hc => ?_)
  · replace h := h.1 hc
    exact b_X7_advance_47 I L t ht Q R8 hR8 h
  replace h := h.2 hc
  refine v_aload_n (pc' := 34) 16 0 rfl rfl rfl rfl ?_
  refine v_getR (t := t) (pc' := 37) 17 rfl rfl pf_X7_9 ly_344 (lay_lt ly_344 (by decide)) rt_344_0 ?_
  refine v_aload_n (pc' := 38) 18 0 rfl rfl rfl rfl ?_
  refine v_getI (pc' := 41) 19 rfl rfl pf_X7_22 ly_344 (lay_lt ly_344 (by decide)) ?_
  obtain ⟨hi502, h⟩ := h
  refine v_bald (i := (I 344 3)) (j := (I 344 3).toNatClampNeg) (pc' := 42) 20 rfl rfl (tx0l ht) rfl (lay_lt (tx0l ht) (by decide)) hi502 rfl ?_
  refine v_bipush (v := 10) (pc' := 44) 21 rfl rfl (by decide) ?_
  refine v_icmp_ne (tgt := 60) (pc' := 47) 22 rfl rfl (by decide) (fun hc => ?_) (fun hc => ?_)
  · replace h := h.1 hc
    exact b_X7_advance_60 I L t ht Q h
  replace h := h.2 hc
  exact b_X7_advance_47 I L t ht Q R8 hR8 h
theorem l_X7_advance_8 {G : GT} {b d : Nat} (L : TL) (t : Nat) (ht : txOK t) (Q : TI → Prop)  : ∀ (n9 : Nat) (I : TI), L_X7_advance_8 L t Q n9 I → V G Y_X7_advance 8 [(0, .ref 344)] [] (I, L, RT b d t, 457) 0 0 (fun v9 u9 => ∃ (I9 : TI), v9 = none ∧ u9 = (I9, L, RT b d t, 457) ∧ Q I9) (fun _ _ => False)
  | 0, _, h => h.elim
  | n9 + 1, I, h => d_X7_advance_8 L t ht Q _ (l_X7_advance_8 L t ht Q n9) I h
def W_X7_advance (I : TI) (L : TL) (t : Nat) (Q : TI → Prop) : Prop :=
  W_X7_failed I L (fun (r503 : Int32) => (r503 = 0 → ∃ n504, L_X7_advance_8 L t Q n504 I) ∧ (¬ r503 = 0 → Q I))
set_option maxHeartbeats 4000000 in
set_option maxRecDepth 100000 in
theorem ok_X7_advance {G : GT} {b d : Nat} (I : TI) (L : TL) (t : Nat) (ht : txOK t) {Q : TI → Prop} (h : W_X7_advance I L t Q) : MW G Y_X7_advance [.ref 344] (I, L, RT b d t, 457) (fun v9 u9 => ∃ (I9 : TI), v9 = none ∧ u9 = (I9, L, RT b d t, 457) ∧ Q I9) (fun _ _ => False) := by
  unfold W_X7_advance at h
  refine MW.intro rfl (by decide) is_X7_advance (Nat.le_of_ble_eq_true rfl) ?_
  show V G Y_X7_advance 0 [(0, .ref 344)] [] (I, L, RT b d t, 457) 0 0 _ _
  refine v_aload_n (pc' := 1) 0 0 rfl rfl rfl rfl ?_
  refine v_cV (Y2 := Y_X7_failed) (As := []) (b := 344) (pc' := 4) (c1 := 0) (s1 := 0) 1 rfl rfl mf_X7_failed rfl rfl ml_X7_46 mi_X7_failed se_X7_failed (ci := 6) rfl ly_344 (lay_lt ly_344 (by decide)) rfl (Nat.le_of_ble_eq_true rfl) ⟨Nat.le_of_ble_eq_true rfl, Nat.le_of_ble_eq_true rfl⟩ rfl rfl (ok_X7_failed I L h) ?_ ?_
  · intro e9 u9 hx9
    exact hx9.elim
  intro v9 u9 hv9
  obtain ⟨r503, rfl, rfl, h⟩ := hv9
  refine ⟨fun q => absurd q (Nat.lt_irrefl _), ?_⟩
  show V G Y_X7_advance 4 _ (.int r503 :: _) _ _ _ _ _
  refine v_if_eq (tgt := 8) (pc' := 7) 2 rfl rfl (by decide) (fun hc => ?_) (fun hc => ?_)
  · replace h := h.1 hc
    obtain ⟨n504, h⟩ := h
    exact l_X7_advance_8 L t ht Q n504 I h
  replace h := h.2 hc
  exact v_vret 3 rfl rfl (by decide) (by decide) ⟨_, rfl, rfl, h⟩
def B_X7_takeWord_13 (p1 : Nat) (I : TI) (L : TL) (t : Nat) (Q : TI → Prop) : Prop :=
  W_X7_advance I L t (fun (I511 : TI) => Q I511)
set_option maxHeartbeats 4000000 in
set_option maxRecDepth 100000 in
theorem b_X7_takeWord_13 {G : GT} {b d : Nat} (p1 : Nat) (I : TI) (L : TL) (t : Nat) (ht : txOK t) (Q : TI → Prop)  (h : B_X7_takeWord_13 p1 I L t Q) : V G Y_X7_takeWord 13 [(0, .ref 344)] [] (I, L, RT b d t, 457) 0 0 (fun v9 u9 => ∃ (I9 : TI), v9 = none ∧ u9 = (I9, L, RT b d t, 457) ∧ Q I9) (fun _ _ => False) := by
  unfold B_X7_takeWord_13 at h
  refine v_aload_n (pc' := 14) 7 0 rfl rfl rfl rfl ?_
  refine v_cV (Y2 := Y_X7_advance) (As := []) (b := 344) (pc' := 17) (c1 := 0) (s1 := 0) 8 rfl rfl mf_X7_advance rfl rfl ml_X7_43 mi_X7_advance se_X7_advance (ci := 6) rfl ly_344 (lay_lt ly_344 (by decide)) rfl (Nat.le_of_ble_eq_true rfl) ⟨Nat.le_of_ble_eq_true rfl, Nat.le_of_ble_eq_true rfl⟩ rfl rfl (ok_X7_advance I L t ht h) ?_ ?_
  · intro e9 u9 hx9
    exact hx9.elim
  intro v9 u9 hv9
  obtain ⟨I511, rfl, rfl, h⟩ := hv9
  refine ⟨fun q => absurd q (Nat.lt_irrefl _), ?_⟩
  show V G Y_X7_takeWord 17 _ _ _ _ _ _ _
  exact v_vret 9 rfl rfl (by decide) (by decide) ⟨_, rfl, rfl, h⟩
def W_X7_takeWord (p1 : Nat) (I : TI) (L : TL) (t : Nat) (Q : TI → Prop) : Prop :=
  W_X7_isWord p1 I L t (fun (r512 : Int32) => (¬ r512 = 0 → B_X7_takeWord_13 p1 I L t Q) ∧ (r512 = 0 → W_X7_fail (1 : Int32) I L (fun (I513 : TI) => B_X7_takeWord_13 p1 I513 L t Q)))
set_option maxHeartbeats 4000000 in
set_option maxRecDepth 100000 in
theorem ok_X7_takeWord {G : GT} {b d : Nat} (p1 : Nat) (I : TI) (L : TL) (t : Nat) (ht : txOK t) {Q : TI → Prop} (h : W_X7_takeWord p1 I L t Q) : MW G Y_X7_takeWord [.ref 344, .ref p1] (I, L, RT b d t, 457) (fun v9 u9 => ∃ (I9 : TI), v9 = none ∧ u9 = (I9, L, RT b d t, 457) ∧ Q I9) (fun _ _ => False) := by
  unfold W_X7_takeWord at h
  refine MW.intro rfl (by decide) is_X7_takeWord (Nat.le_of_ble_eq_true rfl) ?_
  show V G Y_X7_takeWord 0 [(0, .ref 344), (1, .ref p1)] [] (I, L, RT b d t, 457) 0 0 _ _
  refine v_aload_n (pc' := 1) 0 0 rfl rfl rfl rfl ?_
  refine v_aload_n (pc' := 2) 1 1 rfl rfl rfl rfl ?_
  refine v_cV (Y2 := Y_X7_isWord) (As := [.ref p1]) (b := 344) (pc' := 5) (c1 := 0) (s1 := 0) 2 rfl rfl mf_X7_isWord rfl rfl ml_X7_76 mi_X7_isWord se_X7_isWord (ci := 6) rfl ly_344 (lay_lt ly_344 (by decide)) rfl (Nat.le_of_ble_eq_true rfl) ⟨Nat.le_of_ble_eq_true rfl, Nat.le_of_ble_eq_true rfl⟩ rfl rfl (ok_X7_isWord p1 I L t ht h) ?_ ?_
  · intro e9 u9 hx9
    exact hx9.elim
  intro v9 u9 hv9
  obtain ⟨r512, rfl, rfl, h⟩ := hv9
  refine ⟨fun q => absurd q (Nat.lt_irrefl _), ?_⟩
  show V G Y_X7_takeWord 5 _ (.int r512 :: _) _ _ _ _ _
  refine v_if_ne (tgt := 13) (pc' := 8) 3 rfl rfl (by decide) (fun hc => ?_) (fun hc => ?_)
  · replace h := h.1 hc
    refine V.sub [0] rfl ?_
    exact b_X7_takeWord_13 p1 I L t ht Q h
  replace h := h.2 hc
  refine v_aload_n (pc' := 9) 4 0 rfl rfl rfl rfl ?_
  refine v_iconst (v := 1) (pc' := 10) 5 rfl rfl (by decide) ?_
  refine v_cV (Y2 := Y_X7_fail) (As := [.int 1]) (b := 344) (pc' := 13) (c1 := 0) (s1 := 0) 6 rfl rfl mf_X7_fail rfl rfl ml_X7_69 mi_X7_fail se_X7_fail (ci := 6) rfl ly_344 (lay_lt ly_344 (by decide)) rfl (Nat.le_of_ble_eq_true rfl) ⟨Nat.le_of_ble_eq_true rfl, Nat.le_of_ble_eq_true rfl⟩ rfl rfl (ok_X7_fail (1 : Int32) I L h) ?_ ?_
  · intro e9 u9 hx9
    exact hx9.elim
  intro v9 u9 hv9
  obtain ⟨I513, rfl, rfl, h⟩ := hv9
  refine ⟨fun q => absurd q (Nat.lt_irrefl _), ?_⟩
  show V G Y_X7_takeWord 13 _ _ _ _ _ _ _
  refine V.sub [0] rfl ?_
  exact b_X7_takeWord_13 p1 I513 L t ht Q h
def W_X7_isNumber (I : TI) (L : TL) (Q : Int32 → Prop) : Prop :=
  W_X7_failed I L (fun (r515 : Int32) => (¬ r515 = 0 → Q 0) ∧ (r515 = 0 → (¬ (I 344 4) = 2 → Q 0) ∧ ((I 344 4) = 2 → Q 1)))
set_option maxHeartbeats 4000000 in
set_option maxRecDepth 100000 in
theorem ok_X7_isNumber {G : GT} {b d t : Nat} (I : TI) (L : TL)  {Q : Int32 → Prop} (h : W_X7_isNumber I L Q) : MW G Y_X7_isNumber [.ref 344] (I, L, RT b d t, 457) (fun v9 u9 => ∃ (r9 : Int32), v9 = some (.int r9) ∧ u9 = (I, L, RT b d t, 457) ∧ Q r9) (fun _ _ => False) := by
  unfold W_X7_isNumber at h
  refine MW.intro rfl (by decide) is_X7_isNumber (Nat.le_of_ble_eq_true rfl) ?_
  show V G Y_X7_isNumber 0 [(0, .ref 344)] [] (I, L, RT b d t, 457) 0 0 _ _
  refine v_aload_n (pc' := 1) 0 0 rfl rfl rfl rfl ?_
  refine v_cV (Y2 := Y_X7_failed) (As := []) (b := 344) (pc' := 4) (c1 := 0) (s1 := 0) 1 rfl rfl mf_X7_failed rfl rfl ml_X7_46 mi_X7_failed se_X7_failed (ci := 6) rfl ly_344 (lay_lt ly_344 (by decide)) rfl (Nat.le_of_ble_eq_true rfl) ⟨Nat.le_of_ble_eq_true rfl, Nat.le_of_ble_eq_true rfl⟩ rfl rfl (ok_X7_failed I L h) ?_ ?_
  · intro e9 u9 hx9
    exact hx9.elim
  intro v9 u9 hv9
  obtain ⟨r515, rfl, rfl, h⟩ := hv9
  refine ⟨fun q => absurd q (Nat.lt_irrefl _), ?_⟩
  show V G Y_X7_isNumber 4 _ (.int r515 :: _) _ _ _ _ _
  refine v_if_ne (tgt := 19) (pc' := 7) 2 rfl rfl (by decide) (fun hc => ?_) (fun hc => ?_)
  · replace h := h.1 hc
    refine v_iconst (v := 0) (pc' := 20) 9 rfl rfl (by decide) ?_
    exact v_bret 10 rfl rfl (by decide) (by decide) (by decide) ⟨_, rfl, rfl, h⟩
  replace h := h.2 hc
  refine v_aload_n (pc' := 8) 3 0 rfl rfl rfl rfl ?_
  refine v_getI (pc' := 11) 4 rfl rfl pf_X7_25 ly_344 (lay_lt ly_344 (by decide)) ?_
  refine v_iconst (v := 2) (pc' := 12) 5 rfl rfl (by decide) ?_
  refine v_icmp_ne (tgt := 19) (pc' := 15) 6 rfl rfl (by decide) (fun hc => ?_) (fun hc => ?_)
  · replace h := h.1 hc
    refine v_iconst (v := 0) (pc' := 20) 9 rfl rfl (by decide) ?_
    exact v_bret 10 rfl rfl (by decide) (by decide) (by decide) ⟨_, rfl, rfl, h⟩
  replace h := h.2 hc
  refine v_iconst (v := 1) (pc' := 16) 7 rfl rfl (by decide) ?_
  refine v_goto (tgt := 20) 8 rfl (by decide) ?_
  exact v_bret 10 rfl rfl (by decide) (by decide) (by decide) ⟨_, rfl, rfl, h⟩
def B_X7_peekNumber_36 (v1 : Int32) (I : TI) (L : TL) (Q : Int32 → TI → Prop) : Prop :=
  W_X7_failed I L (fun (r524 : Int32) => (r524 = 0 → Q (I 344 5) I) ∧ (¬ r524 = 0 → Q v1 I))
set_option maxHeartbeats 4000000 in
set_option maxRecDepth 100000 in
theorem b_X7_peekNumber_36 {G : GT} {b d t : Nat} (v1 : Int32) (I : TI) (L : TL)  (Q : Int32 → TI → Prop)  (h : B_X7_peekNumber_36 v1 I L Q) : V G Y_X7_peekNumber 36 [(0, .ref 344), (1, .int v1)] [] (I, L, RT b d t, 457) 0 0 (fun v9 u9 => ∃ (r9 : Int32) (I9 : TI), v9 = some (.int r9) ∧ u9 = (I9, L, RT b d t, 457) ∧ Q r9 I9) (fun _ _ => False) := by
  unfold B_X7_peekNumber_36 at h
  refine v_aload_n (pc' := 37) 18 0 rfl rfl rfl rfl ?_
  refine v_cV (Y2 := Y_X7_failed) (As := []) (b := 344) (pc' := 40) (c1 := 0) (s1 := 0) 19 rfl rfl mf_X7_failed rfl rfl ml_X7_46 mi_X7_failed se_X7_failed (ci := 6) rfl ly_344 (lay_lt ly_344 (by decide)) rfl (Nat.le_of_ble_eq_true rfl) ⟨Nat.le_of_ble_eq_true rfl, Nat.le_of_ble_eq_true rfl⟩ rfl rfl (ok_X7_failed I L h) ?_ ?_
  · intro e9 u9 hx9
    exact hx9.elim
  intro v9 u9 hv9
  obtain ⟨r524, rfl, rfl, h⟩ := hv9
  refine ⟨fun q => absurd q (Nat.lt_irrefl _), ?_⟩
  show V G Y_X7_peekNumber 40 _ (.int r524 :: _) _ _ _ _ _
  refine v_if_eq (tgt := 47) (pc' := 43) 20 rfl rfl (by decide) (fun hc => ?_) (fun hc => ?_)
  · replace h := h.1 hc
    refine v_aload_n (pc' := 48) 23 0 rfl rfl rfl rfl ?_
    refine v_getI (pc' := 51) 24 rfl rfl pf_X7_28 ly_344 (lay_lt ly_344 (by decide)) ?_
    exact v_iret 25 rfl rfl (by decide) (by decide) ⟨_, _, rfl, rfl, h⟩
  replace h := h.2 hc
  refine v_iload_n (pc' := 44) 21 1 rfl rfl rfl rfl ?_
  refine v_goto (tgt := 51) 22 rfl (by decide) ?_
  exact v_iret 25 rfl rfl (by decide) (by decide) ⟨_, _, rfl, rfl, h⟩
def B_X7_peekNumber_31 (v1 : Int32) (I : TI) (L : TL) (Q : Int32 → TI → Prop) : Prop :=
  W_X7_fail (2 : Int32) I L (fun (I525 : TI) => B_X7_peekNumber_36 v1 I525 L Q)
set_option maxHeartbeats 4000000 in
set_option maxRecDepth 100000 in
theorem b_X7_peekNumber_31 {G : GT} {b d t : Nat} (v1 : Int32) (I : TI) (L : TL)  (Q : Int32 → TI → Prop)  (h : B_X7_peekNumber_31 v1 I L Q) : V G Y_X7_peekNumber 31 [(0, .ref 344), (1, .int v1)] [] (I, L, RT b d t, 457) 0 0 (fun v9 u9 => ∃ (r9 : Int32) (I9 : TI), v9 = some (.int r9) ∧ u9 = (I9, L, RT b d t, 457) ∧ Q r9 I9) (fun _ _ => False) := by
  unfold B_X7_peekNumber_31 at h
  refine v_aload_n (pc' := 32) 15 0 rfl rfl rfl rfl ?_
  refine v_iconst (v := 2) (pc' := 33) 16 rfl rfl (by decide) ?_
  refine v_cV (Y2 := Y_X7_fail) (As := [.int 2]) (b := 344) (pc' := 36) (c1 := 0) (s1 := 0) 17 rfl rfl mf_X7_fail rfl rfl ml_X7_69 mi_X7_fail se_X7_fail (ci := 6) rfl ly_344 (lay_lt ly_344 (by decide)) rfl (Nat.le_of_ble_eq_true rfl) ⟨Nat.le_of_ble_eq_true rfl, Nat.le_of_ble_eq_true rfl⟩ rfl rfl (ok_X7_fail (2 : Int32) I L h) ?_ ?_
  · intro e9 u9 hx9
    exact hx9.elim
  intro v9 u9 hv9
  obtain ⟨I525, rfl, rfl, h⟩ := hv9
  refine ⟨fun q => absurd q (Nat.lt_irrefl _), ?_⟩
  show V G Y_X7_peekNumber 36 _ _ _ _ _ _ _
  exact b_X7_peekNumber_36 v1 I525 L Q h
def W_X7_peekNumber (p1 : Int32) (p2 : Int32) (I : TI) (L : TL) (Q : Int32 → TI → Prop) : Prop :=
  W_X7_isNumber I L (fun (r526 : Int32) => (¬ r526 = 0 → ((I 344 5) < p1 → B_X7_peekNumber_31 p1 I L Q) ∧ (¬ (I 344 5) < p1 → ((I 344 5) ≤ p2 → B_X7_peekNumber_36 p1 I L Q) ∧ (¬ (I 344 5) ≤ p2 → B_X7_peekNumber_31 p1 I L Q))) ∧ (r526 = 0 → W_X7_fail (1 : Int32) I L (fun (I527 : TI) => B_X7_peekNumber_36 p1 I527 L Q)))
set_option maxHeartbeats 4000000 in
set_option maxRecDepth 100000 in
theorem ok_X7_peekNumber {G : GT} {b d t : Nat} (p1 : Int32) (p2 : Int32) (I : TI) (L : TL)  {Q : Int32 → TI → Prop} (h : W_X7_peekNumber p1 p2 I L Q) : MW G Y_X7_peekNumber [.ref 344, .int p1, .int p2] (I, L, RT b d t, 457) (fun v9 u9 => ∃ (r9 : Int32) (I9 : TI), v9 = some (.int r9) ∧ u9 = (I9, L, RT b d t, 457) ∧ Q r9 I9) (fun _ _ => False) := by
  unfold W_X7_peekNumber at h
  refine MW.intro rfl (by decide) is_X7_peekNumber (Nat.le_of_ble_eq_true rfl) ?_
  show V G Y_X7_peekNumber 0 [(0, .ref 344), (1, .int p1), (2, .int p2)] [] (I, L, RT b d t, 457) 0 0 _ _
  refine v_aload_n (pc' := 1) 0 0 rfl rfl rfl rfl ?_
  refine v_cV (Y2 := Y_X7_isNumber) (As := []) (b := 344) (pc' := 4) (c1 := 0) (s1 := 0) 1 rfl rfl mf_X7_isNumber rfl rfl ml_X7_66 mi_X7_isNumber se_X7_isNumber (ci := 6) rfl ly_344 (lay_lt ly_344 (by decide)) rfl (Nat.le_of_ble_eq_true rfl) ⟨Nat.le_of_ble_eq_true rfl, Nat.le_of_ble_eq_true rfl⟩ rfl rfl (ok_X7_isNumber I L h) ?_ ?_
  · intro e9 u9 hx9
    exact hx9.elim
  intro v9 u9 hv9
  obtain ⟨r526, rfl, rfl, h⟩ := hv9
  refine ⟨fun q => absurd q (Nat.lt_irrefl _), ?_⟩
  show V G Y_X7_peekNumber 4 _ (.int r526 :: _) _ _ _ _ _
  refine v_if_ne (tgt := 15) (pc' := 7) 2 rfl rfl (by decide) (fun hc => ?_) (fun hc => ?_)
  · replace h := h.1 hc
    refine v_aload_n (pc' := 16) 7 0 rfl rfl rfl rfl ?_
    refine v_getI (pc' := 19) 8 rfl rfl pf_X7_28 ly_344 (lay_lt ly_344 (by decide)) ?_
    refine v_iload_n (pc' := 20) 9 1 rfl rfl rfl rfl ?_
    refine v_icmp_lt (tgt := 31) (pc' := 23) 10 rfl rfl (by decide) (fun hc => ?_) (fun hc => ?_)
    · replace h := h.1 hc
      refine V.sub [0, 1] rfl ?_
      exact b_X7_peekNumber_31 p1 I L Q h
    replace h := h.2 hc
    refine v_aload_n (pc' := 24) 11 0 rfl rfl rfl rfl ?_
    refine v_getI (pc' := 27) 12 rfl rfl pf_X7_28 ly_344 (lay_lt ly_344 (by decide)) ?_
    refine v_iload_n (pc' := 28) 13 2 rfl rfl rfl rfl ?_
    refine v_icmp_le (tgt := 36) (pc' := 31) 14 rfl rfl (by decide) (fun hc => ?_) (fun hc => ?_)
    · replace h := h.1 hc
      refine V.sub [0, 1] rfl ?_
      exact b_X7_peekNumber_36 p1 I L Q h
    replace h := h.2 hc
    refine V.sub [0, 1] rfl ?_
    exact b_X7_peekNumber_31 p1 I L Q h
  replace h := h.2 hc
  refine v_aload_n (pc' := 8) 3 0 rfl rfl rfl rfl ?_
  refine v_iconst (v := 1) (pc' := 9) 4 rfl rfl (by decide) ?_
  refine v_cV (Y2 := Y_X7_fail) (As := [.int 1]) (b := 344) (pc' := 12) (c1 := 0) (s1 := 0) 5 rfl rfl mf_X7_fail rfl rfl ml_X7_69 mi_X7_fail se_X7_fail (ci := 6) rfl ly_344 (lay_lt ly_344 (by decide)) rfl (Nat.le_of_ble_eq_true rfl) ⟨Nat.le_of_ble_eq_true rfl, Nat.le_of_ble_eq_true rfl⟩ rfl rfl (ok_X7_fail (1 : Int32) I L h) ?_ ?_
  · intro e9 u9 hx9
    exact hx9.elim
  intro v9 u9 hv9
  obtain ⟨I527, rfl, rfl, h⟩ := hv9
  refine ⟨fun q => absurd q (Nat.lt_irrefl _), ?_⟩
  show V G Y_X7_peekNumber 12 _ _ _ _ _ _ _
  refine v_goto (tgt := 36) 6 rfl (by decide) ?_
  refine V.sub [0, 1] rfl ?_
  exact b_X7_peekNumber_36 p1 I527 L Q h
def W_X7_takeNumber (p1 : Int32) (p2 : Int32) (I : TI) (L : TL) (t : Nat) (Q : Int32 → TI → Prop) : Prop :=
  W_X7_peekNumber p1 p2 I L (fun (r531 : Int32) (I532 : TI) => W_X7_advance I532 L t (fun (I533 : TI) => Q r531 I533))
set_option maxHeartbeats 4000000 in
set_option maxRecDepth 100000 in
theorem ok_X7_takeNumber {G : GT} {b d : Nat} (p1 : Int32) (p2 : Int32) (I : TI) (L : TL) (t : Nat) (ht : txOK t) {Q : Int32 → TI → Prop} (h : W_X7_takeNumber p1 p2 I L t Q) : MW G Y_X7_takeNumber [.ref 344, .int p1, .int p2] (I, L, RT b d t, 457) (fun v9 u9 => ∃ (r9 : Int32) (I9 : TI), v9 = some (.int r9) ∧ u9 = (I9, L, RT b d t, 457) ∧ Q r9 I9) (fun _ _ => False) := by
  unfold W_X7_takeNumber at h
  refine MW.intro rfl (by decide) is_X7_takeNumber (Nat.le_of_ble_eq_true rfl) ?_
  show V G Y_X7_takeNumber 0 [(0, .ref 344), (1, .int p1), (2, .int p2)] [] (I, L, RT b d t, 457) 0 0 _ _
  refine v_aload_n (pc' := 1) 0 0 rfl rfl rfl rfl ?_
  refine v_iload_n (pc' := 2) 1 1 rfl rfl rfl rfl ?_
  refine v_iload_n (pc' := 3) 2 2 rfl rfl rfl rfl ?_
  refine v_cV (Y2 := Y_X7_peekNumber) (As := [.int p1, .int p2]) (b := 344) (pc' := 6) (c1 := 0) (s1 := 0) 3 rfl rfl mf_X7_peekNumber rfl rfl ml_X7_73 mi_X7_peekNumber se_X7_peekNumber (ci := 6) rfl ly_344 (lay_lt ly_344 (by decide)) rfl (Nat.le_of_ble_eq_true rfl) ⟨Nat.le_of_ble_eq_true rfl, Nat.le_of_ble_eq_true rfl⟩ rfl rfl (ok_X7_peekNumber p1 p2 I L h) ?_ ?_
  · intro e9 u9 hx9
    exact hx9.elim
  intro v9 u9 hv9
  obtain ⟨r531, I532, rfl, rfl, h⟩ := hv9
  refine ⟨fun q => absurd q (Nat.lt_irrefl _), ?_⟩
  show V G Y_X7_takeNumber 6 _ (.int r531 :: _) _ _ _ _ _
  refine v_istore_n (ls' := [(3, .int r531), (0, .ref 344), (1, .int p1), (2, .int p2)]) (pc' := 7) 4 rfl rfl rfl (by decide) rfl ?_
  refine v_aload_n (pc' := 8) 5 1 rfl rfl rfl rfl ?_
  refine v_cV (Y2 := Y_X7_advance) (As := []) (b := 344) (pc' := 11) (c1 := 0) (s1 := 0) 6 rfl rfl mf_X7_advance rfl rfl ml_X7_43 mi_X7_advance se_X7_advance (ci := 6) rfl ly_344 (lay_lt ly_344 (by decide)) rfl (Nat.le_of_ble_eq_true rfl) ⟨Nat.le_of_ble_eq_true rfl, Nat.le_of_ble_eq_true rfl⟩ rfl rfl (ok_X7_advance I532 L t ht h) ?_ ?_
  · intro e9 u9 hx9
    exact hx9.elim
  intro v9 u9 hv9
  obtain ⟨I533, rfl, rfl, h⟩ := hv9
  refine ⟨fun q => absurd q (Nat.lt_irrefl _), ?_⟩
  show V G Y_X7_takeNumber 11 _ _ _ _ _ _ _
  refine v_iload_n (pc' := 12) 7 0 rfl rfl rfl rfl ?_
  exact v_iret 8 rfl rfl (by decide) (by decide) ⟨_, _, rfl, rfl, h⟩
def W_X7_isSign (p1 : Int32) (I : TI) (L : TL) (t : Nat) (Q : Int32 → Prop) : Prop :=
  W_X7_failed I L (fun (r536 : Int32) => (¬ r536 = 0 → Q 0) ∧ (r536 = 0 → (¬ (I 344 4) = 3 → Q 0) ∧ ((I 344 4) = 3 → ((I 344 1) ≤ (I 344 2) → Q 0) ∧ (¬ (I 344 1) ≤ (I 344 2) → vp_in (I 344 2) (LEN t) ∧ ((¬ (I t ((I 344 2).toNatClampNeg)) = p1 → Q 0) ∧ ((I t ((I 344 2).toNatClampNeg)) = p1 → Q 1))))))
set_option maxHeartbeats 4000000 in
set_option maxRecDepth 100000 in
theorem ok_X7_isSign {G : GT} {b d : Nat} (p1 : Int32) (I : TI) (L : TL) (t : Nat) (ht : txOK t) {Q : Int32 → Prop} (h : W_X7_isSign p1 I L t Q) : MW G Y_X7_isSign [.ref 344, .int p1] (I, L, RT b d t, 457) (fun v9 u9 => ∃ (r9 : Int32), v9 = some (.int r9) ∧ u9 = (I, L, RT b d t, 457) ∧ Q r9) (fun _ _ => False) := by
  unfold W_X7_isSign at h
  refine MW.intro rfl (by decide) is_X7_isSign (Nat.le_of_ble_eq_true rfl) ?_
  show V G Y_X7_isSign 0 [(0, .ref 344), (1, .int p1)] [] (I, L, RT b d t, 457) 0 0 _ _
  refine v_aload_n (pc' := 1) 0 0 rfl rfl rfl rfl ?_
  refine v_cV (Y2 := Y_X7_failed) (As := []) (b := 344) (pc' := 4) (c1 := 0) (s1 := 0) 1 rfl rfl mf_X7_failed rfl rfl ml_X7_46 mi_X7_failed se_X7_failed (ci := 6) rfl ly_344 (lay_lt ly_344 (by decide)) rfl (Nat.le_of_ble_eq_true rfl) ⟨Nat.le_of_ble_eq_true rfl, Nat.le_of_ble_eq_true rfl⟩ rfl rfl (ok_X7_failed I L h) ?_ ?_
  · intro e9 u9 hx9
    exact hx9.elim
  intro v9 u9 hv9
  obtain ⟨r536, rfl, rfl, h⟩ := hv9
  refine ⟨fun q => absurd q (Nat.lt_irrefl _), ?_⟩
  show V G Y_X7_isSign 4 _ (.int r536 :: _) _ _ _ _ _
  refine v_if_ne (tgt := 43) (pc' := 7) 2 rfl rfl (by decide) (fun hc => ?_) (fun hc => ?_)
  · replace h := h.1 hc
    refine v_iconst (v := 0) (pc' := 44) 21 rfl rfl (by decide) ?_
    exact v_bret 22 rfl rfl (by decide) (by decide) (by decide) ⟨_, rfl, rfl, h⟩
  replace h := h.2 hc
  refine v_aload_n (pc' := 8) 3 0 rfl rfl rfl rfl ?_
  refine v_getI (pc' := 11) 4 rfl rfl pf_X7_25 ly_344 (lay_lt ly_344 (by decide)) ?_
  refine v_iconst (v := 3) (pc' := 12) 5 rfl rfl (by decide) ?_
  refine v_icmp_ne (tgt := 43) (pc' := 15) 6 rfl rfl (by decide) (fun hc => ?_) (fun hc => ?_)
  · replace h := h.1 hc
    refine v_iconst (v := 0) (pc' := 44) 21 rfl rfl (by decide) ?_
    exact v_bret 22 rfl rfl (by decide) (by decide) (by decide) ⟨_, rfl, rfl, h⟩
  replace h := h.2 hc
  refine v_aload_n (pc' := 16) 7 0 rfl rfl rfl rfl ?_
  refine v_getI (pc' := 19) 8 rfl rfl pf_X7_19 ly_344 (lay_lt ly_344 (by decide)) ?_
  refine v_aload_n (pc' := 20) 9 0 rfl rfl rfl rfl ?_
  refine v_getI (pc' := 23) 10 rfl rfl pf_X7_15 ly_344 (lay_lt ly_344 (by decide)) ?_
  refine v_icmp_ge (tgt := 43) (pc' := 26) 11 rfl rfl (by decide) (fun hc => ?_) (fun hc => ?_)
  · replace h := h.1 hc
    refine v_iconst (v := 0) (pc' := 44) 21 rfl rfl (by decide) ?_
    exact v_bret 22 rfl rfl (by decide) (by decide) (by decide) ⟨_, rfl, rfl, h⟩
  replace h := h.2 hc
  refine v_aload_n (pc' := 27) 12 0 rfl rfl rfl rfl ?_
  refine v_getR (t := t) (pc' := 30) 13 rfl rfl pf_X7_9 ly_344 (lay_lt ly_344 (by decide)) rt_344_0 ?_
  refine v_aload_n (pc' := 31) 14 0 rfl rfl rfl rfl ?_
  refine v_getI (pc' := 34) 15 rfl rfl pf_X7_19 ly_344 (lay_lt ly_344 (by decide)) ?_
  obtain ⟨hi537, h⟩ := h
  refine v_bald (i := (I 344 2)) (j := (I 344 2).toNatClampNeg) (pc' := 35) 16 rfl rfl (tx0l ht) rfl (lay_lt (tx0l ht) (by decide)) hi537 rfl ?_
  refine v_iload_n (pc' := 36) 17 1 rfl rfl rfl rfl ?_
  refine v_icmp_ne (tgt := 43) (pc' := 39) 18 rfl rfl (by decide) (fun hc => ?_) (fun hc => ?_)
  · replace h := h.1 hc
    refine v_iconst (v := 0) (pc' := 44) 21 rfl rfl (by decide) ?_
    exact v_bret 22 rfl rfl (by decide) (by decide) (by decide) ⟨_, rfl, rfl, h⟩
  replace h := h.2 hc
  refine v_iconst (v := 1) (pc' := 40) 19 rfl rfl (by decide) ?_
  refine v_goto (tgt := 44) 20 rfl (by decide) ?_
  exact v_bret 22 rfl rfl (by decide) (by decide) (by decide) ⟨_, rfl, rfl, h⟩
def B_X7_takeSign_13 (I : TI) (L : TL) (t : Nat) (Q : TI → Prop) : Prop :=
  W_X7_advance I L t (fun (I544 : TI) => Q I544)
set_option maxHeartbeats 4000000 in
set_option maxRecDepth 100000 in
theorem b_X7_takeSign_13 {G : GT} {b d : Nat} (I : TI) (L : TL) (t : Nat) (ht : txOK t) (Q : TI → Prop)  (h : B_X7_takeSign_13 I L t Q) : V G Y_X7_takeSign 13 [(0, .ref 344)] [] (I, L, RT b d t, 457) 0 0 (fun v9 u9 => ∃ (I9 : TI), v9 = none ∧ u9 = (I9, L, RT b d t, 457) ∧ Q I9) (fun _ _ => False) := by
  unfold B_X7_takeSign_13 at h
  refine v_aload_n (pc' := 14) 7 0 rfl rfl rfl rfl ?_
  refine v_cV (Y2 := Y_X7_advance) (As := []) (b := 344) (pc' := 17) (c1 := 0) (s1 := 0) 8 rfl rfl mf_X7_advance rfl rfl ml_X7_43 mi_X7_advance se_X7_advance (ci := 6) rfl ly_344 (lay_lt ly_344 (by decide)) rfl (Nat.le_of_ble_eq_true rfl) ⟨Nat.le_of_ble_eq_true rfl, Nat.le_of_ble_eq_true rfl⟩ rfl rfl (ok_X7_advance I L t ht h) ?_ ?_
  · intro e9 u9 hx9
    exact hx9.elim
  intro v9 u9 hv9
  obtain ⟨I544, rfl, rfl, h⟩ := hv9
  refine ⟨fun q => absurd q (Nat.lt_irrefl _), ?_⟩
  show V G Y_X7_takeSign 17 _ _ _ _ _ _ _
  exact v_vret 9 rfl rfl (by decide) (by decide) ⟨_, rfl, rfl, h⟩
def W_X7_takeSign (p1 : Int32) (I : TI) (L : TL) (t : Nat) (Q : TI → Prop) : Prop :=
  W_X7_isSign p1 I L t (fun (r545 : Int32) => (¬ r545 = 0 → B_X7_takeSign_13 I L t Q) ∧ (r545 = 0 → W_X7_fail (1 : Int32) I L (fun (I546 : TI) => B_X7_takeSign_13 I546 L t Q)))
set_option maxHeartbeats 4000000 in
set_option maxRecDepth 100000 in
theorem ok_X7_takeSign {G : GT} {b d : Nat} (p1 : Int32) (I : TI) (L : TL) (t : Nat) (ht : txOK t) {Q : TI → Prop} (h : W_X7_takeSign p1 I L t Q) : MW G Y_X7_takeSign [.ref 344, .int p1] (I, L, RT b d t, 457) (fun v9 u9 => ∃ (I9 : TI), v9 = none ∧ u9 = (I9, L, RT b d t, 457) ∧ Q I9) (fun _ _ => False) := by
  unfold W_X7_takeSign at h
  refine MW.intro rfl (by decide) is_X7_takeSign (Nat.le_of_ble_eq_true rfl) ?_
  show V G Y_X7_takeSign 0 [(0, .ref 344), (1, .int p1)] [] (I, L, RT b d t, 457) 0 0 _ _
  refine v_aload_n (pc' := 1) 0 0 rfl rfl rfl rfl ?_
  refine v_iload_n (pc' := 2) 1 1 rfl rfl rfl rfl ?_
  refine v_cV (Y2 := Y_X7_isSign) (As := [.int p1]) (b := 344) (pc' := 5) (c1 := 0) (s1 := 0) 2 rfl rfl mf_X7_isSign rfl rfl ml_X7_80 mi_X7_isSign se_X7_isSign (ci := 6) rfl ly_344 (lay_lt ly_344 (by decide)) rfl (Nat.le_of_ble_eq_true rfl) ⟨Nat.le_of_ble_eq_true rfl, Nat.le_of_ble_eq_true rfl⟩ rfl rfl (ok_X7_isSign p1 I L t ht h) ?_ ?_
  · intro e9 u9 hx9
    exact hx9.elim
  intro v9 u9 hv9
  obtain ⟨r545, rfl, rfl, h⟩ := hv9
  refine ⟨fun q => absurd q (Nat.lt_irrefl _), ?_⟩
  show V G Y_X7_takeSign 5 _ (.int r545 :: _) _ _ _ _ _
  refine v_if_ne (tgt := 13) (pc' := 8) 3 rfl rfl (by decide) (fun hc => ?_) (fun hc => ?_)
  · replace h := h.1 hc
    refine V.sub [0] rfl ?_
    exact b_X7_takeSign_13 I L t ht Q h
  replace h := h.2 hc
  refine v_aload_n (pc' := 9) 4 0 rfl rfl rfl rfl ?_
  refine v_iconst (v := 1) (pc' := 10) 5 rfl rfl (by decide) ?_
  refine v_cV (Y2 := Y_X7_fail) (As := [.int 1]) (b := 344) (pc' := 13) (c1 := 0) (s1 := 0) 6 rfl rfl mf_X7_fail rfl rfl ml_X7_69 mi_X7_fail se_X7_fail (ci := 6) rfl ly_344 (lay_lt ly_344 (by decide)) rfl (Nat.le_of_ble_eq_true rfl) ⟨Nat.le_of_ble_eq_true rfl, Nat.le_of_ble_eq_true rfl⟩ rfl rfl (ok_X7_fail (1 : Int32) I L h) ?_ ?_
  · intro e9 u9 hx9
    exact hx9.elim
  intro v9 u9 hv9
  obtain ⟨I546, rfl, rfl, h⟩ := hv9
  refine ⟨fun q => absurd q (Nat.lt_irrefl _), ?_⟩
  show V G Y_X7_takeSign 13 _ _ _ _ _ _ _
  refine V.sub [0] rfl ?_
  exact b_X7_takeSign_13 I546 L t ht Q h
def W_X1_readHead (p1 : Nat) (I : TI) (L : TL) (t : Nat) (Q : TI → Prop) : Prop :=
  W_X7_takeWord 459 I L t (fun (I557 : TI) => W_X7_takeNumber (4 : Int32) (60 : Int32) I557 L t (fun (r558 : Int32) (I559 : TI) => W_X7_takeNumber (1 : Int32) (20 : Int32) (up2 I559 (p1 + 1) 6 r558) L t (fun (r560 : Int32) (I561 : TI) => W_X7_takeNumber (0 : Int32) (9 : Int32) (up2 I561 (p1 + 6) 8 r560) L t (fun (r562 : Int32) (I563 : TI) => W_X7_takeNumber (0 : Int32) (99 : Int32) (up2 I563 (p1 + 1) 7 r562) L t (fun (r564 : Int32) (I565 : TI) => W_X7_takeSign (59 : Int32) (up2 I565 (p1 + 1) 8 r564) L t (fun (I566 : TI) => Q I566))))))
set_option maxHeartbeats 4000000 in
set_option maxRecDepth 100000 in
theorem ok_X1_readHead {G : GT} {b d : Nat} (p1 : Nat) (I : TI) (L : TL) (t : Nat) (hp1 : bnOK p1) (ht : txOK t) {Q : TI → Prop} (h : W_X1_readHead p1 I L t Q) : MW G Y_X1_readHead [.ref 344, .ref p1] (I, L, RT b d t, 457) (fun v9 u9 => ∃ (I9 : TI), v9 = none ∧ u9 = (I9, L, RT b d t, 457) ∧ Q I9) (fun _ _ => False) := by
  unfold W_X1_readHead at h
  refine MW.intro rfl (by decide) is_X1_readHead (Nat.le_of_ble_eq_true rfl) ?_
  show V G Y_X1_readHead 0 [(0, .ref 344), (1, .ref p1)] [] (I, L, RT b d t, 457) 0 0 _ _
  refine v_aload_n (pc' := 1) 0 0 rfl rfl rfl rfl ?_
  refine v_ldcS (pc' := 3) 1 rfl rfl sr_X1_34 ?_
  refine v_cV (Y2 := Y_X7_takeWord) (As := [.ref 459]) (b := 344) (pc' := 6) (c1 := 0) (s1 := 0) 2 rfl rfl mf_X7_takeWord rfl rfl ml_X1_36 mi_X7_takeWord se_X7_takeWord (ci := 6) rfl ly_344 (lay_lt ly_344 (by decide)) rfl (Nat.le_of_ble_eq_true rfl) ⟨Nat.le_of_ble_eq_true rfl, Nat.le_of_ble_eq_true rfl⟩ rfl rfl (ok_X7_takeWord 459 I L t ht h) ?_ ?_
  · intro e9 u9 hx9
    exact hx9.elim
  intro v9 u9 hv9
  obtain ⟨I557, rfl, rfl, h⟩ := hv9
  refine ⟨fun q => absurd q (Nat.lt_irrefl _), ?_⟩
  show V G Y_X1_readHead 6 _ _ _ _ _ _ _
  refine v_aload_n (pc' := 7) 3 1 rfl rfl rfl rfl ?_
  refine v_getR (t := (p1 + 1)) (pc' := 10) 4 rfl rfl pf_X1_40 (bn0l hp1) (lay_lt (bn0l hp1) (by decide)) (rt_bn_0 hp1) ?_
  refine v_aload_n (pc' := 11) 5 0 rfl rfl rfl rfl ?_
  refine v_iconst (v := 4) (pc' := 12) 6 rfl rfl (by decide) ?_
  refine v_bipush (v := 60) (pc' := 14) 7 rfl rfl (by decide) ?_
  refine v_cV (Y2 := Y_X7_takeNumber) (As := [.int 4, .int 60]) (b := 344) (pc' := 17) (c1 := 0) (s1 := 0) 8 rfl rfl mf_X7_takeNumber rfl rfl ml_X1_46 mi_X7_takeNumber se_X7_takeNumber (ci := 6) rfl ly_344 (lay_lt ly_344 (by decide)) rfl (Nat.le_of_ble_eq_true rfl) ⟨Nat.le_of_ble_eq_true rfl, Nat.le_of_ble_eq_true rfl⟩ rfl rfl (ok_X7_takeNumber (4 : Int32) (60 : Int32) I557 L t ht h) ?_ ?_
  · intro e9 u9 hx9
    exact hx9.elim
  intro v9 u9 hv9
  obtain ⟨r558, I559, rfl, rfl, h⟩ := hv9
  refine ⟨fun q => absurd q (Nat.lt_irrefl _), ?_⟩
  show V G Y_X1_readHead 17 _ (.int r558 :: _) _ _ _ _ _
  refine v_putI (pc' := 20) 9 rfl rfl pf_X1_50 (fun q => absurd q (by decide)) (bn1l hp1) (lay_lt (bn1l hp1) (by decide)) ?_
  refine v_aload_n (pc' := 21) 10 1 rfl rfl rfl rfl ?_
  refine v_getR (t := (p1 + 6)) (pc' := 24) 11 rfl rfl pf_X1_56 (bn0l hp1) (lay_lt (bn0l hp1) (by decide)) (rt_bn_1 hp1) ?_
  refine v_aload_n (pc' := 25) 12 0 rfl rfl rfl rfl ?_
  refine v_iconst (v := 1) (pc' := 26) 13 rfl rfl (by decide) ?_
  refine v_bipush (v := 20) (pc' := 28) 14 rfl rfl (by decide) ?_
  refine v_cV (Y2 := Y_X7_takeNumber) (As := [.int 1, .int 20]) (b := 344) (pc' := 31) (c1 := 0) (s1 := 0) 15 rfl rfl mf_X7_takeNumber rfl rfl ml_X1_46 mi_X7_takeNumber se_X7_takeNumber (ci := 6) rfl ly_344 (lay_lt ly_344 (by decide)) rfl (Nat.le_of_ble_eq_true rfl) ⟨Nat.le_of_ble_eq_true rfl, Nat.le_of_ble_eq_true rfl⟩ rfl rfl (ok_X7_takeNumber (1 : Int32) (20 : Int32) (up2 I559 (p1 + 1) 6 r558) L t ht h) ?_ ?_
  · intro e9 u9 hx9
    exact hx9.elim
  intro v9 u9 hv9
  obtain ⟨r560, I561, rfl, rfl, h⟩ := hv9
  refine ⟨fun q => absurd q (Nat.lt_irrefl _), ?_⟩
  show V G Y_X1_readHead 31 _ (.int r560 :: _) _ _ _ _ _
  refine v_putI (pc' := 34) 16 rfl rfl pf_X1_60 (fun q => absurd q (by decide)) (bn6l hp1) (lay_lt (bn6l hp1) (by decide)) ?_
  refine v_aload_n (pc' := 35) 17 1 rfl rfl rfl rfl ?_
  refine v_getR (t := (p1 + 1)) (pc' := 38) 18 rfl rfl pf_X1_40 (bn0l hp1) (lay_lt (bn0l hp1) (by decide)) (rt_bn_0 hp1) ?_
  refine v_aload_n (pc' := 39) 19 0 rfl rfl rfl rfl ?_
  refine v_iconst (v := 0) (pc' := 40) 20 rfl rfl (by decide) ?_
  refine v_bipush (v := 9) (pc' := 42) 21 rfl rfl (by decide) ?_
  refine v_cV (Y2 := Y_X7_takeNumber) (As := [.int 0, .int 9]) (b := 344) (pc' := 45) (c1 := 0) (s1 := 0) 22 rfl rfl mf_X7_takeNumber rfl rfl ml_X1_46 mi_X7_takeNumber se_X7_takeNumber (ci := 6) rfl ly_344 (lay_lt ly_344 (by decide)) rfl (Nat.le_of_ble_eq_true rfl) ⟨Nat.le_of_ble_eq_true rfl, Nat.le_of_ble_eq_true rfl⟩ rfl rfl (ok_X7_takeNumber (0 : Int32) (9 : Int32) (up2 I561 (p1 + 6) 8 r560) L t ht h) ?_ ?_
  · intro e9 u9 hx9
    exact hx9.elim
  intro v9 u9 hv9
  obtain ⟨r562, I563, rfl, rfl, h⟩ := hv9
  refine ⟨fun q => absurd q (Nat.lt_irrefl _), ?_⟩
  show V G Y_X1_readHead 45 _ (.int r562 :: _) _ _ _ _ _
  refine v_putI (pc' := 48) 23 rfl rfl pf_X1_65 (fun q => absurd q (by decide)) (bn1l hp1) (lay_lt (bn1l hp1) (by decide)) ?_
  refine v_aload_n (pc' := 49) 24 1 rfl rfl rfl rfl ?_
  refine v_getR (t := (p1 + 1)) (pc' := 52) 25 rfl rfl pf_X1_40 (bn0l hp1) (lay_lt (bn0l hp1) (by decide)) (rt_bn_0 hp1) ?_
  refine v_aload_n (pc' := 53) 26 0 rfl rfl rfl rfl ?_
  refine v_iconst (v := 0) (pc' := 54) 27 rfl rfl (by decide) ?_
  refine v_bipush (v := 99) (pc' := 56) 28 rfl rfl (by decide) ?_
  refine v_cV (Y2 := Y_X7_takeNumber) (As := [.int 0, .int 99]) (b := 344) (pc' := 59) (c1 := 0) (s1 := 0) 29 rfl rfl mf_X7_takeNumber rfl rfl ml_X1_46 mi_X7_takeNumber se_X7_takeNumber (ci := 6) rfl ly_344 (lay_lt ly_344 (by decide)) rfl (Nat.le_of_ble_eq_true rfl) ⟨Nat.le_of_ble_eq_true rfl, Nat.le_of_ble_eq_true rfl⟩ rfl rfl (ok_X7_takeNumber (0 : Int32) (99 : Int32) (up2 I563 (p1 + 1) 7 r562) L t ht h) ?_ ?_
  · intro e9 u9 hx9
    exact hx9.elim
  intro v9 u9 hv9
  obtain ⟨r564, I565, rfl, rfl, h⟩ := hv9
  refine ⟨fun q => absurd q (Nat.lt_irrefl _), ?_⟩
  show V G Y_X1_readHead 59 _ (.int r564 :: _) _ _ _ _ _
  refine v_putI (pc' := 62) 30 rfl rfl pf_X1_68 (fun q => absurd q (by decide)) (bn1l hp1) (lay_lt (bn1l hp1) (by decide)) ?_
  refine v_aload_n (pc' := 63) 31 0 rfl rfl rfl rfl ?_
  refine v_bipush (v := 59) (pc' := 65) 32 rfl rfl (by decide) ?_
  refine v_cV (Y2 := Y_X7_takeSign) (As := [.int 59]) (b := 344) (pc' := 68) (c1 := 0) (s1 := 0) 33 rfl rfl mf_X7_takeSign rfl rfl ml_X1_71 mi_X7_takeSign se_X7_takeSign (ci := 6) rfl ly_344 (lay_lt ly_344 (by decide)) rfl (Nat.le_of_ble_eq_true rfl) ⟨Nat.le_of_ble_eq_true rfl, Nat.le_of_ble_eq_true rfl⟩ rfl rfl (ok_X7_takeSign (59 : Int32) (up2 I565 (p1 + 1) 8 r564) L t ht h) ?_ ?_
  · intro e9 u9 hx9
    exact hx9.elim
  intro v9 u9 hv9
  obtain ⟨I566, rfl, rfl, h⟩ := hv9
  refine ⟨fun q => absurd q (Nat.lt_irrefl _), ?_⟩
  show V G Y_X1_readHead 68 _ _ _ _ _ _ _
  exact v_vret 34 rfl rfl (by decide) (by decide) ⟨_, rfl, rfl, h⟩
