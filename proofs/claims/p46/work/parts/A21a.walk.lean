set_option maxHeartbeats 4000000 in
set_option maxRecDepth 100000 in
theorem b_X2_touchedBy_56 {G : GT} {b d t : Nat} (p0 : Nat) (v2 : Int32) (v3 : Int32) (v4 : Int32) (I : TI) (L : TL) (hp0 : ckOK p0) (Q : Int32 → Prop) (R28 : Int32 → Int32 → Prop) (hR28 : ∀ (v3 : Int32) (v4 : Int32), R28 v3 v4 → V G Y_X2_touchedBy 28 [(0, .ref p0), (2, .int v2), (3, .int v3), (4, .int v4)] [] (I, L, RT b d t, 457) 0 0 (fun v9 u9 => ∃ (r9 : Int32), v9 = some (.int r9) ∧ u9 = (I, L, RT b d t, 457) ∧ Q r9) (fun _ _ => False)) (h : B_X2_touchedBy_56 p0 v2 v3 v4 I L Q R28) : V G Y_X2_touchedBy 56 [(0, .ref p0), (2, .int v2), (3, .int v3), (4, .int v4)] [] (I, L, RT b d t, 457) 0 0 (fun v9 u9 => ∃ (r9 : Int32), v9 = some (.int r9) ∧ u9 = (I, L, RT b d t, 457) ∧ Q r9) (fun _ _ => False) := by
  unfold B_X2_touchedBy_56 at h
  refine v_iinc (v := (v4 + 1)) (ls' := [(4, .int (v4 + 1)), (0, .ref p0), (2, .int v2), (3, .int v3)]) (pc' := 59) 34 3 rfl rfl rfl rfl (by decide) rfl ?_
  refine v_goto (tgt := 28) 35 rfl (by decide) ?_
  refine V.sub [1, 2, 3, 0] rfl ?_
  exact hR28 v3 (v4 + 1) h
set_option maxHeartbeats 4000000 in
set_option maxRecDepth 100000 in
theorem d_X2_touchedBy_28 {G : GT} {b d t : Nat} (p0 : Nat) (v2 : Int32) (I : TI) (L : TL) (hp0 : ckOK p0) (Q : Int32 → Prop) (R28 : Int32 → Int32 → Prop)  (hR28 : ∀ (v3 : Int32) (v4 : Int32), R28 v3 v4 → V G Y_X2_touchedBy 28 [(0, .ref p0), (2, .int v2), (3, .int v3), (4, .int v4)] [] (I, L, RT b d t, 457) 0 0 (fun v9 u9 => ∃ (r9 : Int32), v9 = some (.int r9) ∧ u9 = (I, L, RT b d t, 457) ∧ Q r9) (fun _ _ => False)) (v3 : Int32) (v4 : Int32)  (h : D_X2_touchedBy_28 p0 v2 I L Q R28 v3 v4) : V G Y_X2_touchedBy 28 [(0, .ref p0), (2, .int v2), (3, .int v3), (4, .int v4)] [] (I, L, RT b d t, 457) 0 0 (fun v9 u9 => ∃ (r9 : Int32), v9 = some (.int r9) ∧ u9 = (I, L, RT b d t, 457) ∧ Q r9) (fun _ _ => False) := by
  unfold D_X2_touchedBy_28 at h
  refine v_iload (pc' := 30) 17 3 rfl rfl rfl ?_
  refine v_aload_n (pc' := 31) 18 0 rfl rfl rfl rfl ?_
  refine v_cV (Y2 := Y_X2_nets) (As := []) (b := p0) (pc' := 34) (c1 := 0) (s1 := 0) 19 rfl rfl mf_X2_nets rfl rfl ml_X2_40 mi_X2_nets se_X2_nets (ci := 1) rfl (ck0l hp0) (lay_lt (ck0l hp0) (by decide)) rfl (Nat.le_of_ble_eq_true rfl) ⟨Nat.le_of_ble_eq_true rfl, Nat.le_of_ble_eq_true rfl⟩ rfl rfl (ok_X2_nets p0 I L hp0 h) ?_ ?_
  · intro e9 u9 hx9
    exact hx9.elim
  intro v9 u9 hv9
  obtain ⟨r334, rfl, rfl, h⟩ := hv9
  refine ⟨fun q => absurd q (Nat.lt_irrefl _), ?_⟩
  show V G Y_X2_touchedBy 34 _ (.int r334 :: _) _ _ _ _ _
  refine v_icmp_ge (tgt := 62) (pc' := 37) 20 rfl rfl (by decide) (fun hc => ?_) (fun hc => ?_)
  · replace h := h.1 hc
    refine v_iload_n (pc' := 63) 36 2 rfl rfl rfl rfl ?_
    exact v_iret 37 rfl rfl (by decide) (by decide) ⟨_, rfl, rfl, h⟩
  replace h := h.2 hc
  refine v_aload_n (pc' := 38) 21 0 rfl rfl rfl rfl ?_
  refine v_getR (t := (p0 + 4)) (pc' := 41) 22 rfl rfl pf_X2_21 (ck0l hp0) (lay_lt (ck0l hp0) (by decide)) (rt_ck_3 hp0) ?_
  refine v_iload (pc' := 43) 23 3 rfl rfl rfl ?_
  obtain ⟨hi335, h⟩ := h
  refine v_iald (i := v4) (j := v4.toNatClampNeg) (pc' := 44) 24 rfl rfl (ck4l hp0) (ck4n hp0) (lay_lt (ck4l hp0) (by decide)) hi335 rfl ?_
  refine v_iload_n (pc' := 45) 25 1 rfl rfl rfl rfl ?_
  refine v_iand (pc' := 46) 26 rfl rfl ?_
  refine v_if_eq (tgt := 56) (pc' := 49) 27 rfl rfl (by decide) (fun hc => ?_) (fun hc => ?_)
  · replace h := h.1 hc
    exact b_X2_touchedBy_56 p0 v2 v3 v4 I L hp0 Q R28 hR28 h
  replace h := h.2 hc
  refine v_iload_n (pc' := 50) 28 2 rfl rfl rfl rfl ?_
  refine v_iconst (v := 1) (pc' := 51) 29 rfl rfl (by decide) ?_
  refine v_iload (pc' := 53) 30 3 rfl rfl rfl ?_
  refine v_ishl (pc' := 54) 31 rfl rfl ?_
  refine v_ior (pc' := 55) 32 rfl rfl ?_
  refine nm_I (e := (v3 ||| ((1 : Int32) <<< (v4 &&& 31)))) (fun x336 hx336 => ?_)
  replace h := h x336 hx336
  refine v_istore_n (ls' := [(3, .int x336), (0, .ref p0), (2, .int v2), (4, .int v4)]) (pc' := 56) 33 rfl rfl rfl (by decide) rfl ?_
  refine V.sub [1, 2, 0, 3] rfl ?_
  exact b_X2_touchedBy_56 p0 v2 x336 v4 I L hp0 Q R28 hR28 h
theorem l_X2_touchedBy_28 {G : GT} {b d t : Nat} (p0 : Nat) (v2 : Int32) (I : TI) (L : TL) (hp0 : ckOK p0) (Q : Int32 → Prop)  : ∀ (n9 : Nat) (v3 : Int32) (v4 : Int32), L_X2_touchedBy_28 p0 v2 I L Q n9 v3 v4 → V G Y_X2_touchedBy 28 [(0, .ref p0), (2, .int v2), (3, .int v3), (4, .int v4)] [] (I, L, RT b d t, 457) 0 0 (fun v9 u9 => ∃ (r9 : Int32), v9 = some (.int r9) ∧ u9 = (I, L, RT b d t, 457) ∧ Q r9) (fun _ _ => False)
  | 0, _, _, h => h.elim
  | n9 + 1, v3, v4, h => d_X2_touchedBy_28 p0 v2 I L hp0 Q _ (l_X2_touchedBy_28 p0 v2 I L hp0 Q n9) v3 v4 h
set_option maxHeartbeats 4000000 in
set_option maxRecDepth 100000 in
theorem b_X2_touchedBy_19 {G : GT} {b d t : Nat} (p0 : Nat) (s0 : Int32) (I : TI) (L : TL) (hp0 : ckOK p0) (Q : Int32 → Prop)  (h : B_X2_touchedBy_19 p0 s0 I L Q) : V G Y_X2_touchedBy 19 [(0, .ref p0)] [.int s0] (I, L, RT b d t, 457) 0 0 (fun v9 u9 => ∃ (r9 : Int32), v9 = some (.int r9) ∧ u9 = (I, L, RT b d t, 457) ∧ Q r9) (fun _ _ => False) := by
  unfold B_X2_touchedBy_19 at h
  refine v_istore_n (ls' := [(2, .int s0), (0, .ref p0)]) (pc' := 20) 11 rfl rfl rfl (by decide) rfl ?_
  refine v_iconst (v := 0) (pc' := 21) 12 rfl rfl (by decide) ?_
  refine v_istore_n (ls' := [(3, .int 0), (2, .int s0), (0, .ref p0)]) (pc' := 22) 13 rfl rfl rfl (by decide) rfl ?_
  refine v_aload_n (pc' := 23) 14 2 rfl rfl rfl rfl ?_
  refine v_getI (pc' := 26) 15 rfl rfl pf_X2_24 (ck0l hp0) (lay_lt (ck0l hp0) (by decide)) ?_
  refine v_istore (ls' := [(4, .int (I p0 4)), (3, .int 0), (2, .int s0), (0, .ref p0)]) (pc' := 28) 16 rfl rfl (by decide) rfl ?_
  refine V.sub [3, 2, 1, 0] rfl ?_
  obtain ⟨n337, h⟩ := h
  exact l_X2_touchedBy_28 p0 s0 I L hp0 Q n337 (0 : Int32) (I p0 4) h
set_option maxHeartbeats 4000000 in
set_option maxRecDepth 100000 in
theorem ok_X2_touchedBy {G : GT} {b d t : Nat} (p0 : Nat) (p1 : Int32) (I : TI) (L : TL) (hp0 : ckOK p0) {Q : Int32 → Prop} (h : W_X2_touchedBy p0 p1 I L Q) : MW G Y_X2_touchedBy [.ref p0, .int p1] (I, L, RT b d t, 457) (fun v9 u9 => ∃ (r9 : Int32), v9 = some (.int r9) ∧ u9 = (I, L, RT b d t, 457) ∧ Q r9) (fun _ _ => False) := by
  unfold W_X2_touchedBy at h
  refine MW.intro rfl (by decide) is_X2_touchedBy (Nat.le_of_ble_eq_true rfl) ?_
  show V G Y_X2_touchedBy 0 [(0, .ref p0), (1, .int p1)] [] (I, L, RT b d t, 457) 0 0 _ _
  refine v_aload_n (pc' := 1) 0 0 rfl rfl rfl rfl ?_
  refine v_iload_n (pc' := 2) 1 1 rfl rfl rfl rfl ?_
  refine v_cV (Y2 := Y_X2_hasGate) (As := [.int p1]) (b := p0) (pc' := 5) (c1 := 0) (s1 := 0) 2 rfl rfl mf_X2_hasGate rfl rfl ml_X2_56 mi_X2_hasGate se_X2_hasGate (ci := 1) rfl (ck0l hp0) (lay_lt (ck0l hp0) (by decide)) rfl (Nat.le_of_ble_eq_true rfl) ⟨Nat.le_of_ble_eq_true rfl, Nat.le_of_ble_eq_true rfl⟩ rfl rfl (ok_X2_hasGate p0 p1 I L hp0 h) ?_ ?_
  · intro e9 u9 hx9
    exact hx9.elim
  intro v9 u9 hv9
  obtain ⟨r338, rfl, rfl, h⟩ := hv9
  refine ⟨fun q => absurd q (Nat.lt_irrefl _), ?_⟩
  show V G Y_X2_touchedBy 5 _ (.int r338 :: _) _ _ _ _ _
  refine v_if_eq (tgt := 14) (pc' := 8) 3 rfl rfl (by decide) (fun hc => ?_) (fun hc => ?_)
  · replace h := h.1 hc
    refine v_aload_n (pc' := 15) 8 0 rfl rfl rfl rfl ?_
    refine v_iload_n (pc' := 16) 9 1 rfl rfl rfl rfl ?_
    refine v_cV (Y2 := Y_X2_readersOf) (As := [.int p1]) (b := p0) (pc' := 19) (c1 := 0) (s1 := 0) 10 rfl rfl mf_X2_readersOf rfl rfl ml_X2_60 mi_X2_readersOf se_X2_readersOf (ci := 1) rfl (ck0l hp0) (lay_lt (ck0l hp0) (by decide)) rfl (Nat.le_of_ble_eq_true rfl) ⟨Nat.le_of_ble_eq_true rfl, Nat.le_of_ble_eq_true rfl⟩ rfl rfl (ok_X2_readersOf p0 p1 I L hp0 h) ?_ ?_
    · intro e9 u9 hx9
      exact hx9.elim
    intro v9 u9 hv9
    obtain ⟨r339, rfl, rfl, h⟩ := hv9
    refine ⟨fun q => absurd q (Nat.lt_irrefl _), ?_⟩
    show V G Y_X2_touchedBy 19 _ (.int r339 :: _) _ _ _ _ _
    refine V.sub [0] rfl ?_
    exact b_X2_touchedBy_19 p0 r339 I L hp0 Q h
  replace h := h.2 hc
  refine v_iconst (v := 1) (pc' := 9) 4 rfl rfl (by decide) ?_
  refine v_iload_n (pc' := 10) 5 1 rfl rfl rfl rfl ?_
  refine v_ishl (pc' := 11) 6 rfl rfl ?_
  refine v_goto (tgt := 19) 7 rfl (by decide) ?_
  refine V.sub [0] rfl ?_
  exact b_X2_touchedBy_19 p0 ((1 : Int32) <<< (p1 &&& 31)) I L hp0 Q h
set_option maxHeartbeats 4000000 in
set_option maxRecDepth 100000 in
theorem ok_X3_isPending {G : GT} {b d t : Nat} (p0 : Nat) (I : TI) (L : TL) (hp0 : LAY p0 = 2) {Q : Int32 → Prop} (h : W_X3_isPending p0 I L Q) : MW G Y_X3_isPending [.ref p0] (I, L, RT b d t, 457) (fun v9 u9 => ∃ (r9 : Int32), v9 = some (.int r9) ∧ u9 = (I, L, RT b d t, 457) ∧ Q r9) (fun _ _ => False) := by
  unfold W_X3_isPending at h
  refine MW.intro rfl (by decide) is_X3_isPending (Nat.le_of_ble_eq_true rfl) ?_
  show V G Y_X3_isPending 0 [(0, .ref p0)] [] (I, L, RT b d t, 457) 0 0 _ _
  refine v_aload_n (pc' := 1) 0 0 rfl rfl rfl rfl ?_
  refine v_getI (pc' := 4) 1 rfl rfl pf_X3_34 hp0 (lay_lt hp0 (by decide)) ?_
  refine v_if_eq (tgt := 15) (pc' := 7) 2 rfl rfl (by decide) (fun hc => ?_) (fun hc => ?_)
  · replace h := h.1 hc
    refine v_iconst (v := 1) (pc' := 16) 7 rfl rfl (by decide) ?_
    refine v_goto (tgt := 20) 8 rfl (by decide) ?_
    exact v_bret 10 rfl rfl (by decide) (by decide) (by decide) ⟨_, rfl, rfl, h⟩
  replace h := h.2 hc
  refine v_aload_n (pc' := 8) 3 0 rfl rfl rfl rfl ?_
  refine v_getI (pc' := 11) 4 rfl rfl pf_X3_34 hp0 (lay_lt hp0 (by decide)) ?_
  refine v_iconst (v := 1) (pc' := 12) 5 rfl rfl (by decide) ?_
  refine v_icmp_ne (tgt := 19) (pc' := 15) 6 rfl rfl (by decide) (fun hc => ?_) (fun hc => ?_)
  · replace h := h.1 hc
    refine v_iconst (v := 0) (pc' := 20) 9 rfl rfl (by decide) ?_
    exact v_bret 10 rfl rfl (by decide) (by decide) (by decide) ⟨_, rfl, rfl, h⟩
  replace h := h.2 hc
  refine v_iconst (v := 1) (pc' := 16) 7 rfl rfl (by decide) ?_
  refine v_goto (tgt := 20) 8 rfl (by decide) ?_
  exact v_bret 10 rfl rfl (by decide) (by decide) (by decide) ⟨_, rfl, rfl, h⟩
set_option maxHeartbeats 4000000 in
set_option maxRecDepth 100000 in
theorem b_X6_dropPending_50 {G : GT} {b d t : Nat} (p0 : Nat) (v1 : Int32) (v2 : Int32) (v3 : Int32) (I : TI) (L : TL) (hp0 : stOK p0) (Q : Int32 → TI → Prop) (R4 : Int32 → Int32 → TI → Prop) (hR4 : ∀ (v2 : Int32) (v3 : Int32) (I : TI), R4 v2 v3 I → V G Y_X6_dropPending 4 [(0, .ref p0), (1, .int v1), (2, .int v2), (3, .int v3)] [] (I, L, RT b d t, 457) 0 0 (fun v9 u9 => ∃ (r9 : Int32) (I9 : TI), v9 = some (.int r9) ∧ u9 = (I9, L, RT b d t, 457) ∧ Q r9 I9) (fun _ _ => False)) (h : B_X6_dropPending_50 p0 v1 v2 v3 I L Q R4) : V G Y_X6_dropPending 50 [(0, .ref p0), (1, .int v1), (2, .int v2), (3, .int v3)] [] (I, L, RT b d t, 457) 0 0 (fun v9 u9 => ∃ (r9 : Int32) (I9 : TI), v9 = some (.int r9) ∧ u9 = (I9, L, RT b d t, 457) ∧ Q r9 I9) (fun _ _ => False) := by
  unfold B_X6_dropPending_50 at h
  refine v_iinc (v := (v3 + 1)) (ls' := [(3, .int (v3 + 1)), (0, .ref p0), (1, .int v1), (2, .int v2)]) (pc' := 53) 28 3 rfl rfl rfl rfl (by decide) rfl ?_
  refine v_goto (tgt := 4) 29 rfl (by decide) ?_
  refine V.sub [1, 2, 3, 0] rfl ?_
  exact hR4 v2 (v3 + 1) I h
set_option maxHeartbeats 4000000 in
set_option maxRecDepth 100000 in
theorem d_X6_dropPending_4 {G : GT} {b d t : Nat} (p0 : Nat) (v1 : Int32) (L : TL) (hp0 : stOK p0) (Q : Int32 → TI → Prop) (R4 : Int32 → Int32 → TI → Prop)  (hR4 : ∀ (v2 : Int32) (v3 : Int32) (I : TI), R4 v2 v3 I → V G Y_X6_dropPending 4 [(0, .ref p0), (1, .int v1), (2, .int v2), (3, .int v3)] [] (I, L, RT b d t, 457) 0 0 (fun v9 u9 => ∃ (r9 : Int32) (I9 : TI), v9 = some (.int r9) ∧ u9 = (I9, L, RT b d t, 457) ∧ Q r9 I9) (fun _ _ => False)) (v2 : Int32) (v3 : Int32) (I : TI)  (h : D_X6_dropPending_4 p0 v1 L Q R4 v2 v3 I) : V G Y_X6_dropPending 4 [(0, .ref p0), (1, .int v1), (2, .int v2), (3, .int v3)] [] (I, L, RT b d t, 457) 0 0 (fun v9 u9 => ∃ (r9 : Int32) (I9 : TI), v9 = some (.int r9) ∧ u9 = (I9, L, RT b d t, 457) ∧ Q r9 I9) (fun _ _ => False) := by
  unfold D_X6_dropPending_4 at h
  refine v_iload_n (pc' := 5) 4 3 rfl rfl rfl rfl ?_
  refine v_aload_n (pc' := 6) 5 0 rfl rfl rfl rfl ?_
  refine v_getI (pc' := 9) 6 rfl rfl pf_X6_39 (st0l hp0) (lay_lt (st0l hp0) (by decide)) ?_
  refine v_icmp_ge (tgt := 56) (pc' := 12) 7 rfl rfl (by decide) (fun hc => ?_) (fun hc => ?_)
  · replace h := h.1 hc
    refine v_iload_n (pc' := 57) 30 2 rfl rfl rfl rfl ?_
    exact v_iret 31 rfl rfl (by decide) (by decide) ⟨_, _, rfl, rfl, h⟩
  replace h := h.2 hc
  refine v_aload_n (pc' := 13) 8 0 rfl rfl rfl rfl ?_
  refine v_getR (t := (p0 + 10)) (pc' := 16) 9 rfl rfl pf_X6_35 (st0l hp0) (lay_lt (st0l hp0) (by decide)) (rt_st_6 hp0) ?_
  refine v_iload_n (pc' := 17) 10 3 rfl rfl rfl rfl ?_
  obtain ⟨hi348, h⟩ := h
  refine v_aald5 (i := v3) (r := ((p0 + 11) + v3.toNatClampNeg)) (j := v3.toNatClampNeg) (pc' := 18) 11 rfl rfl (st10l hp0) (st10n hp0) (lay_lt (st10l hp0) (by decide)) hi348 rfl (rt_dis hp0 (vp_nat hi348)) ?_
  refine v_getI (pc' := 21) 12 rfl rfl pf_X6_83 (st_disl hp0 (vp_nat hi348)) (lay_lt (st_disl hp0 (vp_nat hi348)) (by decide)) ?_
  refine v_iload_n (pc' := 22) 13 1 rfl rfl rfl rfl ?_
  refine v_icmp_ne (tgt := 50) (pc' := 25) 14 rfl rfl (by decide) (fun hc => ?_) (fun hc => ?_)
  · replace h := h.1 hc
    exact b_X6_dropPending_50 p0 v1 v2 v3 I L hp0 Q R4 hR4 h
  replace h := h.2 hc
  refine v_aload_n (pc' := 26) 15 0 rfl rfl rfl rfl ?_
  refine v_getR (t := (p0 + 10)) (pc' := 29) 16 rfl rfl pf_X6_35 (st0l hp0) (lay_lt (st0l hp0) (by decide)) (rt_st_6 hp0) ?_
  refine v_iload_n (pc' := 30) 17 3 rfl rfl rfl rfl ?_
  obtain ⟨hi349, h⟩ := h
  refine v_aald5 (i := v3) (r := ((p0 + 11) + v3.toNatClampNeg)) (j := v3.toNatClampNeg) (pc' := 31) 18 rfl rfl (st10l hp0) (st10n hp0) (lay_lt (st10l hp0) (by decide)) hi349 rfl (rt_dis hp0 (vp_nat hi349)) ?_
  refine v_cV (Y2 := Y_X3_isPending) (As := []) (b := ((p0 + 11) + v3.toNatClampNeg)) (pc' := 34) (c1 := 0) (s1 := 0) 19 rfl rfl mf_X3_isPending rfl rfl ml_X6_79 mi_X3_isPending se_X3_isPending (ci := 2) rfl (st_disl hp0 (vp_nat hi349)) (lay_lt (st_disl hp0 (vp_nat hi349)) (by decide)) rfl (Nat.le_of_ble_eq_true rfl) ⟨Nat.le_of_ble_eq_true rfl, Nat.le_of_ble_eq_true rfl⟩ rfl rfl (ok_X3_isPending ((p0 + 11) + v3.toNatClampNeg) I L (st_disl hp0 (vp_nat hi349)) h) ?_ ?_
  · intro e9 u9 hx9
    exact hx9.elim
  intro v9 u9 hv9
  obtain ⟨r350, rfl, rfl, h⟩ := hv9
  refine ⟨fun q => absurd q (Nat.lt_irrefl _), ?_⟩
  show V G Y_X6_dropPending 34 _ (.int r350 :: _) _ _ _ _ _
  refine v_if_eq (tgt := 50) (pc' := 37) 20 rfl rfl (by decide) (fun hc => ?_) (fun hc => ?_)
  · replace h := h.1 hc
    exact b_X6_dropPending_50 p0 v1 v2 v3 I L hp0 Q R4 hR4 h
  replace h := h.2 hc
  refine v_aload_n (pc' := 38) 21 0 rfl rfl rfl rfl ?_
  refine v_getR (t := (p0 + 10)) (pc' := 41) 22 rfl rfl pf_X6_35 (st0l hp0) (lay_lt (st0l hp0) (by decide)) (rt_st_6 hp0) ?_
  refine v_iload_n (pc' := 42) 23 3 rfl rfl rfl rfl ?_
  obtain ⟨hi351, h⟩ := h
  refine v_aald5 (i := v3) (r := ((p0 + 11) + v3.toNatClampNeg)) (j := v3.toNatClampNeg) (pc' := 43) 24 rfl rfl (st10l hp0) (st10n hp0) (lay_lt (st10l hp0) (by decide)) hi351 rfl (rt_dis hp0 (vp_nat hi351)) ?_
  refine v_iconst (v := 4) (pc' := 44) 25 rfl rfl (by decide) ?_
  refine v_putI (pc' := 47) 26 rfl rfl pf_X6_92 (fun q => absurd q (by decide)) (st_disl hp0 (vp_nat hi351)) (lay_lt (st_disl hp0 (vp_nat hi351)) (by decide)) ?_
  refine v_iinc (v := (v2 + 1)) (ls' := [(2, .int (v2 + 1)), (0, .ref p0), (1, .int v1), (3, .int v3)]) (pc' := 50) 27 2 rfl rfl rfl rfl (by decide) rfl ?_
  refine V.sub [1, 2, 0, 3] rfl ?_
  exact b_X6_dropPending_50 p0 v1 (v2 + 1) v3 (up2 I ((p0 + 11) + v3.toNatClampNeg) 6 4) L hp0 Q R4 hR4 h
theorem l_X6_dropPending_4 {G : GT} {b d t : Nat} (p0 : Nat) (v1 : Int32) (L : TL) (hp0 : stOK p0) (Q : Int32 → TI → Prop)  : ∀ (n9 : Nat) (v2 : Int32) (v3 : Int32) (I : TI), L_X6_dropPending_4 p0 v1 L Q n9 v2 v3 I → V G Y_X6_dropPending 4 [(0, .ref p0), (1, .int v1), (2, .int v2), (3, .int v3)] [] (I, L, RT b d t, 457) 0 0 (fun v9 u9 => ∃ (r9 : Int32) (I9 : TI), v9 = some (.int r9) ∧ u9 = (I9, L, RT b d t, 457) ∧ Q r9 I9) (fun _ _ => False)
  | 0, _, _, _, h => h.elim
  | n9 + 1, v2, v3, I, h => d_X6_dropPending_4 p0 v1 L hp0 Q _ (l_X6_dropPending_4 p0 v1 L hp0 Q n9) v2 v3 I h
set_option maxHeartbeats 4000000 in
set_option maxRecDepth 100000 in
theorem ok_X6_dropPending {G : GT} {b d t : Nat} (p0 : Nat) (p1 : Int32) (I : TI) (L : TL) (hp0 : stOK p0) {Q : Int32 → TI → Prop} (h : W_X6_dropPending p0 p1 I L Q) : MW G Y_X6_dropPending [.ref p0, .int p1] (I, L, RT b d t, 457) (fun v9 u9 => ∃ (r9 : Int32) (I9 : TI), v9 = some (.int r9) ∧ u9 = (I9, L, RT b d t, 457) ∧ Q r9 I9) (fun _ _ => False) := by
  unfold W_X6_dropPending at h
  refine MW.intro rfl (by decide) is_X6_dropPending (Nat.le_of_ble_eq_true rfl) ?_
  show V G Y_X6_dropPending 0 [(0, .ref p0), (1, .int p1)] [] (I, L, RT b d t, 457) 0 0 _ _
  refine v_iconst (v := 0) (pc' := 1) 0 rfl rfl (by decide) ?_
  refine v_istore_n (ls' := [(2, .int 0), (0, .ref p0), (1, .int p1)]) (pc' := 2) 1 rfl rfl rfl (by decide) rfl ?_
  refine v_iconst (v := 0) (pc' := 3) 2 rfl rfl (by decide) ?_
  refine v_istore_n (ls' := [(3, .int 0), (2, .int 0), (0, .ref p0), (1, .int p1)]) (pc' := 4) 3 rfl rfl rfl (by decide) rfl ?_
  refine V.sub [2, 3, 1, 0] rfl ?_
  obtain ⟨n352, h⟩ := h
  exact l_X6_dropPending_4 p0 p1 L hp0 Q n352 (0 : Int32) (0 : Int32) I h
set_option maxHeartbeats 4000000 in
set_option maxRecDepth 100000 in
theorem b_X0_unsettle_63 {G : GT} {b d t : Nat} (p0 : Nat) (v2 : Int32) (v3 : Int32) (v4 : Int32) (I : TI) (L : TL) (hp0 : bnOK p0) (Q : Int32 → TI → TL → Prop) (R20 : Int32 → Int32 → TI → TL → Prop) (hR20 : ∀ (v3 : Int32) (v4 : Int32) (I : TI) (L : TL), R20 v3 v4 I L → V G Y_X0_unsettle 20 [(0, .ref p0), (2, .int v2), (3, .int v3), (4, .int v4)] [] (I, L, RT b d t, 457) 0 0 (fun v9 u9 => ∃ (r9 : Int32) (I9 : TI) (L9 : TL), v9 = some (.int r9) ∧ u9 = (I9, L9, RT b d t, 457) ∧ Q r9 I9 L9) (fun _ _ => False)) (h : B_X0_unsettle_63 p0 v2 v3 v4 I L Q R20) : V G Y_X0_unsettle 63 [(0, .ref p0), (2, .int v2), (3, .int v3), (4, .int v4)] [] (I, L, RT b d t, 457) 0 0 (fun v9 u9 => ∃ (r9 : Int32) (I9 : TI) (L9 : TL), v9 = some (.int r9) ∧ u9 = (I9, L9, RT b d t, 457) ∧ Q r9 I9 L9) (fun _ _ => False) := by
  unfold B_X0_unsettle_63 at h
  refine v_iinc (v := (v4 + 1)) (ls' := [(4, .int (v4 + 1)), (0, .ref p0), (2, .int v2), (3, .int v3)]) (pc' := 66) 34 3 rfl rfl rfl rfl (by decide) rfl ?_
  refine v_goto (tgt := 20) 35 rfl (by decide) ?_
  refine V.sub [1, 2, 3, 0] rfl ?_
  exact hR20 v3 (v4 + 1) I L h
set_option maxHeartbeats 4000000 in
set_option maxRecDepth 100000 in
theorem d_X0_unsettle_20 {G : GT} {b d t : Nat} (p0 : Nat) (v2 : Int32) (hp0 : bnOK p0) (Q : Int32 → TI → TL → Prop) (R20 : Int32 → Int32 → TI → TL → Prop)  (hR20 : ∀ (v3 : Int32) (v4 : Int32) (I : TI) (L : TL), R20 v3 v4 I L → V G Y_X0_unsettle 20 [(0, .ref p0), (2, .int v2), (3, .int v3), (4, .int v4)] [] (I, L, RT b d t, 457) 0 0 (fun v9 u9 => ∃ (r9 : Int32) (I9 : TI) (L9 : TL), v9 = some (.int r9) ∧ u9 = (I9, L9, RT b d t, 457) ∧ Q r9 I9 L9) (fun _ _ => False)) (v3 : Int32) (v4 : Int32) (I : TI) (L : TL)  (h : D_X0_unsettle_20 p0 v2 Q R20 v3 v4 I L) : V G Y_X0_unsettle 20 [(0, .ref p0), (2, .int v2), (3, .int v3), (4, .int v4)] [] (I, L, RT b d t, 457) 0 0 (fun v9 u9 => ∃ (r9 : Int32) (I9 : TI) (L9 : TL), v9 = some (.int r9) ∧ u9 = (I9, L9, RT b d t, 457) ∧ Q r9 I9 L9) (fun _ _ => False) := by
  unfold D_X0_unsettle_20 at h
  refine v_iload (pc' := 22) 11 3 rfl rfl rfl ?_
  refine v_aload_n (pc' := 23) 12 0 rfl rfl rfl rfl ?_
  refine v_getR (t := (p0 + 1)) (pc' := 26) 13 rfl rfl pf_X0_12 (bn0l hp0) (lay_lt (bn0l hp0) (by decide)) (rt_bn_0 hp0) ?_
  refine v_cV (Y2 := Y_X2_nets) (As := []) (b := (p0 + 1)) (pc' := 29) (c1 := 0) (s1 := 0) 14 rfl rfl mf_X2_nets rfl rfl ml_X0_53 mi_X2_nets se_X2_nets (ci := 1) rfl (bn1l hp0) (lay_lt (bn1l hp0) (by decide)) rfl (Nat.le_of_ble_eq_true rfl) ⟨Nat.le_of_ble_eq_true rfl, Nat.le_of_ble_eq_true rfl⟩ rfl rfl (ok_X2_nets (p0 + 1) I L (bn_ck hp0) h) ?_ ?_
  · intro e9 u9 hx9
    exact hx9.elim
  intro v9 u9 hv9
  obtain ⟨r367, rfl, rfl, h⟩ := hv9
  refine ⟨fun q => absurd q (Nat.lt_irrefl _), ?_⟩
  show V G Y_X0_unsettle 29 _ (.int r367 :: _) _ _ _ _ _
  refine v_icmp_ge (tgt := 69) (pc' := 32) 15 rfl rfl (by decide) (fun hc => ?_) (fun hc => ?_)
  · replace h := h.1 hc
    refine v_aload_n (pc' := 70) 36 0 rfl rfl rfl rfl ?_
    refine v_cV (Y2 := Y_X0_refresh) (As := []) (b := p0) (pc' := 73) (c1 := 0) (s1 := 0) 37 rfl rfl mf_X0_refresh rfl rfl ml_X0_156 mi_X0_refresh se_X0_refresh (ci := 0) rfl (bn0l hp0) (lay_lt (bn0l hp0) (by decide)) rfl (Nat.le_of_ble_eq_true rfl) ⟨Nat.le_of_ble_eq_true rfl, Nat.le_of_ble_eq_true rfl⟩ rfl rfl (ok_X0_refresh p0 I L hp0 h) ?_ ?_
    · intro e9 u9 hx9
      exact hx9.elim
    intro v9 u9 hv9
    obtain ⟨I368, L369, rfl, rfl, h⟩ := hv9
    refine ⟨fun q => absurd q (Nat.lt_irrefl _), ?_⟩
    show V G Y_X0_unsettle 73 _ _ _ _ _ _ _
    refine v_iload_n (pc' := 74) 38 2 rfl rfl rfl rfl ?_
    exact v_iret 39 rfl rfl (by decide) (by decide) ⟨_, _, _, rfl, rfl, h⟩
  replace h := h.2 hc
  refine v_iload_n (pc' := 33) 16 1 rfl rfl rfl rfl ?_
  refine v_iload (pc' := 35) 17 3 rfl rfl rfl ?_
  refine v_iushr (pc' := 36) 18 rfl rfl ?_
  refine v_iconst (v := 1) (pc' := 37) 19 rfl rfl (by decide) ?_
  refine v_iand (pc' := 38) 20 rfl rfl ?_
  refine v_iconst (v := 1) (pc' := 39) 21 rfl rfl (by decide) ?_
  refine v_icmp_ne (tgt := 63) (pc' := 42) 22 rfl rfl (by decide) (fun hc => ?_) (fun hc => ?_)
  · replace h := h.1 hc
    exact b_X0_unsettle_63 p0 v2 v3 v4 I L hp0 Q R20 hR20 h
  replace h := h.2 hc
  refine v_aload_n (pc' := 43) 23 0 rfl rfl rfl rfl ?_
  refine v_getR (t := (p0 + 6)) (pc' := 46) 24 rfl rfl pf_X0_21 (bn0l hp0) (lay_lt (bn0l hp0) (by decide)) (rt_bn_1 hp0) ?_
  refine v_iload (pc' := 48) 25 3 rfl rfl rfl ?_
  refine v_cV (Y2 := Y_X6_forget) (As := [.int v4]) (b := (p0 + 6)) (pc' := 51) (c1 := 0) (s1 := 0) 26 rfl rfl mf_X6_forget rfl rfl ml_X0_165 mi_X6_forget se_X6_forget (ci := 5) rfl (bn6l hp0) (lay_lt (bn6l hp0) (by decide)) rfl (Nat.le_of_ble_eq_true rfl) ⟨Nat.le_of_ble_eq_true rfl, Nat.le_of_ble_eq_true rfl⟩ rfl rfl (ok_X6_forget (p0 + 6) v4 I L (bn_st hp0) h) ?_ ?_
  · intro e9 u9 hx9
    exact hx9.elim
  intro v9 u9 hv9
  obtain ⟨L370, rfl, rfl, h⟩ := hv9
  refine ⟨fun q => absurd q (Nat.lt_irrefl _), ?_⟩
  show V G Y_X0_unsettle 51 _ _ _ _ _ _ _
  refine v_iload_n (pc' := 52) 27 2 rfl rfl rfl rfl ?_
  refine v_aload_n (pc' := 53) 28 0 rfl rfl rfl rfl ?_
  refine v_getR (t := (p0 + 6)) (pc' := 56) 29 rfl rfl pf_X0_21 (bn0l hp0) (lay_lt (bn0l hp0) (by decide)) (rt_bn_1 hp0) ?_
  refine v_iload (pc' := 58) 30 3 rfl rfl rfl ?_
  refine v_cV (Y2 := Y_X6_dropPending) (As := [.int v4]) (b := (p0 + 6)) (pc' := 61) (c1 := 0) (s1 := 0) 31 rfl rfl mf_X6_dropPending rfl rfl ml_X0_169 mi_X6_dropPending se_X6_dropPending (ci := 5) rfl (bn6l hp0) (lay_lt (bn6l hp0) (by decide)) rfl (Nat.le_of_ble_eq_true rfl) ⟨Nat.le_of_ble_eq_true rfl, Nat.le_of_ble_eq_true rfl⟩ rfl rfl (ok_X6_dropPending (p0 + 6) v4 I L370 (bn_st hp0) h) ?_ ?_
  · intro e9 u9 hx9
    exact hx9.elim
  intro v9 u9 hv9
  obtain ⟨r371, I372, rfl, rfl, h⟩ := hv9
  refine ⟨fun q => absurd q (Nat.lt_irrefl _), ?_⟩
  show V G Y_X0_unsettle 61 _ (.int r371 :: _) _ _ _ _ _
  refine v_iadd (pc' := 62) 32 rfl rfl ?_
  refine v_istore_n (ls' := [(3, .int (v3 + r371)), (0, .ref p0), (2, .int v2), (4, .int v4)]) (pc' := 63) 33 rfl rfl rfl (by decide) rfl ?_
  refine V.sub [1, 2, 0, 3] rfl ?_
  exact b_X0_unsettle_63 p0 v2 (v3 + r371) v4 I372 L370 hp0 Q R20 hR20 h
theorem l_X0_unsettle_20 {G : GT} {b d t : Nat} (p0 : Nat) (v2 : Int32) (hp0 : bnOK p0) (Q : Int32 → TI → TL → Prop)  : ∀ (n9 : Nat) (v3 : Int32) (v4 : Int32) (I : TI) (L : TL), L_X0_unsettle_20 p0 v2 Q n9 v3 v4 I L → V G Y_X0_unsettle 20 [(0, .ref p0), (2, .int v2), (3, .int v3), (4, .int v4)] [] (I, L, RT b d t, 457) 0 0 (fun v9 u9 => ∃ (r9 : Int32) (I9 : TI) (L9 : TL), v9 = some (.int r9) ∧ u9 = (I9, L9, RT b d t, 457) ∧ Q r9 I9 L9) (fun _ _ => False)
  | 0, _, _, _, _, h => h.elim
  | n9 + 1, v3, v4, I, L, h => d_X0_unsettle_20 p0 v2 hp0 Q _ (l_X0_unsettle_20 p0 v2 hp0 Q n9) v3 v4 I L h
set_option maxHeartbeats 4000000 in
set_option maxRecDepth 100000 in
theorem ok_X0_unsettle {G : GT} {b d t : Nat} (p0 : Nat) (p1 : Int32) (I : TI) (L : TL) (hp0 : bnOK p0) {Q : Int32 → TI → TL → Prop} (h : W_X0_unsettle p0 p1 I L Q) : MW G Y_X0_unsettle [.ref p0, .int p1] (I, L, RT b d t, 457) (fun v9 u9 => ∃ (r9 : Int32) (I9 : TI) (L9 : TL), v9 = some (.int r9) ∧ u9 = (I9, L9, RT b d t, 457) ∧ Q r9 I9 L9) (fun _ _ => False) := by
  unfold W_X0_unsettle at h
  refine MW.intro rfl (by decide) is_X0_unsettle (Nat.le_of_ble_eq_true rfl) ?_
  show V G Y_X0_unsettle 0 [(0, .ref p0), (1, .int p1)] [] (I, L, RT b d t, 457) 0 0 _ _
  refine v_aload_n (pc' := 1) 0 0 rfl rfl rfl rfl ?_
  refine v_getR (t := (p0 + 1)) (pc' := 4) 1 rfl rfl pf_X0_12 (bn0l hp0) (lay_lt (bn0l hp0) (by decide)) (rt_bn_0 hp0) ?_
  refine v_iload_n (pc' := 5) 2 1 rfl rfl rfl rfl ?_
  refine v_cV (Y2 := Y_X2_touchedBy) (As := [.int p1]) (b := (p0 + 1)) (pc' := 8) (c1 := 0) (s1 := 0) 3 rfl rfl mf_X2_touchedBy rfl rfl ml_X0_162 mi_X2_touchedBy se_X2_touchedBy (ci := 1) rfl (bn1l hp0) (lay_lt (bn1l hp0) (by decide)) rfl (Nat.le_of_ble_eq_true rfl) ⟨Nat.le_of_ble_eq_true rfl, Nat.le_of_ble_eq_true rfl⟩ rfl rfl (ok_X2_touchedBy (p0 + 1) p1 I L (bn_ck hp0) h) ?_ ?_
  · intro e9 u9 hx9
    exact hx9.elim
  intro v9 u9 hv9
  obtain ⟨r373, rfl, rfl, h⟩ := hv9
  refine ⟨fun q => absurd q (Nat.lt_irrefl _), ?_⟩
  show V G Y_X0_unsettle 8 _ (.int r373 :: _) _ _ _ _ _
  refine v_istore_n (ls' := [(2, .int r373), (0, .ref p0), (1, .int p1)]) (pc' := 9) 4 rfl rfl rfl (by decide) rfl ?_
  refine v_iconst (v := 0) (pc' := 10) 5 rfl rfl (by decide) ?_
  refine v_istore_n (ls' := [(3, .int 0), (2, .int r373), (0, .ref p0), (1, .int p1)]) (pc' := 11) 6 rfl rfl rfl (by decide) rfl ?_
  refine v_aload_n (pc' := 12) 7 2 rfl rfl rfl rfl ?_
  refine v_getR (t := (p0 + 1)) (pc' := 15) 8 rfl rfl pf_X0_12 (bn0l hp0) (lay_lt (bn0l hp0) (by decide)) (rt_bn_0 hp0) ?_
  refine v_getI (pc' := 18) 9 rfl rfl pf_X0_46 (bn1l hp0) (lay_lt (bn1l hp0) (by decide)) ?_
  refine v_istore (ls' := [(4, .int (I (p0 + 1) 4)), (3, .int 0), (2, .int r373), (0, .ref p0), (1, .int p1)]) (pc' := 20) 10 rfl rfl (by decide) rfl ?_
  refine V.sub [3, 2, 1, 0] rfl ?_
  obtain ⟨n374, h⟩ := h
  exact l_X0_unsettle_20 p0 r373 hp0 Q n374 (0 : Int32) (I (p0 + 1) 4) I L h
set_option maxHeartbeats 4000000 in
set_option maxRecDepth 100000 in
theorem ok_X7_failed {G : GT} {b d t : Nat} (I : TI) (L : TL)  {Q : Int32 → Prop} (h : W_X7_failed I L Q) : MW G Y_X7_failed [.ref 344] (I, L, RT b d t, 457) (fun v9 u9 => ∃ (r9 : Int32), v9 = some (.int r9) ∧ u9 = (I, L, RT b d t, 457) ∧ Q r9) (fun _ _ => False) := by
  unfold W_X7_failed at h
  refine MW.intro rfl (by decide) is_X7_failed (Nat.le_of_ble_eq_true rfl) ?_
  show V G Y_X7_failed 0 [(0, .ref 344)] [] (I, L, RT b d t, 457) 0 0 _ _
  refine v_aload_n (pc' := 1) 0 0 rfl rfl rfl rfl ?_
  refine v_getI (pc' := 4) 1 rfl rfl pf_X7_31 ly_344 (lay_lt ly_344 (by decide)) ?_
  refine v_if_eq (tgt := 11) (pc' := 7) 2 rfl rfl (by decide) (fun hc => ?_) (fun hc => ?_)
  · replace h := h.1 hc
    refine v_iconst (v := 0) (pc' := 12) 5 rfl rfl (by decide) ?_
    exact v_bret 6 rfl rfl (by decide) (by decide) (by decide) ⟨_, rfl, rfl, h⟩
  replace h := h.2 hc
  refine v_iconst (v := 1) (pc' := 8) 3 rfl rfl (by decide) ?_
  refine v_goto (tgt := 12) 4 rfl (by decide) ?_
  exact v_bret 6 rfl rfl (by decide) (by decide) (by decide) ⟨_, rfl, rfl, h⟩
set_option maxHeartbeats 4000000 in
set_option maxRecDepth 100000 in
theorem ok_X7_fail {G : GT} {b d t : Nat} (p1 : Int32) (I : TI) (L : TL)  {Q : TI → Prop} (h : W_X7_fail p1 I L Q) : MW G Y_X7_fail [.ref 344, .int p1] (I, L, RT b d t, 457) (fun v9 u9 => ∃ (I9 : TI), v9 = none ∧ u9 = (I9, L, RT b d t, 457) ∧ Q I9) (fun _ _ => False) := by
  unfold W_X7_fail at h
  refine MW.intro rfl (by decide) is_X7_fail (Nat.le_of_ble_eq_true rfl) ?_
  show V G Y_X7_fail 0 [(0, .ref 344), (1, .int p1)] [] (I, L, RT b d t, 457) 0 0 _ _
  refine v_aload_n (pc' := 1) 0 0 rfl rfl rfl rfl ?_
  refine v_cV (Y2 := Y_X7_failed) (As := []) (b := 344) (pc' := 4) (c1 := 0) (s1 := 0) 1 rfl rfl mf_X7_failed rfl rfl ml_X7_46 mi_X7_failed se_X7_failed (ci := 6) rfl ly_344 (lay_lt ly_344 (by decide)) rfl (Nat.le_of_ble_eq_true rfl) ⟨Nat.le_of_ble_eq_true rfl, Nat.le_of_ble_eq_true rfl⟩ rfl rfl (ok_X7_failed I L h) ?_ ?_
  · intro e9 u9 hx9
    exact hx9.elim
  intro v9 u9 hv9
  obtain ⟨r376, rfl, rfl, h⟩ := hv9
  refine ⟨fun q => absurd q (Nat.lt_irrefl _), ?_⟩
  show V G Y_X7_fail 4 _ (.int r376 :: _) _ _ _ _ _
  refine v_if_ne (tgt := 20) (pc' := 7) 2 rfl rfl (by decide) (fun hc => ?_) (fun hc => ?_)
  · replace h := h.1 hc
    exact v_vret 10 rfl rfl (by decide) (by decide) ⟨_, rfl, rfl, h⟩
  replace h := h.2 hc
  refine v_aload_n (pc' := 8) 3 0 rfl rfl rfl rfl ?_
  refine v_iload_n (pc' := 9) 4 1 rfl rfl rfl rfl ?_
  refine v_putI (pc' := 12) 5 rfl rfl pf_X7_31 (fun q => absurd q (by decide)) ly_344 (lay_lt ly_344 (by decide)) ?_
  refine v_aload_n (pc' := 13) 6 0 rfl rfl rfl rfl ?_
  refine v_aload_n (pc' := 14) 7 0 rfl rfl rfl rfl ?_
  refine v_getI (pc' := 17) 8 rfl rfl pf_X7_19 ly_344 (lay_lt ly_344 (by decide)) ?_
  refine v_putI (pc' := 20) 9 rfl rfl pf_X7_34 (fun q => absurd q (by decide)) ly_344 (lay_lt ly_344 (by decide)) ?_
  exact v_vret 10 rfl rfl (by decide) (by decide) ⟨_, rfl, rfl, h⟩
set_option maxHeartbeats 4000000 in
set_option maxRecDepth 100000 in
theorem d_X7_scanWord_5 {G : GT} {b d : Nat} (L : TL) (t : Nat) (ht : txOK t) (Q : TI → Prop) (R5 : TI → Prop)  (hR5 : ∀ (I : TI), R5 I → V G Y_X7_scanWord 5 [(0, .ref 344)] [] (I, L, RT b d t, 457) 0 0 (fun v9 u9 => ∃ (I9 : TI), v9 = none ∧ u9 = (I9, L, RT b d t, 457) ∧ Q I9) (fun _ _ => False)) (I : TI)  (h : D_X7_scanWord_5 L t Q R5 I) : V G Y_X7_scanWord 5 [(0, .ref 344)] [] (I, L, RT b d t, 457) 0 0 (fun v9 u9 => ∃ (I9 : TI), v9 = none ∧ u9 = (I9, L, RT b d t, 457) ∧ Q I9) (fun _ _ => False) := by
  unfold D_X7_scanWord_5 at h
  refine v_aload_n (pc' := 6) 3 0 rfl rfl rfl rfl ?_
  refine v_getI (pc' := 9) 4 rfl rfl pf_X7_22 ly_344 (lay_lt ly_344 (by decide)) ?_
  refine v_aload_n (pc' := 10) 5 0 rfl rfl rfl rfl ?_
  refine v_getI (pc' := 13) 6 rfl rfl pf_X7_15 ly_344 (lay_lt ly_344 (by decide)) ?_
  refine v_icmp_ge (tgt := 57) (pc' := 16) 7 rfl rfl (by decide) (fun hc => ?_) (fun hc => ?_)
  · replace h := h.1 hc
    exact v_vret 29 rfl rfl (by decide) (by decide) ⟨_, rfl, rfl, h⟩
  replace h := h.2 hc
  refine v_aload_n (pc' := 17) 8 0 rfl rfl rfl rfl ?_
  refine v_getR (t := t) (pc' := 20) 9 rfl rfl pf_X7_9 ly_344 (lay_lt ly_344 (by decide)) rt_344_0 ?_
  refine v_aload_n (pc' := 21) 10 0 rfl rfl rfl rfl ?_
  refine v_getI (pc' := 24) 11 rfl rfl pf_X7_22 ly_344 (lay_lt ly_344 (by decide)) ?_
  obtain ⟨hi381, h⟩ := h
  refine v_bald (i := (I 344 3)) (j := (I 344 3).toNatClampNeg) (pc' := 25) 12 rfl rfl (tx0l ht) rfl (lay_lt (tx0l ht) (by decide)) hi381 rfl ?_
  refine v_bipush (v := 97) (pc' := 27) 13 rfl rfl (by decide) ?_
  refine v_icmp_lt (tgt := 57) (pc' := 30) 14 rfl rfl (by decide) (fun hc => ?_) (fun hc => ?_)
  · replace h := h.1 hc
    exact v_vret 29 rfl rfl (by decide) (by decide) ⟨_, rfl, rfl, h⟩
  replace h := h.2 hc
  refine v_aload_n (pc' := 31) 15 0 rfl rfl rfl rfl ?_
  refine v_getR (t := t) (pc' := 34) 16 rfl rfl pf_X7_9 ly_344 (lay_lt ly_344 (by decide)) rt_344_0 ?_
  refine v_aload_n (pc' := 35) 17 0 rfl rfl rfl rfl ?_
  refine v_getI (pc' := 38) 18 rfl rfl pf_X7_22 ly_344 (lay_lt ly_344 (by decide)) ?_
  obtain ⟨hi382, h⟩ := h
  refine v_bald (i := (I 344 3)) (j := (I 344 3).toNatClampNeg) (pc' := 39) 19 rfl rfl (tx0l ht) rfl (lay_lt (tx0l ht) (by decide)) hi382 rfl ?_
  refine v_bipush (v := 122) (pc' := 41) 20 rfl rfl (by decide) ?_
  refine v_icmp_gt (tgt := 57) (pc' := 44) 21 rfl rfl (by decide) (fun hc => ?_) (fun hc => ?_)
  · replace h := h.1 hc
    exact v_vret 29 rfl rfl (by decide) (by decide) ⟨_, rfl, rfl, h⟩
  replace h := h.2 hc
  refine v_aload_n (pc' := 45) 22 0 rfl rfl rfl rfl ?_
  refine v_dup (pc' := 46) 23 rfl rfl rfl ?_
  refine v_getI (pc' := 49) 24 rfl rfl pf_X7_22 ly_344 (lay_lt ly_344 (by decide)) ?_
  refine v_iconst (v := 1) (pc' := 50) 25 rfl rfl (by decide) ?_
  refine v_iadd (pc' := 51) 26 rfl rfl ?_
  refine v_putI (pc' := 54) 27 rfl rfl pf_X7_22 (fun q => absurd q (by decide)) ly_344 (lay_lt ly_344 (by decide)) ?_
  refine v_goto (tgt := 5) 28 rfl (by decide) ?_
  exact hR5 (up2 I 344 3 ((I 344 3) + 1)) h
theorem l_X7_scanWord_5 {G : GT} {b d : Nat} (L : TL) (t : Nat) (ht : txOK t) (Q : TI → Prop)  : ∀ (n9 : Nat) (I : TI), L_X7_scanWord_5 L t Q n9 I → V G Y_X7_scanWord 5 [(0, .ref 344)] [] (I, L, RT b d t, 457) 0 0 (fun v9 u9 => ∃ (I9 : TI), v9 = none ∧ u9 = (I9, L, RT b d t, 457) ∧ Q I9) (fun _ _ => False)
  | 0, _, h => h.elim
  | n9 + 1, I, h => d_X7_scanWord_5 L t ht Q _ (l_X7_scanWord_5 L t ht Q n9) I h
set_option maxHeartbeats 4000000 in
set_option maxRecDepth 100000 in
theorem ok_X7_scanWord {G : GT} {b d : Nat} (I : TI) (L : TL) (t : Nat) (ht : txOK t) {Q : TI → Prop} (h : W_X7_scanWord I L t Q) : MW G Y_X7_scanWord [.ref 344] (I, L, RT b d t, 457) (fun v9 u9 => ∃ (I9 : TI), v9 = none ∧ u9 = (I9, L, RT b d t, 457) ∧ Q I9) (fun _ _ => False) := by
  unfold W_X7_scanWord at h
  refine MW.intro rfl (by decide) is_X7_scanWord (Nat.le_of_ble_eq_true rfl) ?_
  show V G Y_X7_scanWord 0 [(0, .ref 344)] [] (I, L, RT b d t, 457) 0 0 _ _
  refine v_aload_n (pc' := 1) 0 0 rfl rfl rfl rfl ?_
  refine v_iconst (v := 1) (pc' := 2) 1 rfl rfl (by decide) ?_
  refine v_putI (pc' := 5) 2 rfl rfl pf_X7_25 (fun q => absurd q (by decide)) ly_344 (lay_lt ly_344 (by decide)) ?_
  obtain ⟨n383, h⟩ := h
  exact l_X7_scanWord_5 L t ht Q n383 (up2 I 344 4 1) h
set_option maxHeartbeats 4000000 in
set_option maxRecDepth 100000 in
theorem d_X7_scanNumber_10 {G : GT} {b d : Nat} (L : TL) (t : Nat) (ht : txOK t) (Q : TI → Prop) (R10 : TI → Prop)  (hR10 : ∀ (I : TI), R10 I → V G Y_X7_scanNumber 10 [(0, .ref 344)] [] (I, L, RT b d t, 457) 0 0 (fun v9 u9 => ∃ (I9 : TI), v9 = none ∧ u9 = (I9, L, RT b d t, 457) ∧ Q I9) (fun _ _ => False)) (I : TI)  (h : D_X7_scanNumber_10 L t Q R10 I) : V G Y_X7_scanNumber 10 [(0, .ref 344)] [] (I, L, RT b d t, 457) 0 0 (fun v9 u9 => ∃ (I9 : TI), v9 = none ∧ u9 = (I9, L, RT b d t, 457) ∧ Q I9) (fun _ _ => False) := by
  unfold D_X7_scanNumber_10 at h
  refine v_aload_n (pc' := 11) 6 0 rfl rfl rfl rfl ?_
  refine v_getI (pc' := 14) 7 rfl rfl pf_X7_22 ly_344 (lay_lt ly_344 (by decide)) ?_
  refine v_aload_n (pc' := 15) 8 0 rfl rfl rfl rfl ?_
  refine v_getI (pc' := 18) 9 rfl rfl pf_X7_15 ly_344 (lay_lt ly_344 (by decide)) ?_
  refine v_icmp_ge (tgt := 91) (pc' := 21) 10 rfl rfl (by decide) (fun hc => ?_) (fun hc => ?_)
  · replace h := h.1 hc
    exact v_vret 48 rfl rfl (by decide) (by decide) ⟨_, rfl, rfl, h⟩
  replace h := h.2 hc
  refine v_aload_n (pc' := 22) 11 0 rfl rfl rfl rfl ?_
  refine v_getR (t := t) (pc' := 25) 12 rfl rfl pf_X7_9 ly_344 (lay_lt ly_344 (by decide)) rt_344_0 ?_
  refine v_aload_n (pc' := 26) 13 0 rfl rfl rfl rfl ?_
  refine v_getI (pc' := 29) 14 rfl rfl pf_X7_22 ly_344 (lay_lt ly_344 (by decide)) ?_
  obtain ⟨hi390, h⟩ := h
  refine v_bald (i := (I 344 3)) (j := (I 344 3).toNatClampNeg) (pc' := 30) 15 rfl rfl (tx0l ht) rfl (lay_lt (tx0l ht) (by decide)) hi390 rfl ?_
  refine v_bipush (v := 48) (pc' := 32) 16 rfl rfl (by decide) ?_
  refine v_icmp_lt (tgt := 91) (pc' := 35) 17 rfl rfl (by decide) (fun hc => ?_) (fun hc => ?_)
  · replace h := h.1 hc
    exact v_vret 48 rfl rfl (by decide) (by decide) ⟨_, rfl, rfl, h⟩
  replace h := h.2 hc
  refine v_aload_n (pc' := 36) 18 0 rfl rfl rfl rfl ?_
  refine v_getR (t := t) (pc' := 39) 19 rfl rfl pf_X7_9 ly_344 (lay_lt ly_344 (by decide)) rt_344_0 ?_
  refine v_aload_n (pc' := 40) 20 0 rfl rfl rfl rfl ?_
  refine v_getI (pc' := 43) 21 rfl rfl pf_X7_22 ly_344 (lay_lt ly_344 (by decide)) ?_
  obtain ⟨hi391, h⟩ := h
  refine v_bald (i := (I 344 3)) (j := (I 344 3).toNatClampNeg) (pc' := 44) 22 rfl rfl (tx0l ht) rfl (lay_lt (tx0l ht) (by decide)) hi391 rfl ?_
  refine v_bipush (v := 57) (pc' := 46) 23 rfl rfl (by decide) ?_
  refine v_icmp_gt (tgt := 91) (pc' := 49) 24 rfl rfl (by decide) (fun hc => ?_) (fun hc => ?_)
  · replace h := h.1 hc
    exact v_vret 48 rfl rfl (by decide) (by decide) ⟨_, rfl, rfl, h⟩
  replace h := h.2 hc
  refine v_aload_n (pc' := 50) 25 0 rfl rfl rfl rfl ?_
  refine v_bipush (v := 10) (pc' := 52) 26 rfl rfl (by decide) ?_
  refine v_aload_n (pc' := 53) 27 0 rfl rfl rfl rfl ?_
  refine v_getI (pc' := 56) 28 rfl rfl pf_X7_28 ly_344 (lay_lt ly_344 (by decide)) ?_
  refine v_imul (pc' := 57) 29 rfl rfl ?_
  refine v_aload_n (pc' := 58) 30 0 rfl rfl rfl rfl ?_
  refine v_getR (t := t) (pc' := 61) 31 rfl rfl pf_X7_9 ly_344 (lay_lt ly_344 (by decide)) rt_344_0 ?_
  refine v_aload_n (pc' := 62) 32 0 rfl rfl rfl rfl ?_
  refine v_getI (pc' := 65) 33 rfl rfl pf_X7_22 ly_344 (lay_lt ly_344 (by decide)) ?_
  obtain ⟨hi392, h⟩ := h
  refine v_bald (i := (I 344 3)) (j := (I 344 3).toNatClampNeg) (pc' := 66) 34 rfl rfl (tx0l ht) rfl (lay_lt (tx0l ht) (by decide)) hi392 rfl ?_
  refine v_iadd (pc' := 67) 35 rfl rfl ?_
  refine v_bipush (v := 48) (pc' := 69) 36 rfl rfl (by decide) ?_
  refine v_isub (pc' := 70) 37 rfl rfl ?_
  refine v_ldc (v := 1000000) (pc' := 72) 38 rfl rfl ki_X7_56 ?_
  refine v_mmin (pc' := 75) 39 rfl rfl mm_X7_37 (Nat.le_of_ble_eq_true rfl) (by decide) (by decide) ⟨Nat.le_of_ble_eq_true rfl, Nat.le_of_ble_eq_true rfl⟩ ?_
  refine v_putI (pc' := 78) 40 rfl rfl pf_X7_28 (fun q => absurd q (by decide)) ly_344 (lay_lt ly_344 (by decide)) ?_
  refine nm_M (e := (up2 I 344 5 (mnI ((((10 : Int32) * (I 344 5)) + (I t ((I 344 3).toNatClampNeg))) - 48) (1000000 : Int32)))) (fun I393 hI393 => ?_)
  replace h := h I393 hI393
  refine v_aload_n (pc' := 79) 41 0 rfl rfl rfl rfl ?_
  refine v_dup (pc' := 80) 42 rfl rfl rfl ?_
  refine v_getI (pc' := 83) 43 rfl rfl pf_X7_22 ly_344 (lay_lt ly_344 (by decide)) ?_
  refine v_iconst (v := 1) (pc' := 84) 44 rfl rfl (by decide) ?_
  refine v_iadd (pc' := 85) 45 rfl rfl ?_
  refine v_putI (pc' := 88) 46 rfl rfl pf_X7_22 (fun q => absurd q (by decide)) ly_344 (lay_lt ly_344 (by decide)) ?_
  refine v_goto (tgt := 10) 47 rfl (by decide) ?_
  exact hR10 (up2 I393 344 3 ((I393 344 3) + 1)) h
theorem l_X7_scanNumber_10 {G : GT} {b d : Nat} (L : TL) (t : Nat) (ht : txOK t) (Q : TI → Prop)  : ∀ (n9 : Nat) (I : TI), L_X7_scanNumber_10 L t Q n9 I → V G Y_X7_scanNumber 10 [(0, .ref 344)] [] (I, L, RT b d t, 457) 0 0 (fun v9 u9 => ∃ (I9 : TI), v9 = none ∧ u9 = (I9, L, RT b d t, 457) ∧ Q I9) (fun _ _ => False)
  | 0, _, h => h.elim
  | n9 + 1, I, h => d_X7_scanNumber_10 L t ht Q _ (l_X7_scanNumber_10 L t ht Q n9) I h
set_option maxHeartbeats 4000000 in
set_option maxRecDepth 100000 in
theorem ok_X7_scanNumber {G : GT} {b d : Nat} (I : TI) (L : TL) (t : Nat) (ht : txOK t) {Q : TI → Prop} (h : W_X7_scanNumber I L t Q) : MW G Y_X7_scanNumber [.ref 344] (I, L, RT b d t, 457) (fun v9 u9 => ∃ (I9 : TI), v9 = none ∧ u9 = (I9, L, RT b d t, 457) ∧ Q I9) (fun _ _ => False) := by
  unfold W_X7_scanNumber at h
  refine MW.intro rfl (by decide) is_X7_scanNumber (Nat.le_of_ble_eq_true rfl) ?_
  show V G Y_X7_scanNumber 0 [(0, .ref 344)] [] (I, L, RT b d t, 457) 0 0 _ _
  refine v_aload_n (pc' := 1) 0 0 rfl rfl rfl rfl ?_
  refine v_iconst (v := 2) (pc' := 2) 1 rfl rfl (by decide) ?_
  refine v_putI (pc' := 5) 2 rfl rfl pf_X7_25 (fun q => absurd q (by decide)) ly_344 (lay_lt ly_344 (by decide)) ?_
  refine v_aload_n (pc' := 6) 3 0 rfl rfl rfl rfl ?_
  refine v_iconst (v := 0) (pc' := 7) 4 rfl rfl (by decide) ?_
  refine v_putI (pc' := 10) 5 rfl rfl pf_X7_28 (fun q => absurd q (by decide)) ly_344 (lay_lt ly_344 (by decide)) ?_
  obtain ⟨n394, h⟩ := h
  exact l_X7_scanNumber_10 L t ht Q n394 (up2 (up2 I 344 4 2) 344 5 0) h
set_option maxHeartbeats 4000000 in
set_option maxRecDepth 100000 in
theorem b_X7_advance_157 {G : GT} {b d : Nat} (I : TI) (L : TL) (t : Nat) (ht : txOK t) (Q : TI → Prop)  (h : B_X7_advance_157 I L t Q) : V G Y_X7_advance 157 [(0, .ref 344)] [] (I, L, RT b d t, 457) 0 0 (fun v9 u9 => ∃ (I9 : TI), v9 = none ∧ u9 = (I9, L, RT b d t, 457) ∧ Q I9) (fun _ _ => False) := by
  unfold B_X7_advance_157 at h
  refine v_aload_n (pc' := 158) 77 0 rfl rfl rfl rfl ?_
  refine v_iconst (v := 3) (pc' := 159) 78 rfl rfl (by decide) ?_
  refine v_putI (pc' := 162) 79 rfl rfl pf_X7_25 (fun q => absurd q (by decide)) ly_344 (lay_lt ly_344 (by decide)) ?_
  refine v_aload_n (pc' := 163) 80 0 rfl rfl rfl rfl ?_
  refine v_dup (pc' := 164) 81 rfl rfl rfl ?_
  refine v_getI (pc' := 167) 82 rfl rfl pf_X7_22 ly_344 (lay_lt ly_344 (by decide)) ?_
  refine v_iconst (v := 1) (pc' := 168) 83 rfl rfl (by decide) ?_
  refine v_iadd (pc' := 169) 84 rfl rfl ?_
  refine v_putI (pc' := 172) 85 rfl rfl pf_X7_22 (fun q => absurd q (by decide)) ly_344 (lay_lt ly_344 (by decide)) ?_
  exact v_vret 86 rfl rfl (by decide) (by decide) ⟨_, rfl, rfl, h⟩
set_option maxHeartbeats 4000000 in
set_option maxRecDepth 100000 in
theorem b_X7_advance_122 {G : GT} {b d : Nat} (I : TI) (L : TL) (t : Nat) (ht : txOK t) (Q : TI → Prop)  (h : B_X7_advance_122 I L t Q) : V G Y_X7_advance 122 [(0, .ref 344)] [] (I, L, RT b d t, 457) 0 0 (fun v9 u9 => ∃ (I9 : TI), v9 = none ∧ u9 = (I9, L, RT b d t, 457) ∧ Q I9) (fun _ _ => False) := by
  unfold B_X7_advance_122 at h
  refine v_aload_n (pc' := 123) 60 0 rfl rfl rfl rfl ?_
  refine v_getR (t := t) (pc' := 126) 61 rfl rfl pf_X7_9 ly_344 (lay_lt ly_344 (by decide)) rt_344_0 ?_
  refine v_aload_n (pc' := 127) 62 0 rfl rfl rfl rfl ?_
  refine v_getI (pc' := 130) 63 rfl rfl pf_X7_19 ly_344 (lay_lt ly_344 (by decide)) ?_
  obtain ⟨hi422, h⟩ := h
  refine v_bald (i := (I 344 2)) (j := (I 344 2).toNatClampNeg) (pc' := 131) 64 rfl rfl (tx0l ht) rfl (lay_lt (tx0l ht) (by decide)) hi422 rfl ?_
  refine v_bipush (v := 48) (pc' := 133) 65 rfl rfl (by decide) ?_
  refine v_icmp_lt (tgt := 157) (pc' := 136) 66 rfl rfl (by decide) (fun hc => ?_) (fun hc => ?_)
  · replace h := h.1 hc
    exact b_X7_advance_157 I L t ht Q h
  replace h := h.2 hc
  refine v_aload_n (pc' := 137) 67 0 rfl rfl rfl rfl ?_
  refine v_getR (t := t) (pc' := 140) 68 rfl rfl pf_X7_9 ly_344 (lay_lt ly_344 (by decide)) rt_344_0 ?_
  refine v_aload_n (pc' := 141) 69 0 rfl rfl rfl rfl ?_
  refine v_getI (pc' := 144) 70 rfl rfl pf_X7_19 ly_344 (lay_lt ly_344 (by decide)) ?_
  obtain ⟨hi423, h⟩ := h
  refine v_bald (i := (I 344 2)) (j := (I 344 2).toNatClampNeg) (pc' := 145) 71 rfl rfl (tx0l ht) rfl (lay_lt (tx0l ht) (by decide)) hi423 rfl ?_
  refine v_bipush (v := 57) (pc' := 147) 72 rfl rfl (by decide) ?_
  refine v_icmp_gt (tgt := 157) (pc' := 150) 73 rfl rfl (by decide) (fun hc => ?_) (fun hc => ?_)
  · replace h := h.1 hc
    exact b_X7_advance_157 I L t ht Q h
  replace h := h.2 hc
  refine v_aload_n (pc' := 151) 74 0 rfl rfl rfl rfl ?_
  refine v_cV (Y2 := Y_X7_scanNumber) (As := []) (b := 344) (pc' := 154) (c1 := 0) (s1 := 0) 75 rfl rfl mf_X7_scanNumber rfl rfl ml_X7_53 mi_X7_scanNumber se_X7_scanNumber (ci := 6) rfl ly_344 (lay_lt ly_344 (by decide)) rfl (Nat.le_of_ble_eq_true rfl) ⟨Nat.le_of_ble_eq_true rfl, Nat.le_of_ble_eq_true rfl⟩ rfl rfl (ok_X7_scanNumber I L t ht h) ?_ ?_
  · intro e9 u9 hx9
    exact hx9.elim
  intro v9 u9 hv9
  obtain ⟨I424, rfl, rfl, h⟩ := hv9
  refine ⟨fun q => absurd q (Nat.lt_irrefl _), ?_⟩
  show V G Y_X7_advance 154 _ _ _ _ _ _ _
  refine v_goto (tgt := 172) 76 rfl (by decide) ?_
  exact v_vret 86 rfl rfl (by decide) (by decide) ⟨_, rfl, rfl, h⟩
set_option maxHeartbeats 4000000 in
set_option maxRecDepth 100000 in
theorem b_X7_advance_60 {G : GT} {b d : Nat} (I : TI) (L : TL) (t : Nat) (ht : txOK t) (Q : TI → Prop)  (h : B_X7_advance_60 I L t Q) : V G Y_X7_advance 60 [(0, .ref 344)] [] (I, L, RT b d t, 457) 0 0 (fun v9 u9 => ∃ (I9 : TI), v9 = none ∧ u9 = (I9, L, RT b d t, 457) ∧ Q I9) (fun _ _ => False) := by
  unfold B_X7_advance_60 at h
  refine v_aload_n (pc' := 61) 30 0 rfl rfl rfl rfl ?_
  refine v_aload_n (pc' := 62) 31 0 rfl rfl rfl rfl ?_
  refine v_getI (pc' := 65) 32 rfl rfl pf_X7_22 ly_344 (lay_lt ly_344 (by decide)) ?_
  refine v_putI (pc' := 68) 33 rfl rfl pf_X7_19 (fun q => absurd q (by decide)) ly_344 (lay_lt ly_344 (by decide)) ?_
  refine v_aload_n (pc' := 69) 34 0 rfl rfl rfl rfl ?_
  refine v_getI (pc' := 72) 35 rfl rfl pf_X7_19 ly_344 (lay_lt ly_344 (by decide)) ?_
  refine v_aload_n (pc' := 73) 36 0 rfl rfl rfl rfl ?_
  refine v_getI (pc' := 76) 37 rfl rfl pf_X7_15 ly_344 (lay_lt ly_344 (by decide)) ?_
  refine v_icmp_lt (tgt := 87) (pc' := 79) 38 rfl rfl (by decide) (fun hc => ?_) (fun hc => ?_)
  · replace h := h.1 hc
    refine v_aload_n (pc' := 88) 43 0 rfl rfl rfl rfl ?_
    refine v_getR (t := t) (pc' := 91) 44 rfl rfl pf_X7_9 ly_344 (lay_lt ly_344 (by decide)) rt_344_0 ?_
    refine v_aload_n (pc' := 92) 45 0 rfl rfl rfl rfl ?_
    refine v_getI (pc' := 95) 46 rfl rfl pf_X7_19 ly_344 (lay_lt ly_344 (by decide)) ?_
    obtain ⟨hi425, h⟩ := h
    refine v_bald (i := ((up2 I 344 2 (I 344 3)) 344 2)) (j := ((up2 I 344 2 (I 344 3)) 344 2).toNatClampNeg) (pc' := 96) 47 rfl rfl (tx0l ht) rfl (lay_lt (tx0l ht) (by decide)) hi425 rfl ?_
    refine v_bipush (v := 97) (pc' := 98) 48 rfl rfl (by decide) ?_
    refine v_icmp_lt (tgt := 122) (pc' := 101) 49 rfl rfl (by decide) (fun hc => ?_) (fun hc => ?_)
    · replace h := h.1 hc
      exact b_X7_advance_122 (up2 I 344 2 (I 344 3)) L t ht Q h
    replace h := h.2 hc
    refine v_aload_n (pc' := 102) 50 0 rfl rfl rfl rfl ?_
    refine v_getR (t := t) (pc' := 105) 51 rfl rfl pf_X7_9 ly_344 (lay_lt ly_344 (by decide)) rt_344_0 ?_
    refine v_aload_n (pc' := 106) 52 0 rfl rfl rfl rfl ?_
    refine v_getI (pc' := 109) 53 rfl rfl pf_X7_19 ly_344 (lay_lt ly_344 (by decide)) ?_
    obtain ⟨hi426, h⟩ := h
    refine v_bald (i := ((up2 I 344 2 (I 344 3)) 344 2)) (j := ((up2 I 344 2 (I 344 3)) 344 2).toNatClampNeg) (pc' := 110) 54 rfl rfl (tx0l ht) rfl (lay_lt (tx0l ht) (by decide)) hi426 rfl ?_
    refine v_bipush (v := 122) (pc' := 112) 55 rfl rfl (by decide) ?_
    refine v_icmp_gt (tgt := 122) (pc' := 115) 56 rfl rfl (by decide) (fun hc => ?_) (fun hc => ?_)
    · replace h := h.1 hc
      exact b_X7_advance_122 (up2 I 344 2 (I 344 3)) L t ht Q h
    replace h := h.2 hc
    refine v_aload_n (pc' := 116) 57 0 rfl rfl rfl rfl ?_
    refine v_cV (Y2 := Y_X7_scanWord) (As := []) (b := 344) (pc' := 119) (c1 := 0) (s1 := 0) 58 rfl rfl mf_X7_scanWord rfl rfl ml_X7_50 mi_X7_scanWord se_X7_scanWord (ci := 6) rfl ly_344 (lay_lt ly_344 (by decide)) rfl (Nat.le_of_ble_eq_true rfl) ⟨Nat.le_of_ble_eq_true rfl, Nat.le_of_ble_eq_true rfl⟩ rfl rfl (ok_X7_scanWord (up2 I 344 2 (I 344 3)) L t ht h) ?_ ?_
    · intro e9 u9 hx9
      exact hx9.elim
    intro v9 u9 hv9
    obtain ⟨I427, rfl, rfl, h⟩ := hv9
    refine ⟨fun q => absurd q (Nat.lt_irrefl _), ?_⟩
    show V G Y_X7_advance 119 _ _ _ _ _ _ _
    refine v_goto (tgt := 172) 59 rfl (by decide) ?_
    exact v_vret 86 rfl rfl (by decide) (by decide) ⟨_, rfl, rfl, h⟩
  replace h := h.2 hc
  refine v_aload_n (pc' := 80) 39 0 rfl rfl rfl rfl ?_
  refine v_iconst (v := 0) (pc' := 81) 40 rfl rfl (by decide) ?_
  refine v_putI (pc' := 84) 41 rfl rfl pf_X7_25 (fun q => absurd q (by decide)) ly_344 (lay_lt ly_344 (by decide)) ?_
  refine v_goto (tgt := 172) 42 rfl (by decide) ?_
  exact v_vret 86 rfl rfl (by decide) (by decide) ⟨_, rfl, rfl, h⟩
set_option maxHeartbeats 4000000 in
set_option maxRecDepth 100000 in
theorem b_X7_advance_47 {G : GT} {b d : Nat} (I : TI) (L : TL) (t : Nat) (ht : txOK t) (Q : TI → Prop) (R8 : TI → Prop) (hR8 : ∀ (I : TI), R8 I → V G Y_X7_advance 8 [(0, .ref 344)] [] (I, L, RT b d t, 457) 0 0 (fun v9 u9 => ∃ (I9 : TI), v9 = none ∧ u9 = (I9, L, RT b d t, 457) ∧ Q I9) (fun _ _ => False)) (h : B_X7_advance_47 I L t Q R8) : V G Y_X7_advance 47 [(0, .ref 344)] [] (I, L, RT b d t, 457) 0 0 (fun v9 u9 => ∃ (I9 : TI), v9 = none ∧ u9 = (I9, L, RT b d t, 457) ∧ Q I9) (fun _ _ => False) := by
  unfold B_X7_advance_47 at h
  refine v_aload_n (pc' := 48) 23 0 rfl rfl rfl rfl ?_
  refine v_dup (pc' := 49) 24 rfl rfl rfl ?_
  refine v_getI (pc' := 52) 25 rfl rfl pf_X7_22 ly_344 (lay_lt ly_344 (by decide)) ?_
  refine v_iconst (v := 1) (pc' := 53) 26 rfl rfl (by decide) ?_
  refine v_iadd (pc' := 54) 27 rfl rfl ?_
  refine v_putI (pc' := 57) 28 rfl rfl pf_X7_22 (fun q => absurd q (by decide)) ly_344 (lay_lt ly_344 (by decide)) ?_
  refine v_goto (tgt := 8) 29 rfl (by decide) ?_
  exact hR8 (up2 I 344 3 ((I 344 3) + 1)) h
set_option maxHeartbeats 4000000 in
set_option maxRecDepth 100000 in
theorem d_X7_advance_8 {G : GT} {b d : Nat} (L : TL) (t : Nat) (ht : txOK t) (Q : TI → Prop) (R8 : TI → Prop)  (hR8 : ∀ (I : TI), R8 I → V G Y_X7_advance 8 [(0, .ref 344)] [] (I, L, RT b d t, 457) 0 0 (fun v9 u9 => ∃ (I9 : TI), v9 = none ∧ u9 = (I9, L, RT b d t, 457) ∧ Q I9) (fun _ _ => False)) (I : TI)  (h : D_X7_advance_8 L t Q R8 I) : V G Y_X7_advance 8 [(0, .ref 344)] [] (I, L, RT b d t, 457) 0 0 (fun v9 u9 => ∃ (I9 : TI), v9 = none ∧ u9 = (I9, L, RT b d t, 457) ∧ Q I9) (fun _ _ => False) := by
  unfold D_X7_advance_8 at h
  refine v_aload_n (pc' := 9) 4 0 rfl rfl rfl rfl ?_
  refine v_getI (pc' := 12) 5 rfl rfl pf_X7_22 ly_344 (lay_lt ly_344 (by decide)) ?_
  refine v_aload_n (pc' := 13) 6 0 rfl rfl rfl rfl ?_
  refine v_getI (pc' := 16) 7 rfl rfl pf_X7_15 ly_344 (lay_lt ly_344 (by decide)) ?_
  refine v_icmp_ge (tgt := 60) (pc' := 19) 8 rfl rfl (by decide) (fun hc => ?_) (fun hc => ?_)
  · replace h := h.1 hc
    exact b_X7_advance_60 I L t ht Q h
  replace h := h.2 hc
  refine v_aload_n (pc' := 20) 9 0 rfl rfl rfl rfl ?_
  refine v_getR (t := t) (pc' := 23) 10 rfl rfl pf_X7_9 ly_344 (lay_lt ly_344 (by decide)) rt_344_0 ?_
  refine v_aload_n (pc' := 24) 11 0 rfl rfl rfl rfl ?_
  refine v_getI (pc' := 27) 12 rfl rfl pf_X7_22 ly_344 (lay_lt ly_344 (by decide)) ?_
  obtain ⟨hi428, h⟩ := h
  refine v_bald (i := (I 344 3)) (j := (I 344 3).toNatClampNeg) (pc' := 28) 13 rfl rfl (tx0l ht) rfl (lay_lt (tx0l ht) (by decide)) hi428 rfl ?_
  refine v_bipush (v := 32) (pc' := 30) 14 rfl rfl (by decide) ?_
  refine v_icmp_eq (tgt := 47) (pc' := 33) 15 rfl rfl (by decide) (fun hc => ?_) (fun hc => ?_)
  · replace h := h.1 hc
    exact b_X7_advance_47 I L t ht Q R8 hR8 h
  replace h := h.2 hc
  refine v_aload_n (pc' := 34) 16 0 rfl rfl rfl rfl ?_
  refine v_getR (t := t) (pc' := 37) 17 rfl rfl pf_X7_9 ly_344 (lay_lt ly_344 (by decide)) rt_344_0 ?_
  refine v_aload_n (pc' := 38) 18 0 rfl rfl rfl rfl ?_
  refine v_getI (pc' := 41) 19 rfl rfl pf_X7_22 ly_344 (lay_lt ly_344 (by decide)) ?_
  obtain ⟨hi429, h⟩ := h
  refine v_bald (i := (I 344 3)) (j := (I 344 3).toNatClampNeg) (pc' := 42) 20 rfl rfl (tx0l ht) rfl (lay_lt (tx0l ht) (by decide)) hi429 rfl ?_
  refine v_bipush (v := 10) (pc' := 44) 21 rfl rfl (by decide) ?_
  refine v_icmp_ne (tgt := 60) (pc' := 47) 22 rfl rfl (by decide) (fun hc => ?_) (fun hc => ?_)
  · replace h := h.1 hc
    exact b_X7_advance_60 I L t ht Q h
  replace h := h.2 hc
  exact b_X7_advance_47 I L t ht Q R8 hR8 h
theorem l_X7_advance_8 {G : GT} {b d : Nat} (L : TL) (t : Nat) (ht : txOK t) (Q : TI → Prop)  : ∀ (n9 : Nat) (I : TI), L_X7_advance_8 L t Q n9 I → V G Y_X7_advance 8 [(0, .ref 344)] [] (I, L, RT b d t, 457) 0 0 (fun v9 u9 => ∃ (I9 : TI), v9 = none ∧ u9 = (I9, L, RT b d t, 457) ∧ Q I9) (fun _ _ => False)
  | 0, _, h => h.elim
  | n9 + 1, I, h => d_X7_advance_8 L t ht Q _ (l_X7_advance_8 L t ht Q n9) I h
set_option maxHeartbeats 4000000 in
set_option maxRecDepth 100000 in
theorem ok_X7_advance {G : GT} {b d : Nat} (I : TI) (L : TL) (t : Nat) (ht : txOK t) {Q : TI → Prop} (h : W_X7_advance I L t Q) : MW G Y_X7_advance [.ref 344] (I, L, RT b d t, 457) (fun v9 u9 => ∃ (I9 : TI), v9 = none ∧ u9 = (I9, L, RT b d t, 457) ∧ Q I9) (fun _ _ => False) := by
  unfold W_X7_advance at h
  refine MW.intro rfl (by decide) is_X7_advance (Nat.le_of_ble_eq_true rfl) ?_
  show V G Y_X7_advance 0 [(0, .ref 344)] [] (I, L, RT b d t, 457) 0 0 _ _
  refine v_aload_n (pc' := 1) 0 0 rfl rfl rfl rfl ?_
  refine v_cV (Y2 := Y_X7_failed) (As := []) (b := 344) (pc' := 4) (c1 := 0) (s1 := 0) 1 rfl rfl mf_X7_failed rfl rfl ml_X7_46 mi_X7_failed se_X7_failed (ci := 6) rfl ly_344 (lay_lt ly_344 (by decide)) rfl (Nat.le_of_ble_eq_true rfl) ⟨Nat.le_of_ble_eq_true rfl, Nat.le_of_ble_eq_true rfl⟩ rfl rfl (ok_X7_failed I L h) ?_ ?_
  · intro e9 u9 hx9
    exact hx9.elim
  intro v9 u9 hv9
  obtain ⟨r430, rfl, rfl, h⟩ := hv9
  refine ⟨fun q => absurd q (Nat.lt_irrefl _), ?_⟩
  show V G Y_X7_advance 4 _ (.int r430 :: _) _ _ _ _ _
  refine v_if_eq (tgt := 8) (pc' := 7) 2 rfl rfl (by decide) (fun hc => ?_) (fun hc => ?_)
  · replace h := h.1 hc
    obtain ⟨n431, h⟩ := h
    exact l_X7_advance_8 L t ht Q n431 I h
  replace h := h.2 hc
  exact v_vret 3 rfl rfl (by decide) (by decide) ⟨_, rfl, rfl, h⟩
set_option maxHeartbeats 4000000 in
set_option maxRecDepth 100000 in
theorem b_X7_takeWord_13 {G : GT} {b d : Nat} (p1 : Nat) (I : TI) (L : TL) (t : Nat) (ht : txOK t) (Q : TI → Prop)  (h : B_X7_takeWord_13 p1 I L t Q) : V G Y_X7_takeWord 13 [(0, .ref 344)] [] (I, L, RT b d t, 457) 0 0 (fun v9 u9 => ∃ (I9 : TI), v9 = none ∧ u9 = (I9, L, RT b d t, 457) ∧ Q I9) (fun _ _ => False) := by
  unfold B_X7_takeWord_13 at h
  refine v_aload_n (pc' := 14) 7 0 rfl rfl rfl rfl ?_
  refine v_cV (Y2 := Y_X7_advance) (As := []) (b := 344) (pc' := 17) (c1 := 0) (s1 := 0) 8 rfl rfl mf_X7_advance rfl rfl ml_X7_43 mi_X7_advance se_X7_advance (ci := 6) rfl ly_344 (lay_lt ly_344 (by decide)) rfl (Nat.le_of_ble_eq_true rfl) ⟨Nat.le_of_ble_eq_true rfl, Nat.le_of_ble_eq_true rfl⟩ rfl rfl (ok_X7_advance I L t ht h) ?_ ?_
  · intro e9 u9 hx9
    exact hx9.elim
  intro v9 u9 hv9
  obtain ⟨I438, rfl, rfl, h⟩ := hv9
  refine ⟨fun q => absurd q (Nat.lt_irrefl _), ?_⟩
  show V G Y_X7_takeWord 17 _ _ _ _ _ _ _
  exact v_vret 9 rfl rfl (by decide) (by decide) ⟨_, rfl, rfl, h⟩
