set_option maxHeartbeats 4000000 in
set_option maxRecDepth 100000 in
theorem ok_X2_hasTime {G : GT} {b d t : Nat} (p0 : Nat) (p1 : Int32) (I : TI) (L : TL) (hp0 : ckOK p0) {Q : Int32 → Prop} (h : W_X2_hasTime p0 p1 I L Q) : MW G Y_X2_hasTime [.ref p0, .int p1] (I, L, RT b d t, 457) (fun v9 u9 => ∃ (r9 : Int32), v9 = some (.int r9) ∧ u9 = (I, L, RT b d t, 457) ∧ Q r9) (fun _ _ => False) := by
  unfold W_X2_hasTime at h
  refine MW.intro rfl (by decide) is_X2_hasTime (Nat.le_of_ble_eq_true rfl) ?_
  show V G Y_X2_hasTime 0 [(0, .ref p0), (1, .int p1)] [] (I, L, RT b d t, 457) 0 0 _ _
  refine v_iload_n (pc' := 1) 0 1 rfl rfl rfl rfl ?_
  refine v_if_lt (tgt := 16) (pc' := 4) 1 rfl rfl (by decide) (fun hc => ?_) (fun hc => ?_)
  · replace h := h.1 hc
    refine v_iconst (v := 0) (pc' := 17) 8 rfl rfl (by decide) ?_
    exact v_bret 9 rfl rfl (by decide) (by decide) (by decide) ⟨_, rfl, rfl, h⟩
  replace h := h.2 hc
  refine v_iload_n (pc' := 5) 2 1 rfl rfl rfl rfl ?_
  refine v_aload_n (pc' := 6) 3 0 rfl rfl rfl rfl ?_
  refine v_getI (pc' := 9) 4 rfl rfl pf_X2_31 (ck0l hp0) (lay_lt (ck0l hp0) (by decide)) ?_
  refine v_icmp_gt (tgt := 16) (pc' := 12) 5 rfl rfl (by decide) (fun hc => ?_) (fun hc => ?_)
  · replace h := h.1 hc
    refine v_iconst (v := 0) (pc' := 17) 8 rfl rfl (by decide) ?_
    exact v_bret 9 rfl rfl (by decide) (by decide) (by decide) ⟨_, rfl, rfl, h⟩
  replace h := h.2 hc
  refine v_iconst (v := 1) (pc' := 13) 6 rfl rfl (by decide) ?_
  refine v_goto (tgt := 17) 7 rfl (by decide) ?_
  exact v_bret 9 rfl rfl (by decide) (by decide) (by decide) ⟨_, rfl, rfl, h⟩
set_option maxHeartbeats 4000000 in
set_option maxRecDepth 100000 in
theorem ok_X3_start {G : GT} {b d t : Nat} (p0 : Nat) (p1 : Int32) (p2 : Int32) (p3 : Int32) (p4 : Int32) (p5 : Int32) (p6 : Int32) (I : TI) (L : TL) (hp0 : LAY p0 = 2) {Q : TI → Prop} (h : W_X3_start p0 p1 p2 p3 p4 p5 p6 I L Q) : MW G Y_X3_start [.ref p0, .int p1, .int p2, .int p3, .int p4, .int p5, .int p6] (I, L, RT b d t, 457) (fun v9 u9 => ∃ (I9 : TI), v9 = none ∧ u9 = (I9, L, RT b d t, 457) ∧ Q I9) (fun _ _ => False) := by
  unfold W_X3_start at h
  refine MW.intro rfl (by decide) is_X3_start (Nat.le_of_ble_eq_true rfl) ?_
  show V G Y_X3_start 0 [(0, .ref p0), (1, .int p1), (2, .int p2), (3, .int p3), (4, .int p4), (5, .int p5), (6, .int p6)] [] (I, L, RT b d t, 457) 0 0 _ _
  refine v_aload_n (pc' := 1) 0 0 rfl rfl rfl rfl ?_
  refine v_iload_n (pc' := 2) 1 1 rfl rfl rfl rfl ?_
  refine v_putI (pc' := 5) 2 rfl rfl pf_X3_15 (fun q => absurd q (by decide)) hp0 (lay_lt hp0 (by decide)) ?_
  refine v_aload_n (pc' := 6) 3 0 rfl rfl rfl rfl ?_
  refine v_iload_n (pc' := 7) 4 2 rfl rfl rfl rfl ?_
  refine v_putI (pc' := 10) 5 rfl rfl pf_X3_18 (fun q => absurd q (by decide)) hp0 (lay_lt hp0 (by decide)) ?_
  refine v_aload_n (pc' := 11) 6 0 rfl rfl rfl rfl ?_
  refine v_iload_n (pc' := 12) 7 3 rfl rfl rfl rfl ?_
  refine v_putI (pc' := 15) 8 rfl rfl pf_X3_21 (fun q => absurd q (by decide)) hp0 (lay_lt hp0 (by decide)) ?_
  refine v_aload_n (pc' := 16) 9 0 rfl rfl rfl rfl ?_
  refine v_iload (pc' := 18) 10 4 rfl rfl rfl ?_
  refine v_putI (pc' := 21) 11 rfl rfl pf_X3_24 (fun q => absurd q (by decide)) hp0 (lay_lt hp0 (by decide)) ?_
  refine v_aload_n (pc' := 22) 12 0 rfl rfl rfl rfl ?_
  refine v_iload (pc' := 24) 13 5 rfl rfl rfl ?_
  refine v_putI (pc' := 27) 14 rfl rfl pf_X3_27 (fun q => absurd q (by decide)) hp0 (lay_lt hp0 (by decide)) ?_
  refine nm_M (e := (up2 (up2 (up2 (up2 (up2 I p0 0 p1) p0 1 p2) p0 2 p3) p0 3 p4) p0 4 p5)) (fun I693 hI693 => ?_)
  replace h := h I693 hI693
  refine v_aload_n (pc' := 28) 15 0 rfl rfl rfl rfl ?_
  refine v_iload (pc' := 30) 16 6 rfl rfl rfl ?_
  obtain ⟨hz694, h⟩ := h
  refine v_putZ (pc' := 33) 17 rfl rfl pf_X3_30 (fun q => absurd q (by decide)) hp0 (lay_lt hp0 (by decide)) hz694 ?_
  refine v_aload_n (pc' := 34) 18 0 rfl rfl rfl rfl ?_
  refine v_iconst (v := 0) (pc' := 35) 19 rfl rfl (by decide) ?_
  refine v_putI (pc' := 38) 20 rfl rfl pf_X3_34 (fun q => absurd q (by decide)) hp0 (lay_lt hp0 (by decide)) ?_
  refine v_aload_n (pc' := 39) 21 0 rfl rfl rfl rfl ?_
  refine v_iconst (v := -1) (pc' := 40) 22 rfl rfl (by decide) ?_
  refine v_putI (pc' := 43) 23 rfl rfl pf_X3_9 (fun q => absurd q (by decide)) hp0 (lay_lt hp0 (by decide)) ?_
  exact v_vret 24 rfl rfl (by decide) (by decide) ⟨_, rfl, rfl, h⟩
set_option maxHeartbeats 4000000 in
set_option maxRecDepth 100000 in
theorem ok_X3_copyFrom {G : GT} {b d t : Nat} (p0 : Nat) (p1 : Nat) (I : TI) (L : TL) (hp0 : LAY p0 = 2) (hp1 : LAY p1 = 2) {Q : TI → Prop} (h : W_X3_copyFrom p0 p1 I L Q) : MW G Y_X3_copyFrom [.ref p0, .ref p1] (I, L, RT b d t, 457) (fun v9 u9 => ∃ (I9 : TI), v9 = none ∧ u9 = (I9, L, RT b d t, 457) ∧ Q I9) (fun _ _ => False) := by
  unfold W_X3_copyFrom at h
  refine MW.intro rfl (by decide) is_X3_copyFrom (Nat.le_of_ble_eq_true rfl) ?_
  show V G Y_X3_copyFrom 0 [(0, .ref p0), (1, .ref p1)] [] (I, L, RT b d t, 457) 0 0 _ _
  refine v_aload_n (pc' := 1) 0 0 rfl rfl rfl rfl ?_
  refine v_aload_n (pc' := 2) 1 1 rfl rfl rfl rfl ?_
  refine v_getI (pc' := 5) 2 rfl rfl pf_X3_15 hp1 (lay_lt hp1 (by decide)) ?_
  refine v_aload_n (pc' := 6) 3 1 rfl rfl rfl rfl ?_
  refine v_getI (pc' := 9) 4 rfl rfl pf_X3_18 hp1 (lay_lt hp1 (by decide)) ?_
  refine v_aload_n (pc' := 10) 5 1 rfl rfl rfl rfl ?_
  refine v_getI (pc' := 13) 6 rfl rfl pf_X3_21 hp1 (lay_lt hp1 (by decide)) ?_
  refine v_aload_n (pc' := 14) 7 1 rfl rfl rfl rfl ?_
  refine v_getI (pc' := 17) 8 rfl rfl pf_X3_24 hp1 (lay_lt hp1 (by decide)) ?_
  refine v_aload_n (pc' := 18) 9 1 rfl rfl rfl rfl ?_
  refine v_getI (pc' := 21) 10 rfl rfl pf_X3_27 hp1 (lay_lt hp1 (by decide)) ?_
  refine v_aload_n (pc' := 22) 11 1 rfl rfl rfl rfl ?_
  refine v_getZ (pc' := 25) 12 rfl rfl pf_X3_30 hp1 (lay_lt hp1 (by decide)) ?_
  refine v_cV (Y2 := Y_X3_start) (As := [.int (I p1 0), .int (I p1 1), .int (I p1 2), .int (I p1 3), .int (I p1 4), .int (I p1 5)]) (b := p0) (pc' := 28) (c1 := 0) (s1 := 0) 13 rfl rfl mf_X3_start rfl rfl ml_X3_37 mi_X3_start se_X3_start (ci := 2) rfl hp0 (lay_lt hp0 (by decide)) rfl (Nat.le_of_ble_eq_true rfl) ⟨Nat.le_of_ble_eq_true rfl, Nat.le_of_ble_eq_true rfl⟩ rfl rfl (ok_X3_start p0 (I p1 0) (I p1 1) (I p1 2) (I p1 3) (I p1 4) (I p1 5) I L hp0 h) ?_ ?_
  · intro e9 u9 hx9
    exact hx9.elim
  intro v9 u9 hv9
  obtain ⟨I696, rfl, rfl, h⟩ := hv9
  refine ⟨fun q => absurd q (Nat.lt_irrefl _), ?_⟩
  show V G Y_X3_copyFrom 28 _ _ _ _ _ _ _
  refine v_aload_n (pc' := 29) 14 0 rfl rfl rfl rfl ?_
  refine v_aload_n (pc' := 30) 15 1 rfl rfl rfl rfl ?_
  refine v_getI (pc' := 33) 16 rfl rfl pf_X3_34 hp1 (lay_lt hp1 (by decide)) ?_
  refine v_putI (pc' := 36) 17 rfl rfl pf_X3_34 (fun q => absurd q (by decide)) hp0 (lay_lt hp0 (by decide)) ?_
  refine v_aload_n (pc' := 37) 18 0 rfl rfl rfl rfl ?_
  refine v_aload_n (pc' := 38) 19 1 rfl rfl rfl rfl ?_
  refine v_getI (pc' := 41) 20 rfl rfl pf_X3_9 hp1 (lay_lt hp1 (by decide)) ?_
  refine v_putI (pc' := 44) 21 rfl rfl pf_X3_9 (fun q => absurd q (by decide)) hp0 (lay_lt hp0 (by decide)) ?_
  refine nm_M (e := (up2 (up2 I696 p0 6 (I696 p1 6)) p0 7 ((up2 I696 p0 6 (I696 p1 6)) p1 7))) (fun I697 hI697 => ?_)
  replace h := h I697 hI697
  exact v_vret 22 rfl rfl (by decide) (by decide) ⟨_, rfl, rfl, h⟩
set_option maxHeartbeats 4000000 in
set_option maxRecDepth 100000 in
theorem ok_X3_times {G : GT} {b d t : Nat} (p0 : Nat) (I : TI) (L : TL) (hp0 : LAY p0 = 2) {Q : Int32 → Prop} (h : W_X3_times p0 I L Q) : MW G Y_X3_times [.ref p0] (I, L, RT b d t, 457) (fun v9 u9 => ∃ (r9 : Int32), v9 = some (.int r9) ∧ u9 = (I, L, RT b d t, 457) ∧ Q r9) (fun _ _ => False) := by
  unfold W_X3_times at h
  refine MW.intro rfl (by decide) is_X3_times (Nat.le_of_ble_eq_true rfl) ?_
  show V G Y_X3_times 0 [(0, .ref p0)] [] (I, L, RT b d t, 457) 0 0 _ _
  refine v_aload_n (pc' := 1) 0 0 rfl rfl rfl rfl ?_
  refine v_getI (pc' := 4) 1 rfl rfl pf_X3_21 hp0 (lay_lt hp0 (by decide)) ?_
  refine v_aload_n (pc' := 5) 2 0 rfl rfl rfl rfl ?_
  refine v_getI (pc' := 8) 3 rfl rfl pf_X3_18 hp0 (lay_lt hp0 (by decide)) ?_
  refine v_isub (pc' := 9) 4 rfl rfl ?_
  refine v_iconst (v := 1) (pc' := 10) 5 rfl rfl (by decide) ?_
  refine v_iadd (pc' := 11) 6 rfl rfl ?_
  exact v_iret 7 rfl rfl (by decide) (by decide) ⟨_, rfl, rfl, h⟩
set_option maxHeartbeats 4000000 in
set_option maxRecDepth 100000 in
theorem b_X3_loserBy_17 {G : GT} {b d t : Nat} (p0 : Nat) (s0 : Int32) (I : TI) (L : TL) (hp0 : LAY p0 = 2) (Q : Int32 → Prop)  (h : B_X3_loserBy_17 p0 s0 I L Q) : V G Y_X3_loserBy 17 [(0, .ref p0)] [.int s0] (I, L, RT b d t, 457) 0 0 (fun v9 u9 => ∃ (r9 : Int32), v9 = some (.int r9) ∧ u9 = (I, L, RT b d t, 457) ∧ Q r9) (fun _ _ => False) := by
  unfold B_X3_loserBy_17 at h
  refine v_aload_n (pc' := 18) 11 0 rfl rfl rfl rfl ?_
  refine v_getZ (pc' := 21) 12 rfl rfl pf_X3_30 hp0 (lay_lt hp0 (by decide)) ?_
  refine v_icmp_ne (tgt := 33) (pc' := 24) 13 rfl rfl (by decide) (fun hc => ?_) (fun hc => ?_)
  · replace h := h.1 hc
    refine v_aload_n (pc' := 34) 19 0 rfl rfl rfl rfl ?_
    refine v_getI (pc' := 37) 20 rfl rfl pf_X3_27 hp0 (lay_lt hp0 (by decide)) ?_
    exact v_iret 21 rfl rfl (by decide) (by decide) ⟨_, rfl, rfl, h⟩
  replace h := h.2 hc
  refine v_iconst (v := 1) (pc' := 25) 14 rfl rfl (by decide) ?_
  refine v_aload_n (pc' := 26) 15 0 rfl rfl rfl rfl ?_
  refine v_getI (pc' := 29) 16 rfl rfl pf_X3_27 hp0 (lay_lt hp0 (by decide)) ?_
  refine v_isub (pc' := 30) 17 rfl rfl ?_
  refine v_goto (tgt := 37) 18 rfl (by decide) ?_
  exact v_iret 21 rfl rfl (by decide) (by decide) ⟨_, rfl, rfl, h⟩
set_option maxHeartbeats 4000000 in
set_option maxRecDepth 100000 in
theorem ok_X3_loserBy {G : GT} {b d t : Nat} (p0 : Nat) (p1 : Int32) (I : TI) (L : TL) (hp0 : LAY p0 = 2) {Q : Int32 → Prop} (h : W_X3_loserBy p0 p1 I L Q) : MW G Y_X3_loserBy [.ref p0, .int p1] (I, L, RT b d t, 457) (fun v9 u9 => ∃ (r9 : Int32), v9 = some (.int r9) ∧ u9 = (I, L, RT b d t, 457) ∧ Q r9) (fun _ _ => False) := by
  unfold W_X3_loserBy at h
  refine MW.intro rfl (by decide) is_X3_loserBy (Nat.le_of_ble_eq_true rfl) ?_
  show V G Y_X3_loserBy 0 [(0, .ref p0), (1, .int p1)] [] (I, L, RT b d t, 457) 0 0 _ _
  refine v_iload_n (pc' := 1) 0 1 rfl rfl rfl rfl ?_
  refine v_iconst (v := -1) (pc' := 2) 1 rfl rfl (by decide) ?_
  refine v_icmp_ne (tgt := 7) (pc' := 5) 2 rfl rfl (by decide) (fun hc => ?_) (fun hc => ?_)
  · replace h := h.1 hc
    refine v_iload_n (pc' := 8) 5 1 rfl rfl rfl rfl ?_
    refine v_iconst (v := 1) (pc' := 9) 6 rfl rfl (by decide) ?_
    refine v_icmp_ne (tgt := 16) (pc' := 12) 7 rfl rfl (by decide) (fun hc => ?_) (fun hc => ?_)
    · replace h := h.1 hc
      refine v_iconst (v := 0) (pc' := 17) 10 rfl rfl (by decide) ?_
      refine V.sub [0] rfl ?_
      exact b_X3_loserBy_17 p0 (0 : Int32) I L hp0 Q h
    replace h := h.2 hc
    refine v_iconst (v := 1) (pc' := 13) 8 rfl rfl (by decide) ?_
    refine v_goto (tgt := 17) 9 rfl (by decide) ?_
    refine V.sub [0] rfl ?_
    exact b_X3_loserBy_17 p0 (1 : Int32) I L hp0 Q h
  replace h := h.2 hc
  refine v_iconst (v := -1) (pc' := 6) 3 rfl rfl (by decide) ?_
  exact v_iret 4 rfl rfl (by decide) (by decide) ⟨_, rfl, rfl, h⟩
set_option maxHeartbeats 4000000 in
set_option maxRecDepth 100000 in
theorem d_X6_copyFrom_115 {G : GT} {b d t : Nat} (p0 : Nat) (p1 : Nat) (L : TL) (hp0 : stOK p0) (hp1 : stOK p1) (Q : TI → TL → Prop) (R115 : Int32 → TI → Prop)  (hR115 : ∀ (v2 : Int32) (I : TI), R115 v2 I → V G Y_X6_copyFrom 115 [(0, .ref p0), (1, .ref p1), (2, .int v2)] [] (I, L, RT b d t, 457) 0 0 (fun v9 u9 => ∃ (I9 : TI) (L9 : TL), v9 = none ∧ u9 = (I9, L9, RT b d t, 457) ∧ Q I9 L9) (fun _ _ => False)) (v2 : Int32) (I : TI)  (h : D_X6_copyFrom_115 p0 p1 L Q R115 v2 I) : V G Y_X6_copyFrom 115 [(0, .ref p0), (1, .ref p1), (2, .int v2)] [] (I, L, RT b d t, 457) 0 0 (fun v9 u9 => ∃ (I9 : TI) (L9 : TL), v9 = none ∧ u9 = (I9, L9, RT b d t, 457) ∧ Q I9 L9) (fun _ _ => False) := by
  unfold D_X6_copyFrom_115 at h
  refine v_iload_n (pc' := 116) 65 2 rfl rfl rfl rfl ?_
  refine v_aload_n (pc' := 117) 66 0 rfl rfl rfl rfl ?_
  refine v_getI (pc' := 120) 67 rfl rfl pf_X6_39 (st0l hp0) (lay_lt (st0l hp0) (by decide)) ?_
  refine v_icmp_ge (tgt := 144) (pc' := 123) 68 rfl rfl (by decide) (fun hc => ?_) (fun hc => ?_)
  · replace h := h.1 hc
    refine v_aload_n (pc' := 145) 80 0 rfl rfl rfl rfl ?_
    refine v_aload_n (pc' := 146) 81 1 rfl rfl rfl rfl ?_
    refine v_getI (pc' := 149) 82 rfl rfl pf_X6_43 (st0l hp1) (lay_lt (st0l hp1) (by decide)) ?_
    refine v_putI (pc' := 152) 83 rfl rfl pf_X6_43 (fun q => absurd q (by decide)) (st0l hp0) (lay_lt (st0l hp0) (by decide)) ?_
    exact v_vret 84 rfl rfl (by decide) (by decide) ⟨_, _, rfl, rfl, h⟩
  replace h := h.2 hc
  refine v_aload_n (pc' := 124) 69 0 rfl rfl rfl rfl ?_
  refine v_getR (t := (p0 + 10)) (pc' := 127) 70 rfl rfl pf_X6_35 (st0l hp0) (lay_lt (st0l hp0) (by decide)) (rt_st_6 hp0) ?_
  refine v_iload_n (pc' := 128) 71 2 rfl rfl rfl rfl ?_
  obtain ⟨hi705, h⟩ := h
  refine v_aald5 (i := v2) (r := ((p0 + 11) + v2.toNatClampNeg)) (j := v2.toNatClampNeg) (pc' := 129) 72 rfl rfl (st10l hp0) (st10n hp0) (lay_lt (st10l hp0) (by decide)) hi705 rfl (rt_dis hp0 (vp_nat hi705)) ?_
  refine v_aload_n (pc' := 130) 73 1 rfl rfl rfl rfl ?_
  refine v_getR (t := (p1 + 10)) (pc' := 133) 74 rfl rfl pf_X6_35 (st0l hp1) (lay_lt (st0l hp1) (by decide)) (rt_st_6 hp1) ?_
  refine v_iload_n (pc' := 134) 75 2 rfl rfl rfl rfl ?_
  obtain ⟨hi706, h⟩ := h
  refine v_aald5 (i := v2) (r := ((p1 + 11) + v2.toNatClampNeg)) (j := v2.toNatClampNeg) (pc' := 135) 76 rfl rfl (st10l hp1) (st10n hp1) (lay_lt (st10l hp1) (by decide)) hi706 rfl (rt_dis hp1 (vp_nat hi706)) ?_
  refine v_cV (Y2 := Y_X3_copyFrom) (As := [.ref ((p1 + 11) + v2.toNatClampNeg)]) (b := ((p0 + 11) + v2.toNatClampNeg)) (pc' := 138) (c1 := 0) (s1 := 0) 77 rfl rfl mf_X3_copyFrom rfl rfl ml_X6_63 mi_X3_copyFrom se_X3_copyFrom (ci := 2) rfl (st_disl hp0 (vp_nat hi705)) (lay_lt (st_disl hp0 (vp_nat hi705)) (by decide)) rfl (Nat.le_of_ble_eq_true rfl) ⟨Nat.le_of_ble_eq_true rfl, Nat.le_of_ble_eq_true rfl⟩ rfl rfl (ok_X3_copyFrom ((p0 + 11) + v2.toNatClampNeg) ((p1 + 11) + v2.toNatClampNeg) I L (st_disl hp0 (vp_nat hi705)) (st_disl hp1 (vp_nat hi706)) h) ?_ ?_
  · intro e9 u9 hx9
    exact hx9.elim
  intro v9 u9 hv9
  obtain ⟨I707, rfl, rfl, h⟩ := hv9
  refine ⟨fun q => absurd q (Nat.lt_irrefl _), ?_⟩
  show V G Y_X6_copyFrom 138 _ _ _ _ _ _ _
  refine v_iinc (v := (v2 + 1)) (ls' := [(2, .int (v2 + 1)), (0, .ref p0), (1, .ref p1)]) (pc' := 141) 78 2 rfl rfl rfl rfl (by decide) rfl ?_
  refine v_goto (tgt := 115) 79 rfl (by decide) ?_
  refine V.sub [1, 2, 0] rfl ?_
  exact hR115 (v2 + 1) I707 h
theorem l_X6_copyFrom_115 {G : GT} {b d t : Nat} (p0 : Nat) (p1 : Nat) (L : TL) (hp0 : stOK p0) (hp1 : stOK p1) (Q : TI → TL → Prop)  : ∀ (n9 : Nat) (v2 : Int32) (I : TI), L_X6_copyFrom_115 p0 p1 L Q n9 v2 I → V G Y_X6_copyFrom 115 [(0, .ref p0), (1, .ref p1), (2, .int v2)] [] (I, L, RT b d t, 457) 0 0 (fun v9 u9 => ∃ (I9 : TI) (L9 : TL), v9 = none ∧ u9 = (I9, L9, RT b d t, 457) ∧ Q I9 L9) (fun _ _ => False)
  | 0, _, _, h => h.elim
  | n9 + 1, v2, I, h => d_X6_copyFrom_115 p0 p1 L hp0 hp1 Q _ (l_X6_copyFrom_115 p0 p1 L hp0 hp1 Q n9) v2 I h
set_option maxHeartbeats 4000000 in
set_option maxRecDepth 100000 in
theorem d_X6_copyFrom_2 {G : GT} {b d t : Nat} (p0 : Nat) (p1 : Nat) (L : TL) (hp0 : stOK p0) (hp1 : stOK p1) (Q : TI → TL → Prop) (R2 : Int32 → TI → Prop)  (hR2 : ∀ (v2 : Int32) (I : TI), R2 v2 I → V G Y_X6_copyFrom 2 [(0, .ref p0), (1, .ref p1), (2, .int v2)] [] (I, L, RT b d t, 457) 0 0 (fun v9 u9 => ∃ (I9 : TI) (L9 : TL), v9 = none ∧ u9 = (I9, L9, RT b d t, 457) ∧ Q I9 L9) (fun _ _ => False)) (v2 : Int32) (I : TI)  (h : D_X6_copyFrom_2 p0 p1 L Q R2 v2 I) : V G Y_X6_copyFrom 2 [(0, .ref p0), (1, .ref p1), (2, .int v2)] [] (I, L, RT b d t, 457) 0 0 (fun v9 u9 => ∃ (I9 : TI) (L9 : TL), v9 = none ∧ u9 = (I9, L9, RT b d t, 457) ∧ Q I9 L9) (fun _ _ => False) := by
  unfold D_X6_copyFrom_2 at h
  refine v_iload_n (pc' := 3) 2 2 rfl rfl rfl rfl ?_
  refine v_iconst (v := 3) (pc' := 4) 3 rfl rfl (by decide) ?_
  refine v_icmp_ge (tgt := 32) (pc' := 7) 4 rfl rfl (by decide) (fun hc => ?_) (fun hc => ?_)
  · replace h := h.1 hc
    refine v_aload_n (pc' := 33) 19 1 rfl rfl rfl rfl ?_
    refine v_getR (t := (p1 + 5)) (pc' := 36) 20 rfl rfl pf_X6_16 (st0l hp1) (lay_lt (st0l hp1) (by decide)) (rt_st_1 hp1) ?_
    refine v_iconst (v := 0) (pc' := 37) 21 rfl rfl (by decide) ?_
    refine v_aload_n (pc' := 38) 22 0 rfl rfl rfl rfl ?_
    refine v_getR (t := (p0 + 5)) (pc' := 41) 23 rfl rfl pf_X6_16 (st0l hp0) (lay_lt (st0l hp0) (by decide)) (rt_st_1 hp0) ?_
    refine v_iconst (v := 0) (pc' := 42) 24 rfl rfl (by decide) ?_
    refine v_iconst (v := 4) (pc' := 43) 25 rfl rfl (by decide) ?_
    refine v_copyl (pc' := 46) 26 rfl rfl cp_X6_57 (st5l hp1) (st5l hp0) (st5n hp1) (st5n hp0) (lay_lt (st5l hp1) (by decide)) (lay_lt (st5l hp0) (by decide)) (by decide) (by decide) (by decide) (by decide) (by decide) (by decide) (by decide) ?_
    refine v_aload_n (pc' := 47) 27 1 rfl rfl rfl rfl ?_
    refine v_getR (t := (p1 + 6)) (pc' := 50) 28 rfl rfl pf_X6_20 (st0l hp1) (lay_lt (st0l hp1) (by decide)) (rt_st_2 hp1) ?_
    refine v_iconst (v := 0) (pc' := 51) 29 rfl rfl (by decide) ?_
    refine v_aload_n (pc' := 52) 30 0 rfl rfl rfl rfl ?_
    refine v_getR (t := (p0 + 6)) (pc' := 55) 31 rfl rfl pf_X6_20 (st0l hp0) (lay_lt (st0l hp0) (by decide)) (rt_st_2 hp0) ?_
    refine v_iconst (v := 0) (pc' := 56) 32 rfl rfl (by decide) ?_
    refine v_bipush (v := 16) (pc' := 58) 33 rfl rfl (by decide) ?_
    refine v_copyl (pc' := 61) 34 rfl rfl cp_X6_57 (st6l hp1) (st6l hp0) (st6n hp1) (st6n hp0) (lay_lt (st6l hp1) (by decide)) (lay_lt (st6l hp0) (by decide)) (by decide) (by decide) (by decide) (by decide) (by decide) (by decide) (by decide) ?_
    refine nm_N (e := (cpy (cpy L (p1 + 5) (p0 + 5) 0 0 4) (p1 + 6) (p0 + 6) 0 0 16)) (fun L708 hL708 => ?_)
    replace h := h L708 hL708
    refine v_aload_n (pc' := 62) 35 1 rfl rfl rfl rfl ?_
    refine v_getR (t := (p1 + 7)) (pc' := 65) 36 rfl rfl pf_X6_23 (st0l hp1) (lay_lt (st0l hp1) (by decide)) (rt_st_3 hp1) ?_
    refine v_iconst (v := 0) (pc' := 66) 37 rfl rfl (by decide) ?_
    refine v_aload_n (pc' := 67) 38 0 rfl rfl rfl rfl ?_
    refine v_getR (t := (p0 + 7)) (pc' := 70) 39 rfl rfl pf_X6_23 (st0l hp0) (lay_lt (st0l hp0) (by decide)) (rt_st_3 hp0) ?_
    refine v_iconst (v := 0) (pc' := 71) 40 rfl rfl (by decide) ?_
    refine v_bipush (v := 16) (pc' := 73) 41 rfl rfl (by decide) ?_
    refine v_copyl (pc' := 76) 42 rfl rfl cp_X6_57 (st7l hp1) (st7l hp0) (st7n hp1) (st7n hp0) (lay_lt (st7l hp1) (by decide)) (lay_lt (st7l hp0) (by decide)) (by decide) (by decide) (by decide) (by decide) (by decide) (by decide) (by decide) ?_
    refine v_aload_n (pc' := 77) 43 1 rfl rfl rfl rfl ?_
    refine v_getR (t := (p1 + 8)) (pc' := 80) 44 rfl rfl pf_X6_26 (st0l hp1) (lay_lt (st0l hp1) (by decide)) (rt_st_4 hp1) ?_
    refine v_iconst (v := 0) (pc' := 81) 45 rfl rfl (by decide) ?_
    refine v_aload_n (pc' := 82) 46 0 rfl rfl rfl rfl ?_
    refine v_getR (t := (p0 + 8)) (pc' := 85) 47 rfl rfl pf_X6_26 (st0l hp0) (lay_lt (st0l hp0) (by decide)) (rt_st_4 hp0) ?_
    refine v_iconst (v := 0) (pc' := 86) 48 rfl rfl (by decide) ?_
    refine v_bipush (v := 16) (pc' := 88) 49 rfl rfl (by decide) ?_
    refine v_copyl (pc' := 91) 50 rfl rfl cp_X6_57 (st8l hp1) (st8l hp0) (st8n hp1) (st8n hp0) (lay_lt (st8l hp1) (by decide)) (lay_lt (st8l hp0) (by decide)) (by decide) (by decide) (by decide) (by decide) (by decide) (by decide) (by decide) ?_
    refine nm_N (e := (cpy (cpy L708 (p1 + 7) (p0 + 7) 0 0 16) (p1 + 8) (p0 + 8) 0 0 16)) (fun L709 hL709 => ?_)
    replace h := h L709 hL709
    refine v_aload_n (pc' := 92) 51 1 rfl rfl rfl rfl ?_
    refine v_getR (t := (p1 + 9)) (pc' := 95) 52 rfl rfl pf_X6_29 (st0l hp1) (lay_lt (st0l hp1) (by decide)) (rt_st_5 hp1) ?_
    refine v_iconst (v := 0) (pc' := 96) 53 rfl rfl (by decide) ?_
    refine v_aload_n (pc' := 97) 54 0 rfl rfl rfl rfl ?_
    refine v_getR (t := (p0 + 9)) (pc' := 100) 55 rfl rfl pf_X6_29 (st0l hp0) (lay_lt (st0l hp0) (by decide)) (rt_st_5 hp0) ?_
    refine v_iconst (v := 0) (pc' := 101) 56 rfl rfl (by decide) ?_
    refine v_iconst (v := 3) (pc' := 102) 57 rfl rfl (by decide) ?_
    refine v_copyi (pc' := 105) 58 rfl rfl cp_X6_57 (st9l hp1) (st9l hp0) (st9n hp1) (st9n hp0) (lay_lt (st9l hp1) (by decide)) (lay_lt (st9l hp0) (by decide)) (by decide) (by decide) (by decide) (by decide) (by decide) (by decide) (by decide) ?_
    refine v_aload_n (pc' := 106) 59 0 rfl rfl rfl rfl ?_
    refine v_aload_n (pc' := 107) 60 1 rfl rfl rfl rfl ?_
    refine v_getI (pc' := 110) 61 rfl rfl pf_X6_39 (st0l hp1) (lay_lt (st0l hp1) (by decide)) ?_
    refine v_putI (pc' := 113) 62 rfl rfl pf_X6_39 (fun q => absurd q (by decide)) (st0l hp0) (lay_lt (st0l hp0) (by decide)) ?_
    refine nm_M (e := (up2 (cpy I (p1 + 9) (p0 + 9) 0 0 3) p0 7 ((cpy I (p1 + 9) (p0 + 9) 0 0 3) p1 7))) (fun I710 hI710 => ?_)
    replace h := h I710 hI710
    refine v_iconst (v := 0) (pc' := 114) 63 rfl rfl (by decide) ?_
    refine v_istore_n (ls' := [(2, .int 0), (0, .ref p0), (1, .ref p1)]) (pc' := 115) 64 rfl rfl rfl (by decide) rfl ?_
    refine V.sub [1, 2, 0] rfl ?_
    obtain ⟨n711, h⟩ := h
    exact l_X6_copyFrom_115 p0 p1 L709 hp0 hp1 Q n711 (0 : Int32) I710 h
  replace h := h.2 hc
  refine v_aload_n (pc' := 8) 5 1 rfl rfl rfl rfl ?_
  refine v_getR (t := (p1 + 1)) (pc' := 11) 6 rfl rfl pf_X6_11 (st0l hp1) (lay_lt (st0l hp1) (by decide)) (rt_st_0 hp1) ?_
  refine v_iload_n (pc' := 12) 7 2 rfl rfl rfl rfl ?_
  obtain ⟨hi712, h⟩ := h
  refine v_aald6 (i := v2) (r := ((p1 + 2) + v2.toNatClampNeg)) (j := v2.toNatClampNeg) (pc' := 13) 8 rfl rfl (st1l hp1) (st1n hp1) (lay_lt (st1l hp1) (by decide)) hi712 rfl (rt_row hp1 (vp_nat hi712)) ?_
  refine v_iconst (v := 0) (pc' := 14) 9 rfl rfl (by decide) ?_
  refine v_aload_n (pc' := 15) 10 0 rfl rfl rfl rfl ?_
  refine v_getR (t := (p0 + 1)) (pc' := 18) 11 rfl rfl pf_X6_11 (st0l hp0) (lay_lt (st0l hp0) (by decide)) (rt_st_0 hp0) ?_
  refine v_iload_n (pc' := 19) 12 2 rfl rfl rfl rfl ?_
  obtain ⟨hi713, h⟩ := h
  refine v_aald6 (i := v2) (r := ((p0 + 2) + v2.toNatClampNeg)) (j := v2.toNatClampNeg) (pc' := 20) 13 rfl rfl (st1l hp0) (st1n hp0) (lay_lt (st1l hp0) (by decide)) hi713 rfl (rt_row hp0 (vp_nat hi713)) ?_
  refine v_iconst (v := 0) (pc' := 21) 14 rfl rfl (by decide) ?_
  refine v_bipush (v := 16) (pc' := 23) 15 rfl rfl (by decide) ?_
  refine v_copyi (pc' := 26) 16 rfl rfl cp_X6_57 (st_rowl hp1 (vp_nat hi712)) (st_rowl hp0 (vp_nat hi713)) (st_rown hp1 (vp_nat hi712)) (st_rown hp0 (vp_nat hi713)) (lay_lt (st_rowl hp1 (vp_nat hi712)) (by decide)) (lay_lt (st_rowl hp0 (vp_nat hi713)) (by decide)) (by decide) (by decide) (by decide) (by decide) (by decide) (by decide) (by decide) ?_
  refine nm_M (e := (cpy I ((p1 + 2) + v2.toNatClampNeg) ((p0 + 2) + v2.toNatClampNeg) 0 0 16)) (fun I714 hI714 => ?_)
  replace h := h I714 hI714
  refine v_iinc (v := (v2 + 1)) (ls' := [(2, .int (v2 + 1)), (0, .ref p0), (1, .ref p1)]) (pc' := 29) 17 2 rfl rfl rfl rfl (by decide) rfl ?_
  refine v_goto (tgt := 2) 18 rfl (by decide) ?_
  refine V.sub [1, 2, 0] rfl ?_
  exact hR2 (v2 + 1) I714 h
theorem l_X6_copyFrom_2 {G : GT} {b d t : Nat} (p0 : Nat) (p1 : Nat) (L : TL) (hp0 : stOK p0) (hp1 : stOK p1) (Q : TI → TL → Prop)  : ∀ (n9 : Nat) (v2 : Int32) (I : TI), L_X6_copyFrom_2 p0 p1 L Q n9 v2 I → V G Y_X6_copyFrom 2 [(0, .ref p0), (1, .ref p1), (2, .int v2)] [] (I, L, RT b d t, 457) 0 0 (fun v9 u9 => ∃ (I9 : TI) (L9 : TL), v9 = none ∧ u9 = (I9, L9, RT b d t, 457) ∧ Q I9 L9) (fun _ _ => False)
  | 0, _, _, h => h.elim
  | n9 + 1, v2, I, h => d_X6_copyFrom_2 p0 p1 L hp0 hp1 Q _ (l_X6_copyFrom_2 p0 p1 L hp0 hp1 Q n9) v2 I h
set_option maxHeartbeats 4000000 in
set_option maxRecDepth 100000 in
theorem ok_X6_copyFrom {G : GT} {b d t : Nat} (p0 : Nat) (p1 : Nat) (I : TI) (L : TL) (hp0 : stOK p0) (hp1 : stOK p1) {Q : TI → TL → Prop} (h : W_X6_copyFrom p0 p1 I L Q) : MW G Y_X6_copyFrom [.ref p0, .ref p1] (I, L, RT b d t, 457) (fun v9 u9 => ∃ (I9 : TI) (L9 : TL), v9 = none ∧ u9 = (I9, L9, RT b d t, 457) ∧ Q I9 L9) (fun _ _ => False) := by
  unfold W_X6_copyFrom at h
  refine MW.intro rfl (by decide) is_X6_copyFrom (Nat.le_of_ble_eq_true rfl) ?_
  show V G Y_X6_copyFrom 0 [(0, .ref p0), (1, .ref p1)] [] (I, L, RT b d t, 457) 0 0 _ _
  refine v_iconst (v := 0) (pc' := 1) 0 rfl rfl (by decide) ?_
  refine v_istore_n (ls' := [(2, .int 0), (0, .ref p0), (1, .ref p1)]) (pc' := 2) 1 rfl rfl rfl (by decide) rfl ?_
  refine V.sub [1, 2, 0] rfl ?_
  obtain ⟨n715, h⟩ := h
  exact l_X6_copyFrom_2 p0 p1 L hp0 hp1 Q n715 (0 : Int32) I h
set_option maxHeartbeats 4000000 in
set_option maxRecDepth 100000 in
theorem b_X4_record_33 {G : GT} {b d t : Nat} (p1 : Nat) (s1 : Int32) (I : TI) (L : TL) (hp1 : stOK p1) (Q : TI → TL → Prop)  (h : B_X4_record_33 p1 s1 I L Q) : V G Y_X4_record 33 [(0, .ref 1)] [.int s1, .ref 1] (I, L, RT b d t, 457) 0 0 (fun v9 u9 => ∃ (I9 : TI) (L9 : TL), v9 = none ∧ u9 = (I9, L9, RT b d t, 457) ∧ Q I9 L9) (fun _ _ => False) := by
  unfold B_X4_record_33 at h
  refine v_putI (pc' := 36) 18 rfl rfl pf_X4_30 (fun q => absurd q (by decide)) ly_1 (lay_lt ly_1 (by decide)) ?_
  refine v_aload_n (pc' := 37) 19 0 rfl rfl rfl rfl ?_
  refine v_aload_n (pc' := 38) 20 0 rfl rfl rfl rfl ?_
  refine v_getI (pc' := 41) 21 rfl rfl pf_X4_26 ly_1 (lay_lt ly_1 (by decide)) ?_
  refine v_iconst (v := 1) (pc' := 42) 22 rfl rfl (by decide) ?_
  refine v_iadd (pc' := 43) 23 rfl rfl ?_
  refine v_bipush (v := 10) (pc' := 45) 24 rfl rfl (by decide) ?_
  refine v_mmin (pc' := 48) 25 rfl rfl mm_X4_37 (Nat.le_of_ble_eq_true rfl) (by decide) (by decide) ⟨Nat.le_of_ble_eq_true rfl, Nat.le_of_ble_eq_true rfl⟩ ?_
  refine v_putI (pc' := 51) 26 rfl rfl pf_X4_26 (fun q => absurd q (by decide)) ly_1 (lay_lt ly_1 (by decide)) ?_
  refine nm_M (e := (up2 (up2 I 1 4 s1) 1 3 (mnI (((up2 I 1 4 s1) 1 3) + 1) (10 : Int32)))) (fun I722 hI722 => ?_)
  replace h := h I722 hI722
  exact v_vret 27 rfl rfl (by decide) (by decide) ⟨_, _, rfl, rfl, h⟩
set_option maxHeartbeats 4000000 in
set_option maxRecDepth 100000 in
theorem ok_X4_record {G : GT} {b d t : Nat} (p1 : Nat) (I : TI) (L : TL) (hp1 : stOK p1) {Q : TI → TL → Prop} (h : W_X4_record p1 I L Q) : MW G Y_X4_record [.ref 1, .ref p1] (I, L, RT b d t, 457) (fun v9 u9 => ∃ (I9 : TI) (L9 : TL), v9 = none ∧ u9 = (I9, L9, RT b d t, 457) ∧ Q I9 L9) (fun _ _ => False) := by
  unfold W_X4_record at h
  refine MW.intro rfl (by decide) is_X4_record (Nat.le_of_ble_eq_true rfl) ?_
  show V G Y_X4_record 0 [(0, .ref 1), (1, .ref p1)] [] (I, L, RT b d t, 457) 0 0 _ _
  refine v_aload_n (pc' := 1) 0 0 rfl rfl rfl rfl ?_
  refine v_getR (t := 2) (pc' := 4) 1 rfl rfl pf_X4_11 ly_1 (lay_lt ly_1 (by decide)) rt_1_0 ?_
  refine v_aload_n (pc' := 5) 2 0 rfl rfl rfl rfl ?_
  refine v_getI (pc' := 8) 3 rfl rfl pf_X4_30 ly_1 (lay_lt ly_1 (by decide)) ?_
  obtain ⟨hi723, h⟩ := h
  refine v_aald4 (i := (I 1 4)) (r := (34 + 31 * (I 1 4).toNatClampNeg)) (j := (I 1 4).toNatClampNeg) (pc' := 9) 4 rfl rfl ly_2 ln_2 (lay_lt ly_2 (by decide)) hi723 rfl (rt_hs (vp_nat hi723)) ?_
  refine v_aload_n (pc' := 10) 5 1 rfl rfl rfl rfl ?_
  refine v_cV (Y2 := Y_X6_copyFrom) (As := [.ref p1]) (b := (34 + 31 * (I 1 4).toNatClampNeg)) (pc' := 13) (c1 := 0) (s1 := 0) 6 rfl rfl mf_X6_copyFrom rfl rfl ml_X4_33 mi_X6_copyFrom se_X6_copyFrom (ci := 5) rfl (st0l (hs_row (vp_nat hi723))) (lay_lt (st0l (hs_row (vp_nat hi723))) (by decide)) rfl (Nat.le_of_ble_eq_true rfl) ⟨Nat.le_of_ble_eq_true rfl, Nat.le_of_ble_eq_true rfl⟩ rfl rfl (ok_X6_copyFrom (34 + 31 * (I 1 4).toNatClampNeg) p1 I L (hs_row (vp_nat hi723)) hp1 h) ?_ ?_
  · intro e9 u9 hx9
    exact hx9.elim
  intro v9 u9 hv9
  obtain ⟨I724, L725, rfl, rfl, h⟩ := hv9
  refine ⟨fun q => absurd q (Nat.lt_irrefl _), ?_⟩
  show V G Y_X4_record 13 _ _ _ _ _ _ _
  refine v_aload_n (pc' := 14) 7 0 rfl rfl rfl rfl ?_
  refine v_aload_n (pc' := 15) 8 0 rfl rfl rfl rfl ?_
  refine v_getI (pc' := 18) 9 rfl rfl pf_X4_30 ly_1 (lay_lt ly_1 (by decide)) ?_
  refine v_bipush (v := 9) (pc' := 20) 10 rfl rfl (by decide) ?_
  refine v_icmp_ne (tgt := 27) (pc' := 23) 11 rfl rfl (by decide) (fun hc => ?_) (fun hc => ?_)
  · replace h := h.1 hc
    refine v_aload_n (pc' := 28) 14 0 rfl rfl rfl rfl ?_
    refine v_getI (pc' := 31) 15 rfl rfl pf_X4_30 ly_1 (lay_lt ly_1 (by decide)) ?_
    refine v_iconst (v := 1) (pc' := 32) 16 rfl rfl (by decide) ?_
    refine v_iadd (pc' := 33) 17 rfl rfl ?_
    refine V.sub [0] rfl ?_
    exact b_X4_record_33 p1 ((I724 1 4) + 1) I724 L725 hp1 Q h
  replace h := h.2 hc
  refine v_iconst (v := 0) (pc' := 24) 12 rfl rfl (by decide) ?_
  refine v_goto (tgt := 33) 13 rfl (by decide) ?_
  refine V.sub [0] rfl ?_
  exact b_X4_record_33 p1 (0 : Int32) I724 L725 hp1 Q h
set_option maxHeartbeats 4000000 in
set_option maxRecDepth 100000 in
theorem ok_X4_discardAll {G : GT} {b d t : Nat} (I : TI) (L : TL)  {Q : TI → Prop} (h : W_X4_discardAll I L Q) : MW G Y_X4_discardAll [.ref 1] (I, L, RT b d t, 457) (fun v9 u9 => ∃ (I9 : TI), v9 = none ∧ u9 = (I9, L, RT b d t, 457) ∧ Q I9) (fun _ _ => False) := by
  unfold W_X4_discardAll at h
  refine MW.intro rfl (by decide) is_X4_discardAll (Nat.le_of_ble_eq_true rfl) ?_
  show V G Y_X4_discardAll 0 [(0, .ref 1)] [] (I, L, RT b d t, 457) 0 0 _ _
  refine v_aload_n (pc' := 1) 0 0 rfl rfl rfl rfl ?_
  refine v_iconst (v := 0) (pc' := 2) 1 rfl rfl (by decide) ?_
  refine v_putI (pc' := 5) 2 rfl rfl pf_X4_26 (fun q => absurd q (by decide)) ly_1 (lay_lt ly_1 (by decide)) ?_
  refine v_aload_n (pc' := 6) 3 0 rfl rfl rfl rfl ?_
  refine v_iconst (v := 0) (pc' := 7) 4 rfl rfl (by decide) ?_
  refine v_putZ (pc' := 10) 5 rfl rfl pf_X4_22 (fun q => absurd q (by decide)) ly_1 (lay_lt ly_1 (by decide)) (by decide) ?_
  exact v_vret 6 rfl rfl (by decide) (by decide) ⟨_, rfl, rfl, h⟩
set_option maxHeartbeats 4000000 in
set_option maxRecDepth 100000 in
theorem ok_X6_settledTimes {G : GT} {b d t : Nat} (p0 : Nat) (p1 : Int32) (I : TI) (L : TL) (hp0 : stOK p0) {Q : Int32 → Prop} (h : W_X6_settledTimes p0 p1 I L Q) : MW G Y_X6_settledTimes [.ref p0, .int p1] (I, L, RT b d t, 457) (fun v9 u9 => ∃ (r9 : Int32), v9 = some (.int r9) ∧ u9 = (I, L, RT b d t, 457) ∧ Q r9) (fun _ _ => False) := by
  unfold W_X6_settledTimes at h
  refine MW.intro rfl (by decide) is_X6_settledTimes (Nat.le_of_ble_eq_true rfl) ?_
  show V G Y_X6_settledTimes 0 [(0, .ref p0), (1, .int p1)] [] (I, L, RT b d t, 457) 0 0 _ _
  refine v_aload_n (pc' := 1) 0 0 rfl rfl rfl rfl ?_
  refine v_getR (t := (p0 + 6)) (pc' := 4) 1 rfl rfl pf_X6_20 (st0l hp0) (lay_lt (st0l hp0) (by decide)) (rt_st_2 hp0) ?_
  refine v_iload_n (pc' := 5) 2 1 rfl rfl rfl rfl ?_
  obtain ⟨hi728, h⟩ := h
  refine v_lald (i := p1) (j := p1.toNatClampNeg) (pc' := 6) 3 rfl rfl (st6l hp0) (st6n hp0) (lay_lt (st6l hp0) (by decide)) hi728 rfl ?_
  refine v_cS (Y2 := Y_J13_bitCount_95d88) (As := [.long (L (p0 + 6) (p1.toNatClampNeg))]) (pc' := 9) (c1 := 0) (s1 := 0) 4 rfl rfl mf_J13_bitCount_95d88 rfl rfl ml_X6_67 ms_J13_bitCount_95d88 rfl (Nat.le_of_ble_eq_true rfl) ⟨Nat.le_of_ble_eq_true rfl, Nat.le_of_ble_eq_true rfl⟩ rfl rfl (ok_J13_bitCount_95d88 (L (p0 + 6) (p1.toNatClampNeg)) I L h) ?_ ?_
  · intro e9 u9 hx9
    exact hx9.elim
  intro v9 u9 hv9
  obtain ⟨r729, rfl, rfl, h⟩ := hv9
  refine ⟨fun q => absurd q (Nat.lt_irrefl _), ?_⟩
  show V G Y_X6_settledTimes 9 _ (.int r729 :: _) _ _ _ _ _
  exact v_iret 5 rfl rfl (by decide) (by decide) ⟨_, rfl, rfl, h⟩
set_option maxHeartbeats 4000000 in
set_option maxRecDepth 100000 in
theorem ok_X6_ruledTimes {G : GT} {b d t : Nat} (p0 : Nat) (p1 : Int32) (I : TI) (L : TL) (hp0 : stOK p0) {Q : Int32 → Prop} (h : W_X6_ruledTimes p0 p1 I L Q) : MW G Y_X6_ruledTimes [.ref p0, .int p1] (I, L, RT b d t, 457) (fun v9 u9 => ∃ (r9 : Int32), v9 = some (.int r9) ∧ u9 = (I, L, RT b d t, 457) ∧ Q r9) (fun _ _ => False) := by
  unfold W_X6_ruledTimes at h
  refine MW.intro rfl (by decide) is_X6_ruledTimes (Nat.le_of_ble_eq_true rfl) ?_
  show V G Y_X6_ruledTimes 0 [(0, .ref p0), (1, .int p1)] [] (I, L, RT b d t, 457) 0 0 _ _
  refine v_aload_n (pc' := 1) 0 0 rfl rfl rfl rfl ?_
  refine v_getR (t := (p0 + 7)) (pc' := 4) 1 rfl rfl pf_X6_23 (st0l hp0) (lay_lt (st0l hp0) (by decide)) (rt_st_3 hp0) ?_
  refine v_iload_n (pc' := 5) 2 1 rfl rfl rfl rfl ?_
  obtain ⟨hi733, h⟩ := h
  refine v_lald (i := p1) (j := p1.toNatClampNeg) (pc' := 6) 3 rfl rfl (st7l hp0) (st7n hp0) (lay_lt (st7l hp0) (by decide)) hi733 rfl ?_
  refine v_aload_n (pc' := 7) 4 0 rfl rfl rfl rfl ?_
  refine v_getR (t := (p0 + 6)) (pc' := 10) 5 rfl rfl pf_X6_20 (st0l hp0) (lay_lt (st0l hp0) (by decide)) (rt_st_2 hp0) ?_
  refine v_iload_n (pc' := 11) 6 1 rfl rfl rfl rfl ?_
  obtain ⟨hi734, h⟩ := h
  refine v_lald (i := p1) (j := p1.toNatClampNeg) (pc' := 12) 7 rfl rfl (st6l hp0) (st6n hp0) (lay_lt (st6l hp0) (by decide)) hi734 rfl ?_
  refine v_ldc2 (v := -1) (pc' := 15) 8 rfl rfl kl_X6_73 ?_
  refine v_lxor (pc' := 16) 9 rfl rfl ?_
  refine v_land (pc' := 17) 10 rfl rfl ?_
  refine v_cS (Y2 := Y_J13_bitCount_95d88) (As := [.long ((L (p0 + 7) (p1.toNatClampNeg)) &&& ((L (p0 + 6) (p1.toNatClampNeg)) ^^^ (-1)))]) (pc' := 20) (c1 := 0) (s1 := 0) 11 rfl rfl mf_J13_bitCount_95d88 rfl rfl ml_X6_67 ms_J13_bitCount_95d88 rfl (Nat.le_of_ble_eq_true rfl) ⟨Nat.le_of_ble_eq_true rfl, Nat.le_of_ble_eq_true rfl⟩ rfl rfl (ok_J13_bitCount_95d88 ((L (p0 + 7) (p1.toNatClampNeg)) &&& ((L (p0 + 6) (p1.toNatClampNeg)) ^^^ (-1))) I L h) ?_ ?_
  · intro e9 u9 hx9
    exact hx9.elim
  intro v9 u9 hv9
  obtain ⟨r735, rfl, rfl, h⟩ := hv9
  refine ⟨fun q => absurd q (Nat.lt_irrefl _), ?_⟩
  show V G Y_X6_ruledTimes 20 _ (.int r735 :: _) _ _ _ _ _
  exact v_iret 12 rfl rfl (by decide) (by decide) ⟨_, rfl, rfl, h⟩
set_option maxHeartbeats 4000000 in
set_option maxRecDepth 100000 in
theorem ok_X6_timeState {G : GT} {b d t : Nat} (p0 : Nat) (p1 : Int32) (p2 : Int32) (I : TI) (L : TL) (hp0 : stOK p0) {Q : Int32 → Prop} (h : W_X6_timeState p0 p1 p2 I L Q) : MW G Y_X6_timeState [.ref p0, .int p1, .int p2] (I, L, RT b d t, 457) (fun v9 u9 => ∃ (r9 : Int32), v9 = some (.int r9) ∧ u9 = (I, L, RT b d t, 457) ∧ Q r9) (fun _ _ => False) := by
  unfold W_X6_timeState at h
  refine MW.intro rfl (by decide) is_X6_timeState (Nat.le_of_ble_eq_true rfl) ?_
  show V G Y_X6_timeState 0 [(0, .ref p0), (1, .int p1), (2, .int p2)] [] (I, L, RT b d t, 457) 0 0 _ _
  refine v_aload_n (pc' := 1) 0 0 rfl rfl rfl rfl ?_
  refine v_getR (t := (p0 + 6)) (pc' := 4) 1 rfl rfl pf_X6_20 (st0l hp0) (lay_lt (st0l hp0) (by decide)) (rt_st_2 hp0) ?_
  refine v_iload_n (pc' := 5) 2 1 rfl rfl rfl rfl ?_
  obtain ⟨hi740, h⟩ := h
  refine v_lald (i := p1) (j := p1.toNatClampNeg) (pc' := 6) 3 rfl rfl (st6l hp0) (st6n hp0) (lay_lt (st6l hp0) (by decide)) hi740 rfl ?_
  refine v_iload_n (pc' := 7) 4 2 rfl rfl rfl rfl ?_
  refine v_cNS (Y2 := Y_X8_bitOf) (As := [.long (L (p0 + 6) (p1.toNatClampNeg)), .int p2]) (pc' := 10) (c1 := 0) (s1 := 0) 5 rfl rfl mf_X8_bitOf rfl rfl nt_X6_75 ms_X8_bitOf rfl (Nat.le_of_ble_eq_true rfl) ⟨Nat.le_of_ble_eq_true rfl, Nat.le_of_ble_eq_true rfl⟩ rfl rfl (ok_X8_bitOf (L (p0 + 6) (p1.toNatClampNeg)) p2 I L h) ?_ ?_
  · intro e9 u9 hx9
    exact hx9.elim
  intro v9 u9 hv9
  obtain ⟨r741, rfl, rfl, h⟩ := hv9
  refine ⟨fun q => absurd q (Nat.lt_irrefl _), ?_⟩
  show V G Y_X6_timeState 10 _ (.int r741 :: _) _ _ _ _ _
  refine v_iconst (v := 1) (pc' := 11) 6 rfl rfl (by decide) ?_
  refine v_icmp_ne (tgt := 16) (pc' := 14) 7 rfl rfl (by decide) (fun hc => ?_) (fun hc => ?_)
  · replace h := h.1 hc
    refine v_aload_n (pc' := 17) 10 0 rfl rfl rfl rfl ?_
    refine v_getR (t := (p0 + 7)) (pc' := 20) 11 rfl rfl pf_X6_23 (st0l hp0) (lay_lt (st0l hp0) (by decide)) (rt_st_3 hp0) ?_
    refine v_iload_n (pc' := 21) 12 1 rfl rfl rfl rfl ?_
    obtain ⟨hi742, h⟩ := h
    refine v_lald (i := p1) (j := p1.toNatClampNeg) (pc' := 22) 13 rfl rfl (st7l hp0) (st7n hp0) (lay_lt (st7l hp0) (by decide)) hi742 rfl ?_
    refine v_iload_n (pc' := 23) 14 2 rfl rfl rfl rfl ?_
    refine v_cNS (Y2 := Y_X8_bitOf) (As := [.long (L (p0 + 7) (p1.toNatClampNeg)), .int p2]) (pc' := 26) (c1 := 0) (s1 := 0) 15 rfl rfl mf_X8_bitOf rfl rfl nt_X6_75 ms_X8_bitOf rfl (Nat.le_of_ble_eq_true rfl) ⟨Nat.le_of_ble_eq_true rfl, Nat.le_of_ble_eq_true rfl⟩ rfl rfl (ok_X8_bitOf (L (p0 + 7) (p1.toNatClampNeg)) p2 I L h) ?_ ?_
    · intro e9 u9 hx9
      exact hx9.elim
    intro v9 u9 hv9
    obtain ⟨r743, rfl, rfl, h⟩ := hv9
    refine ⟨fun q => absurd q (Nat.lt_irrefl _), ?_⟩
    show V G Y_X6_timeState 26 _ (.int r743 :: _) _ _ _ _ _
    exact v_iret 16 rfl rfl (by decide) (by decide) ⟨_, rfl, rfl, h⟩
  replace h := h.2 hc
  refine v_iconst (v := 2) (pc' := 15) 8 rfl rfl (by decide) ?_
  exact v_iret 9 rfl rfl (by decide) (by decide) ⟨_, rfl, rfl, h⟩
set_option maxHeartbeats 4000000 in
set_option maxRecDepth 100000 in
theorem b_X6_hasPending_66 {G : GT} {b d t : Nat} (p0 : Nat) (v1 : Int32) (v2 : Int32) (v3 : Int32) (v5 : Int32) (s0 : Int32) (s1 : Int32) (I : TI) (L : TL) (hp0 : stOK p0) (Q : Int32 → Prop) (R6 : Int32 → Int32 → Prop) (hR6 : ∀ (v4 : Int32) (v5 : Int32), R6 v4 v5 → V G Y_X6_hasPending 6 [(0, .ref p0), (1, .int v1), (2, .int v2), (3, .int v3), (4, .int v4), (5, .int v5)] [] (I, L, RT b d t, 457) 0 0 (fun v9 u9 => ∃ (r9 : Int32), v9 = some (.int r9) ∧ u9 = (I, L, RT b d t, 457) ∧ Q r9) (fun _ _ => False)) (h : B_X6_hasPending_66 p0 v1 v2 v3 v5 s0 s1 I L Q R6) : V G Y_X6_hasPending 66 [(0, .ref p0), (1, .int v1), (2, .int v2), (3, .int v3), (5, .int v5)] [.int s1, .int s0] (I, L, RT b d t, 457) 0 0 (fun v9 u9 => ∃ (r9 : Int32), v9 = some (.int r9) ∧ u9 = (I, L, RT b d t, 457) ∧ Q r9) (fun _ _ => False) := by
  unfold B_X6_hasPending_66 at h
  refine v_ior (pc' := 67) 32 rfl rfl ?_
  refine v_istore (ls' := [(4, .int (s0 ||| s1)), (0, .ref p0), (1, .int v1), (2, .int v2), (3, .int v3), (5, .int v5)]) (pc' := 69) 33 rfl rfl (by decide) rfl ?_
  refine v_iinc (v := (v5 + 1)) (ls' := [(5, .int (v5 + 1)), (4, .int (s0 ||| s1)), (0, .ref p0), (1, .int v1), (2, .int v2), (3, .int v3)]) (pc' := 72) 34 5 rfl rfl rfl rfl (by decide) rfl ?_
  refine v_goto (tgt := 6) 35 rfl (by decide) ?_
  refine V.sub [2, 3, 4, 5, 1, 0] rfl ?_
  exact hR6 (s0 ||| s1) (v5 + 1) h
set_option maxHeartbeats 4000000 in
set_option maxRecDepth 100000 in
theorem b_X6_hasPending_65 {G : GT} {b d t : Nat} (p0 : Nat) (v1 : Int32) (v2 : Int32) (v3 : Int32) (v5 : Int32) (s0 : Int32) (I : TI) (L : TL) (hp0 : stOK p0) (Q : Int32 → Prop) (R6 : Int32 → Int32 → Prop) (hR6 : ∀ (v4 : Int32) (v5 : Int32), R6 v4 v5 → V G Y_X6_hasPending 6 [(0, .ref p0), (1, .int v1), (2, .int v2), (3, .int v3), (4, .int v4), (5, .int v5)] [] (I, L, RT b d t, 457) 0 0 (fun v9 u9 => ∃ (r9 : Int32), v9 = some (.int r9) ∧ u9 = (I, L, RT b d t, 457) ∧ Q r9) (fun _ _ => False)) (h : B_X6_hasPending_65 p0 v1 v2 v3 v5 s0 I L Q R6) : V G Y_X6_hasPending 65 [(0, .ref p0), (1, .int v1), (2, .int v2), (3, .int v3), (5, .int v5)] [.int s0] (I, L, RT b d t, 457) 0 0 (fun v9 u9 => ∃ (r9 : Int32), v9 = some (.int r9) ∧ u9 = (I, L, RT b d t, 457) ∧ Q r9) (fun _ _ => False) := by
  unfold B_X6_hasPending_65 at h
  refine v_iconst (v := 0) (pc' := 66) 31 rfl rfl (by decide) ?_
  exact b_X6_hasPending_66 p0 v1 v2 v3 v5 s0 (0 : Int32) I L hp0 Q R6 hR6 h
set_option maxHeartbeats 4000000 in
set_option maxRecDepth 100000 in
theorem d_X6_hasPending_6 {G : GT} {b d t : Nat} (p0 : Nat) (v1 : Int32) (v2 : Int32) (v3 : Int32) (I : TI) (L : TL) (hp0 : stOK p0) (Q : Int32 → Prop) (R6 : Int32 → Int32 → Prop)  (hR6 : ∀ (v4 : Int32) (v5 : Int32), R6 v4 v5 → V G Y_X6_hasPending 6 [(0, .ref p0), (1, .int v1), (2, .int v2), (3, .int v3), (4, .int v4), (5, .int v5)] [] (I, L, RT b d t, 457) 0 0 (fun v9 u9 => ∃ (r9 : Int32), v9 = some (.int r9) ∧ u9 = (I, L, RT b d t, 457) ∧ Q r9) (fun _ _ => False)) (v4 : Int32) (v5 : Int32)  (h : D_X6_hasPending_6 p0 v1 v2 v3 I L Q R6 v4 v5) : V G Y_X6_hasPending 6 [(0, .ref p0), (1, .int v1), (2, .int v2), (3, .int v3), (4, .int v4), (5, .int v5)] [] (I, L, RT b d t, 457) 0 0 (fun v9 u9 => ∃ (r9 : Int32), v9 = some (.int r9) ∧ u9 = (I, L, RT b d t, 457) ∧ Q r9) (fun _ _ => False) := by
  unfold D_X6_hasPending_6 at h
  refine v_iload (pc' := 8) 4 5 rfl rfl rfl ?_
  refine v_aload_n (pc' := 9) 5 0 rfl rfl rfl rfl ?_
  refine v_getI (pc' := 12) 6 rfl rfl pf_X6_39 (st0l hp0) (lay_lt (st0l hp0) (by decide)) ?_
  refine v_icmp_ge (tgt := 75) (pc' := 15) 7 rfl rfl (by decide) (fun hc => ?_) (fun hc => ?_)
  · replace h := h.1 hc
    refine v_iload (pc' := 77) 36 4 rfl rfl rfl ?_
    obtain ⟨hz750, h⟩ := h
    exact v_bret 37 rfl rfl hz750 (by decide) (by decide) ⟨_, rfl, rfl, h⟩
  replace h := h.2 hc
  refine v_aload_n (pc' := 16) 8 0 rfl rfl rfl rfl ?_
  refine v_getR (t := (p0 + 10)) (pc' := 19) 9 rfl rfl pf_X6_35 (st0l hp0) (lay_lt (st0l hp0) (by decide)) (rt_st_6 hp0) ?_
  refine v_iload (pc' := 21) 10 5 rfl rfl rfl ?_
  obtain ⟨hi751, h⟩ := h
  refine v_aald5 (i := v5) (r := ((p0 + 11) + v5.toNatClampNeg)) (j := v5.toNatClampNeg) (pc' := 22) 11 rfl rfl (st10l hp0) (st10n hp0) (lay_lt (st10l hp0) (by decide)) hi751 rfl (rt_dis hp0 (vp_nat hi751)) ?_
  refine v_astore (ls' := [(6, .ref ((p0 + 11) + v5.toNatClampNeg)), (0, .ref p0), (1, .int v1), (2, .int v2), (3, .int v3), (4, .int v4), (5, .int v5)]) (pc' := 24) 12 rfl rfl (by decide) rfl ?_
  refine v_iload (pc' := 26) 13 5 rfl rfl rfl ?_
  refine v_aload (pc' := 28) 14 0 rfl rfl rfl ?_
  refine v_cV (Y2 := Y_X3_isPending) (As := []) (b := ((p0 + 11) + v5.toNatClampNeg)) (pc' := 31) (c1 := 0) (s1 := 0) 15 rfl rfl mf_X3_isPending rfl rfl ml_X6_79 mi_X3_isPending se_X3_isPending (ci := 2) rfl (st_disl hp0 (vp_nat hi751)) (lay_lt (st_disl hp0 (vp_nat hi751)) (by decide)) rfl (Nat.le_of_ble_eq_true rfl) ⟨Nat.le_of_ble_eq_true rfl, Nat.le_of_ble_eq_true rfl⟩ rfl rfl (ok_X3_isPending ((p0 + 11) + v5.toNatClampNeg) I L (st_disl hp0 (vp_nat hi751)) h) ?_ ?_
  · intro e9 u9 hx9
    exact hx9.elim
  intro v9 u9 hv9
  obtain ⟨r752, rfl, rfl, h⟩ := hv9
  refine ⟨fun q => absurd q (Nat.lt_irrefl _), ?_⟩
  show V G Y_X6_hasPending 31 _ (.int r752 :: _) _ _ _ _ _
  refine v_if_eq (tgt := 65) (pc' := 34) 16 rfl rfl (by decide) (fun hc => ?_) (fun hc => ?_)
  · replace h := h.1 hc
    refine V.sub [1, 2, 3, 4, 6] rfl ?_
    exact b_X6_hasPending_65 p0 v1 v2 v3 v5 v4 I L hp0 Q R6 hR6 h
  replace h := h.2 hc
  refine v_aload (pc' := 36) 17 0 rfl rfl rfl ?_
  refine v_getI (pc' := 39) 18 rfl rfl pf_X6_83 (st_disl hp0 (vp_nat hi751)) (lay_lt (st_disl hp0 (vp_nat hi751)) (by decide)) ?_
  refine v_iload_n (pc' := 40) 19 2 rfl rfl rfl rfl ?_
  refine v_icmp_ne (tgt := 65) (pc' := 43) 20 rfl rfl (by decide) (fun hc => ?_) (fun hc => ?_)
  · replace h := h.1 hc
    refine V.sub [1, 2, 3, 4, 6] rfl ?_
    exact b_X6_hasPending_65 p0 v1 v2 v3 v5 v4 I L hp0 Q R6 hR6 h
  replace h := h.2 hc
  refine v_aload (pc' := 45) 21 0 rfl rfl rfl ?_
  refine v_getI (pc' := 48) 22 rfl rfl pf_X6_86 (st_disl hp0 (vp_nat hi751)) (lay_lt (st_disl hp0 (vp_nat hi751)) (by decide)) ?_
  refine v_iload_n (pc' := 49) 23 4 rfl rfl rfl rfl ?_
  refine v_icmp_gt (tgt := 65) (pc' := 52) 24 rfl rfl (by decide) (fun hc => ?_) (fun hc => ?_)
  · replace h := h.1 hc
    refine V.sub [1, 2, 3, 4, 6] rfl ?_
    exact b_X6_hasPending_65 p0 v1 v2 v3 v5 v4 I L hp0 Q R6 hR6 h
  replace h := h.2 hc
  refine v_aload (pc' := 54) 25 0 rfl rfl rfl ?_
  refine v_getI (pc' := 57) 26 rfl rfl pf_X6_89 (st_disl hp0 (vp_nat hi751)) (lay_lt (st_disl hp0 (vp_nat hi751)) (by decide)) ?_
  refine v_iload_n (pc' := 58) 27 3 rfl rfl rfl rfl ?_
  refine v_icmp_lt (tgt := 65) (pc' := 61) 28 rfl rfl (by decide) (fun hc => ?_) (fun hc => ?_)
  · replace h := h.1 hc
    refine V.sub [1, 2, 3, 4, 6] rfl ?_
    exact b_X6_hasPending_65 p0 v1 v2 v3 v5 v4 I L hp0 Q R6 hR6 h
  replace h := h.2 hc
  refine v_iconst (v := 1) (pc' := 62) 29 rfl rfl (by decide) ?_
  refine v_goto (tgt := 66) 30 rfl (by decide) ?_
  refine V.sub [1, 2, 3, 4, 6] rfl ?_
  exact b_X6_hasPending_66 p0 v1 v2 v3 v5 v4 (1 : Int32) I L hp0 Q R6 hR6 h
theorem l_X6_hasPending_6 {G : GT} {b d t : Nat} (p0 : Nat) (v1 : Int32) (v2 : Int32) (v3 : Int32) (I : TI) (L : TL) (hp0 : stOK p0) (Q : Int32 → Prop)  : ∀ (n9 : Nat) (v4 : Int32) (v5 : Int32), L_X6_hasPending_6 p0 v1 v2 v3 I L Q n9 v4 v5 → V G Y_X6_hasPending 6 [(0, .ref p0), (1, .int v1), (2, .int v2), (3, .int v3), (4, .int v4), (5, .int v5)] [] (I, L, RT b d t, 457) 0 0 (fun v9 u9 => ∃ (r9 : Int32), v9 = some (.int r9) ∧ u9 = (I, L, RT b d t, 457) ∧ Q r9) (fun _ _ => False)
  | 0, _, _, h => h.elim
  | n9 + 1, v4, v5, h => d_X6_hasPending_6 p0 v1 v2 v3 I L hp0 Q _ (l_X6_hasPending_6 p0 v1 v2 v3 I L hp0 Q n9) v4 v5 h
set_option maxHeartbeats 4000000 in
set_option maxRecDepth 100000 in
theorem ok_X6_hasPending {G : GT} {b d t : Nat} (p0 : Nat) (p1 : Int32) (p2 : Int32) (p3 : Int32) (I : TI) (L : TL) (hp0 : stOK p0) {Q : Int32 → Prop} (h : W_X6_hasPending p0 p1 p2 p3 I L Q) : MW G Y_X6_hasPending [.ref p0, .int p1, .int p2, .int p3] (I, L, RT b d t, 457) (fun v9 u9 => ∃ (r9 : Int32), v9 = some (.int r9) ∧ u9 = (I, L, RT b d t, 457) ∧ Q r9) (fun _ _ => False) := by
  unfold W_X6_hasPending at h
  refine MW.intro rfl (by decide) is_X6_hasPending (Nat.le_of_ble_eq_true rfl) ?_
  show V G Y_X6_hasPending 0 [(0, .ref p0), (1, .int p1), (2, .int p2), (3, .int p3)] [] (I, L, RT b d t, 457) 0 0 _ _
  refine v_iconst (v := 0) (pc' := 1) 0 rfl rfl (by decide) ?_
  refine v_istore (ls' := [(4, .int 0), (0, .ref p0), (1, .int p1), (2, .int p2), (3, .int p3)]) (pc' := 3) 1 rfl rfl (by decide) rfl ?_
  refine v_iconst (v := 0) (pc' := 4) 2 rfl rfl (by decide) ?_
  refine v_istore (ls' := [(5, .int 0), (4, .int 0), (0, .ref p0), (1, .int p1), (2, .int p2), (3, .int p3)]) (pc' := 6) 3 rfl rfl (by decide) rfl ?_
  refine V.sub [2, 3, 4, 5, 1, 0] rfl ?_
  obtain ⟨n753, h⟩ := h
  exact l_X6_hasPending_6 p0 p1 p2 p3 I L hp0 Q n753 (0 : Int32) (0 : Int32) h
set_option maxHeartbeats 4000000 in
set_option maxRecDepth 100000 in
theorem ok_X6_payCourt {G : GT} {b d t : Nat} (p0 : Nat) (p1 : Int32) (p2 : Int32) (I : TI) (L : TL) (hp0 : stOK p0) {Q : TI → Prop} (h : W_X6_payCourt p0 p1 p2 I L Q) : MW G Y_X6_payCourt [.ref p0, .int p1, .int p2] (I, L, RT b d t, 457) (fun v9 u9 => ∃ (I9 : TI), v9 = none ∧ u9 = (I9, L, RT b d t, 457) ∧ Q I9) (fun _ _ => False) := by
  unfold W_X6_payCourt at h
  refine MW.intro rfl (by decide) is_X6_payCourt (Nat.le_of_ble_eq_true rfl) ?_
  show V G Y_X6_payCourt 0 [(0, .ref p0), (1, .int p1), (2, .int p2)] [] (I, L, RT b d t, 457) 0 0 _ _
  refine v_aload_n (pc' := 1) 0 0 rfl rfl rfl rfl ?_
  refine v_getR (t := (p0 + 9)) (pc' := 4) 1 rfl rfl pf_X6_29 (st0l hp0) (lay_lt (st0l hp0) (by decide)) (rt_st_5 hp0) ?_
  refine v_iload_n (pc' := 5) 2 1 rfl rfl rfl rfl ?_
  refine v_dup2 (pc' := 6) 3 rfl rfl rfl rfl ?_
  obtain ⟨hi756, h⟩ := h
  refine v_iald (i := p1) (j := p1.toNatClampNeg) (pc' := 7) 4 rfl rfl (st9l hp0) (st9n hp0) (lay_lt (st9l hp0) (by decide)) hi756 rfl ?_
  refine v_iload_n (pc' := 8) 5 2 rfl rfl rfl rfl ?_
  refine v_isub (pc' := 9) 6 rfl rfl ?_
  obtain ⟨hi757, h⟩ := h
  refine v_iast (i := p1) (j := p1.toNatClampNeg) (pc' := 10) 7 rfl rfl (st9l hp0) (st9n hp0) (lay_lt (st9l hp0) (by decide)) hi757 rfl ?_
  refine nm_M (e := (up2 I (p0 + 9) (p1.toNatClampNeg) ((I (p0 + 9) (p1.toNatClampNeg)) - p2))) (fun I758 hI758 => ?_)
  replace h := h I758 hI758
  refine v_aload_n (pc' := 11) 8 0 rfl rfl rfl rfl ?_
  refine v_getR (t := (p0 + 9)) (pc' := 14) 9 rfl rfl pf_X6_29 (st0l hp0) (lay_lt (st0l hp0) (by decide)) (rt_st_5 hp0) ?_
  refine v_iconst (v := 2) (pc' := 15) 10 rfl rfl (by decide) ?_
  refine v_dup2 (pc' := 16) 11 rfl rfl rfl rfl ?_
  refine v_iald (i := 2) (j := 2) (pc' := 17) 12 rfl rfl (st9l hp0) (st9n hp0) (lay_lt (st9l hp0) (by decide)) (vp_lit (by decide)) (by decide) ?_
  refine v_iload_n (pc' := 18) 13 2 rfl rfl rfl rfl ?_
  refine v_iadd (pc' := 19) 14 rfl rfl ?_
  refine v_iast (i := 2) (j := 2) (pc' := 20) 15 rfl rfl (st9l hp0) (st9n hp0) (lay_lt (st9l hp0) (by decide)) (vp_lit (by decide)) (by decide) ?_
  exact v_vret 16 rfl rfl (by decide) (by decide) ⟨_, rfl, rfl, h⟩
set_option maxHeartbeats 4000000 in
set_option maxRecDepth 100000 in
theorem ok_X7_begin {G : GT} {b d : Nat} (p2 : Int32) (I : TI) (L : TL) (t : Nat) (ht : txOK t) {Q : TI → Nat → Prop} (h : W_X7_begin p2 I L t Q) : MW G Y_X7_begin [.ref 344, .ref 350, .int p2] (I, L, RT b d t, 457) (fun v9 u9 => ∃ (I9 : TI) (t9 : Nat), v9 = none ∧ u9 = (I9, L, RT b d t9, 457) ∧ Q I9 t9) (fun _ _ => False) := by
  unfold W_X7_begin at h
  refine MW.intro rfl (by decide) is_X7_begin (Nat.le_of_ble_eq_true rfl) ?_
  show V G Y_X7_begin 0 [(0, .ref 344), (1, .ref 350), (2, .int p2)] [] (I, L, RT b d t, 457) 0 0 _ _
  refine v_aload_n (pc' := 1) 0 0 rfl rfl rfl rfl ?_
  refine v_aload_n (pc' := 2) 1 1 rfl rfl rfl rfl ?_
  refine v_putR (pc' := 5) 2 rfl rfl pf_X7_9 (fun q => absurd q (by decide)) ly_344 (lay_lt ly_344 (by decide)) ?_
  rw [rt_utext]
  refine v_aload_n (pc' := 6) 3 0 rfl rfl rfl rfl ?_
  refine v_iload_n (pc' := 7) 4 2 rfl rfl rfl rfl ?_
  refine v_aload_n (pc' := 8) 5 1 rfl rfl rfl rfl ?_
  refine v_alen (t := 2) (pc' := 9) 6 rfl rfl ly_350 (by decide) ln_350 (lay_lt ly_350 (by decide)) ?_
  refine v_mmin (pc' := 12) 7 rfl rfl mm_X7_37 (Nat.le_of_ble_eq_true rfl) (by decide) (by decide) ⟨Nat.le_of_ble_eq_true rfl, Nat.le_of_ble_eq_true rfl⟩ ?_
  refine v_putI (pc' := 15) 8 rfl rfl pf_X7_15 (fun q => absurd q (by decide)) ly_344 (lay_lt ly_344 (by decide)) ?_
  refine v_aload_n (pc' := 16) 9 0 rfl rfl rfl rfl ?_
  refine v_iconst (v := 0) (pc' := 17) 10 rfl rfl (by decide) ?_
  refine v_putI (pc' := 20) 11 rfl rfl pf_X7_22 (fun q => absurd q (by decide)) ly_344 (lay_lt ly_344 (by decide)) ?_
  refine v_aload_n (pc' := 21) 12 0 rfl rfl rfl rfl ?_
  refine v_iconst (v := 0) (pc' := 22) 13 rfl rfl (by decide) ?_
  refine v_putI (pc' := 25) 14 rfl rfl pf_X7_31 (fun q => absurd q (by decide)) ly_344 (lay_lt ly_344 (by decide)) ?_
  refine v_aload_n (pc' := 26) 15 0 rfl rfl rfl rfl ?_
  refine v_iconst (v := -1) (pc' := 27) 16 rfl rfl (by decide) ?_
  refine v_putI (pc' := 30) 17 rfl rfl pf_X7_34 (fun q => absurd q (by decide)) ly_344 (lay_lt ly_344 (by decide)) ?_
  refine nm_M (e := (up2 (up2 (up2 (up2 I 344 1 (mnI p2 (nI 600))) 344 3 0) 344 6 0) 344 7 (-1))) (fun I760 hI760 => ?_)
  replace h := h I760 hI760
  refine v_aload_n (pc' := 31) 18 0 rfl rfl rfl rfl ?_
  refine v_cV (Y2 := Y_X7_advance) (As := []) (b := 344) (pc' := 34) (c1 := 0) (s1 := 0) 19 rfl rfl mf_X7_advance rfl rfl ml_X7_43 mi_X7_advance se_X7_advance (ci := 6) rfl ly_344 (lay_lt ly_344 (by decide)) rfl (Nat.le_of_ble_eq_true rfl) ⟨Nat.le_of_ble_eq_true rfl, Nat.le_of_ble_eq_true rfl⟩ rfl rfl (ok_X7_advance I760 L 350 (Or.inr rfl) h) ?_ ?_
  · intro e9 u9 hx9
    exact hx9.elim
  intro v9 u9 hv9
  obtain ⟨I761, rfl, rfl, h⟩ := hv9
  refine ⟨fun q => absurd q (Nat.lt_irrefl _), ?_⟩
  show V G Y_X7_begin 34 _ _ _ _ _ _ _
  exact v_vret 20 rfl rfl (by decide) (by decide) ⟨_, _, rfl, rfl, h⟩
set_option maxHeartbeats 4000000 in
set_option maxRecDepth 100000 in
theorem d_X8_putBytes_3 {G : GT} {b d t : Nat} {nx : Nat} (hnx : 436 ≤ nx) (v1 : Int32) (L : TL)  (Q : TI → Prop) (R3 : Int32 → TI → Prop)  (hR3 : ∀ (v2 : Int32) (I : TI), R3 v2 I → V G Y_X8_putBytes 3 [(0, .ref 0), (1, .int v1), (2, .int v2)] [] (I, L, RT b d t, nx) 0 0 (fun v9 u9 => ∃ (I9 : TI), v9 = none ∧ u9 = (I9, L, RT b d t, nx) ∧ Q I9) (fun _ _ => False)) (v2 : Int32) (I : TI)  (h : D_X8_putBytes_3 v1 L Q R3 v2 I) : V G Y_X8_putBytes 3 [(0, .ref 0), (1, .int v1), (2, .int v2)] [] (I, L, RT b d t, nx) 0 0 (fun v9 u9 => ∃ (I9 : TI), v9 = none ∧ u9 = (I9, L, RT b d t, nx) ∧ Q I9) (fun _ _ => False) := by
  unfold D_X8_putBytes_3 at h
  refine v_iload_n (pc' := 4) 2 2 rfl rfl rfl rfl ?_
  refine v_if_lt (tgt := 46) (pc' := 7) 3 rfl rfl (by decide) (fun hc => ?_) (fun hc => ?_)
  · replace h := h.1 hc
    exact v_vret 25 rfl rfl (by decide) (by decide) ⟨_, rfl, rfl, h⟩
  replace h := h.2 hc
  refine v_aload_n (pc' := 8) 4 0 rfl rfl rfl rfl ?_
  refine v_getI (pc' := 11) 5 rfl rfl pf_X8_47 ly_0 (lay_n ly_0 (by decide) hnx) ?_
  refine v_sipush (v := 600) (pc' := 14) 6 rfl rfl (by decide) ?_
  refine v_icmp_ge (tgt := 46) (pc' := 17) 7 rfl rfl (by decide) (fun hc => ?_) (fun hc => ?_)
  · replace h := h.1 hc
    exact v_vret 25 rfl rfl (by decide) (by decide) ⟨_, rfl, rfl, h⟩
  replace h := h.2 hc
  refine v_aload_n (pc' := 18) 8 0 rfl rfl rfl rfl ?_
  refine v_getR (t := 350) (pc' := 21) 9 rfl rfl pf_X8_30 ly_0 (lay_n ly_0 (by decide) hnx) rt_0_3 ?_
  refine v_aload_n (pc' := 22) 10 0 rfl rfl rfl rfl ?_
  refine v_getI (pc' := 25) 11 rfl rfl pf_X8_47 ly_0 (lay_n ly_0 (by decide) hnx) ?_
  refine v_iload_n (pc' := 26) 12 1 rfl rfl rfl rfl ?_
  refine v_iload_n (pc' := 27) 13 2 rfl rfl rfl rfl ?_
  refine v_iushr (pc' := 28) 14 rfl rfl ?_
  refine v_i2b (pc' := 29) 15 rfl rfl ?_
  obtain ⟨hi764, h⟩ := h
  refine v_bast (i := (I 0 7)) (j := (I 0 7).toNatClampNeg) (pc' := 30) 16 rfl rfl ly_350 ln_350 (lay_n ly_350 (by decide) hnx) hi764 rfl ?_
  refine nm_M (e := (up2 I 350 ((I 0 7).toNatClampNeg) ((ushI v1 v2).toInt8.toInt32).toInt8.toInt32)) (fun I765 hI765 => ?_)
  replace h := h I765 hI765
  refine v_aload_n (pc' := 31) 17 0 rfl rfl rfl rfl ?_
  refine v_dup (pc' := 32) 18 rfl rfl rfl ?_
  refine v_getI (pc' := 35) 19 rfl rfl pf_X8_47 ly_0 (lay_n ly_0 (by decide) hnx) ?_
  refine v_iconst (v := 1) (pc' := 36) 20 rfl rfl (by decide) ?_
  refine v_iadd (pc' := 37) 21 rfl rfl ?_
  refine v_putI (pc' := 40) 22 rfl rfl pf_X8_47 (fun q => absurd q (by decide)) ly_0 (lay_n ly_0 (by decide) hnx) ?_
  refine v_iinc (v := (v2 + (-8))) (ls' := [(2, .int (v2 + (-8))), (0, .ref 0), (1, .int v1)]) (pc' := 43) 23 2 rfl rfl rfl rfl (by decide) rfl ?_
  refine v_goto (tgt := 3) 24 rfl (by decide) ?_
  refine V.sub [1, 2, 0] rfl ?_
  exact hR3 (v2 + (-8)) (up2 I765 0 7 ((I765 0 7) + 1)) h
theorem l_X8_putBytes_3 {G : GT} {b d t : Nat} {nx : Nat} (hnx : 436 ≤ nx) (v1 : Int32) (L : TL)  (Q : TI → Prop)  : ∀ (n9 : Nat) (v2 : Int32) (I : TI), L_X8_putBytes_3 v1 L Q n9 v2 I → V G Y_X8_putBytes 3 [(0, .ref 0), (1, .int v1), (2, .int v2)] [] (I, L, RT b d t, nx) 0 0 (fun v9 u9 => ∃ (I9 : TI), v9 = none ∧ u9 = (I9, L, RT b d t, nx) ∧ Q I9) (fun _ _ => False)
  | 0, _, _, h => h.elim
  | n9 + 1, v2, I, h => d_X8_putBytes_3 hnx v1 L Q _ (l_X8_putBytes_3 hnx v1 L Q n9) v2 I h
set_option maxHeartbeats 4000000 in
set_option maxRecDepth 100000 in
theorem ok_X8_putBytes {G : GT} {b d t : Nat} {nx : Nat} (hnx : 436 ≤ nx) (p1 : Int32) (I : TI) (L : TL)  {Q : TI → Prop} (h : W_X8_putBytes p1 I L Q) : MW G Y_X8_putBytes [.ref 0, .int p1] (I, L, RT b d t, nx) (fun v9 u9 => ∃ (I9 : TI), v9 = none ∧ u9 = (I9, L, RT b d t, nx) ∧ Q I9) (fun _ _ => False) := by
  unfold W_X8_putBytes at h
  refine MW.intro rfl (by decide) is_X8_putBytes (Nat.le_of_ble_eq_true rfl) ?_
  show V G Y_X8_putBytes 0 [(0, .ref 0), (1, .int p1)] [] (I, L, RT b d t, nx) 0 0 _ _
  refine v_bipush (v := 24) (pc' := 2) 0 rfl rfl (by decide) ?_
  refine v_istore_n (ls' := [(2, .int 24), (0, .ref 0), (1, .int p1)]) (pc' := 3) 1 rfl rfl rfl (by decide) rfl ?_
  refine V.sub [1, 2, 0] rfl ?_
  obtain ⟨n766, h⟩ := h
  exact l_X8_putBytes_3 hnx p1 L Q n766 (24 : Int32) I h
set_option maxHeartbeats 4000000 in
set_option maxRecDepth 100000 in
theorem ok_X8_feed {G : GT} {b d t : Nat} {nx : Nat} (hnx : 436 ≤ nx) (p1 : Int32) (p2 : Int32) (p3 : Int32) (p4 : Int32) (p5 : Int32) (I : TI) (L : TL)  {Q : Int32 → TI → Prop} (h : W_X8_feed p1 p2 p3 p4 p5 I L Q) : MW G Y_X8_feed [.ref 0, .int p1, .int p2, .int p3, .int p4, .int p5] (I, L, RT b d t, nx) (fun v9 u9 => ∃ (r9 : Int32) (I9 : TI), v9 = some (.int r9) ∧ u9 = (I9, L, RT b d t, nx) ∧ Q r9 I9) (fun _ _ => False) := by
  unfold W_X8_feed at h
  refine MW.intro rfl (by decide) is_X8_feed (Nat.le_of_ble_eq_true rfl) ?_
  show V G Y_X8_feed 0 [(0, .ref 0), (1, .int p1), (2, .int p2), (3, .int p3), (4, .int p4), (5, .int p5)] [] (I, L, RT b d t, nx) 0 0 _ _
  refine v_aload_n (pc' := 1) 0 0 rfl rfl rfl rfl ?_
  refine v_getI (pc' := 4) 1 rfl rfl pf_X8_47 ly_0 (lay_n ly_0 (by decide) hnx) ?_
  refine v_sipush (v := 580) (pc' := 7) 2 rfl rfl (by decide) ?_
  refine v_icmp_le (tgt := 12) (pc' := 10) 3 rfl rfl (by decide) (fun hc => ?_) (fun hc => ?_)
  · replace h := h.1 hc
    refine v_aload_n (pc' := 13) 6 0 rfl rfl rfl rfl ?_
    refine v_iload_n (pc' := 14) 7 1 rfl rfl rfl rfl ?_
    refine v_cV (Y2 := Y_X8_putBytes) (As := [.int p1]) (b := 0) (pc' := 17) (c1 := 0) (s1 := 0) 8 rfl rfl mf_X8_putBytes rfl rfl ml_X8_57 mi_X8_putBytes se_X8_putBytes (ci := 7) rfl ly_0 (lay_n ly_0 (by decide) hnx) rfl (Nat.le_of_ble_eq_true rfl) ⟨Nat.le_of_ble_eq_true rfl, Nat.le_of_ble_eq_true rfl⟩ rfl rfl (ok_X8_putBytes hnx p1 I L h) ?_ ?_
    · intro e9 u9 hx9
      exact hx9.elim
    intro v9 u9 hv9
    obtain ⟨I772, rfl, rfl, h⟩ := hv9
    refine ⟨fun _ => rfl, ?_⟩
    show V G Y_X8_feed 17 _ _ _ _ _ _ _
    refine v_aload_n (pc' := 18) 9 0 rfl rfl rfl rfl ?_
    refine v_iload_n (pc' := 19) 10 2 rfl rfl rfl rfl ?_
    refine v_cV (Y2 := Y_X8_putBytes) (As := [.int p2]) (b := 0) (pc' := 22) (c1 := 0) (s1 := 0) 11 rfl rfl mf_X8_putBytes rfl rfl ml_X8_57 mi_X8_putBytes se_X8_putBytes (ci := 7) rfl ly_0 (lay_n ly_0 (by decide) hnx) rfl (Nat.le_of_ble_eq_true rfl) ⟨Nat.le_of_ble_eq_true rfl, Nat.le_of_ble_eq_true rfl⟩ rfl rfl (ok_X8_putBytes hnx p2 I772 L h) ?_ ?_
    · intro e9 u9 hx9
      exact hx9.elim
    intro v9 u9 hv9
    obtain ⟨I773, rfl, rfl, h⟩ := hv9
    refine ⟨fun _ => rfl, ?_⟩
    show V G Y_X8_feed 22 _ _ _ _ _ _ _
    refine v_aload_n (pc' := 23) 12 0 rfl rfl rfl rfl ?_
    refine v_iload_n (pc' := 24) 13 3 rfl rfl rfl rfl ?_
    refine v_cV (Y2 := Y_X8_putBytes) (As := [.int p3]) (b := 0) (pc' := 27) (c1 := 0) (s1 := 0) 14 rfl rfl mf_X8_putBytes rfl rfl ml_X8_57 mi_X8_putBytes se_X8_putBytes (ci := 7) rfl ly_0 (lay_n ly_0 (by decide) hnx) rfl (Nat.le_of_ble_eq_true rfl) ⟨Nat.le_of_ble_eq_true rfl, Nat.le_of_ble_eq_true rfl⟩ rfl rfl (ok_X8_putBytes hnx p3 I773 L h) ?_ ?_
    · intro e9 u9 hx9
      exact hx9.elim
    intro v9 u9 hv9
    obtain ⟨I774, rfl, rfl, h⟩ := hv9
    refine ⟨fun _ => rfl, ?_⟩
    show V G Y_X8_feed 27 _ _ _ _ _ _ _
    refine v_aload_n (pc' := 28) 15 0 rfl rfl rfl rfl ?_
    refine v_iload (pc' := 30) 16 4 rfl rfl rfl ?_
    refine v_cV (Y2 := Y_X8_putBytes) (As := [.int p4]) (b := 0) (pc' := 33) (c1 := 0) (s1 := 0) 17 rfl rfl mf_X8_putBytes rfl rfl ml_X8_57 mi_X8_putBytes se_X8_putBytes (ci := 7) rfl ly_0 (lay_n ly_0 (by decide) hnx) rfl (Nat.le_of_ble_eq_true rfl) ⟨Nat.le_of_ble_eq_true rfl, Nat.le_of_ble_eq_true rfl⟩ rfl rfl (ok_X8_putBytes hnx p4 I774 L h) ?_ ?_
    · intro e9 u9 hx9
      exact hx9.elim
    intro v9 u9 hv9
    obtain ⟨I775, rfl, rfl, h⟩ := hv9
    refine ⟨fun _ => rfl, ?_⟩
    show V G Y_X8_feed 33 _ _ _ _ _ _ _
    refine v_aload_n (pc' := 34) 18 0 rfl rfl rfl rfl ?_
    refine v_iload (pc' := 36) 19 5 rfl rfl rfl ?_
    refine v_cV (Y2 := Y_X8_putBytes) (As := [.int p5]) (b := 0) (pc' := 39) (c1 := 0) (s1 := 0) 20 rfl rfl mf_X8_putBytes rfl rfl ml_X8_57 mi_X8_putBytes se_X8_putBytes (ci := 7) rfl ly_0 (lay_n ly_0 (by decide) hnx) rfl (Nat.le_of_ble_eq_true rfl) ⟨Nat.le_of_ble_eq_true rfl, Nat.le_of_ble_eq_true rfl⟩ rfl rfl (ok_X8_putBytes hnx p5 I775 L h) ?_ ?_
    · intro e9 u9 hx9
      exact hx9.elim
    intro v9 u9 hv9
    obtain ⟨I776, rfl, rfl, h⟩ := hv9
    refine ⟨fun _ => rfl, ?_⟩
    show V G Y_X8_feed 39 _ _ _ _ _ _ _
    refine v_aload_n (pc' := 40) 21 0 rfl rfl rfl rfl ?_
    refine v_getI (pc' := 43) 22 rfl rfl pf_X8_47 ly_0 (lay_n ly_0 (by decide) hnx) ?_
    exact v_iret 23 rfl rfl (by decide) (by decide) ⟨_, _, rfl, rfl, h⟩
  replace h := h.2 hc
  refine v_iconst (v := -1) (pc' := 11) 4 rfl rfl (by decide) ?_
  exact v_iret 5 rfl rfl (by decide) (by decide) ⟨_, _, rfl, rfl, h⟩
set_option maxHeartbeats 4000000 in
set_option maxRecDepth 100000 in
theorem ok_X8_load {G : GT} (p1 : Int32) (I : TI) (L : TL) (b : Nat) (d : Nat) (t : Nat) (hb : bnOK b) (hd : bnOK d) (ht : txOK t) {Q : Int32 → TI → TL → Nat → Nat → Nat → Prop} {QX : String → TI → TL → Nat → Nat → Nat → Prop} (h : W_X8_load p1 I L b d t Q QX) (hX : ∀ (e9 : String) (I9 : TI) (L9 : TL) (b9 : Nat) (d9 : Nat) (t9 : Nat), QX e9 I9 L9 b9 d9 t9 → False) : MW G Y_X8_load [.ref 0, .int p1] (I, L, RT b d t, 457) (fun v9 u9 => ∃ (r9 : Int32) (I9 : TI) (L9 : TL) (b9 : Nat) (d9 : Nat) (t9 : Nat), v9 = some (.int r9) ∧ u9 = (I9, L9, RT b9 d9 t9, 457) ∧ Q r9 I9 L9 b9 d9 t9) (fun _ _ => False) := by
  unfold W_X8_load at h
  refine MW.intro rfl (by decide) is_X8_load (Nat.le_of_ble_eq_true rfl) ?_
  show V G Y_X8_load 0 [(0, .ref 0), (1, .int p1)] [] (I, L, RT b d t, 457) 0 0 _ _
  refine v_iload_n (pc' := 1) 0 1 rfl rfl rfl rfl ?_
  refine v_if_lt (tgt := 12) (pc' := 4) 1 rfl rfl (by decide) (fun hc => ?_) (fun hc => ?_)
  · replace h := h.1 hc
    exact (hX _ _ _ _ _ _ h).elim
  replace h := h.2 hc
  refine v_iload_n (pc' := 5) 2 1 rfl rfl rfl rfl ?_
  refine v_aload_n (pc' := 6) 3 0 rfl rfl rfl rfl ?_
  refine v_getI (pc' := 9) 4 rfl rfl pf_X8_47 ly_0 (lay_lt ly_0 (by decide)) ?_
  refine v_icmp_le (tgt := 22) (pc' := 12) 5 rfl rfl (by decide) (fun hc => ?_) (fun hc => ?_)
  · replace h := h.1 hc
    refine v_aload_n (pc' := 23) 11 0 rfl rfl rfl rfl ?_
    refine v_getR (t := 344) (pc' := 26) 12 rfl rfl pf_X8_19 ly_0 (lay_lt ly_0 (by decide)) rt_0_1 ?_
    refine v_aload_n (pc' := 27) 13 0 rfl rfl rfl rfl ?_
    refine v_getR (t := 350) (pc' := 30) 14 rfl rfl pf_X8_30 ly_0 (lay_lt ly_0 (by decide)) rt_0_3 ?_
    refine v_iload_n (pc' := 31) 15 1 rfl rfl rfl rfl ?_
    refine v_cV (Y2 := Y_X7_begin) (As := [.ref 350, .int p1]) (b := 344) (pc' := 34) (c1 := 0) (s1 := 0) 16 rfl rfl mf_X7_begin rfl rfl ml_X8_68 mi_X7_begin se_X7_begin (ci := 6) rfl ly_344 (lay_lt ly_344 (by decide)) rfl (Nat.le_of_ble_eq_true rfl) ⟨Nat.le_of_ble_eq_true rfl, Nat.le_of_ble_eq_true rfl⟩ rfl rfl (ok_X7_begin p1 I L t ht h) ?_ ?_
    · intro e9 u9 hx9
      exact hx9.elim
    intro v9 u9 hv9
    obtain ⟨I789, t790, rfl, rfl, h⟩ := hv9
    refine ⟨fun q => absurd q (Nat.lt_irrefl _), ?_⟩
    obtain ⟨ht791, h⟩ := h
    show V G Y_X8_load 34 _ _ _ _ _ _ _
    refine v_aload_n (pc' := 35) 17 0 rfl rfl rfl rfl ?_
    refine v_getR (t := d) (pc' := 38) 18 rfl rfl pf_X8_44 ly_0 (lay_lt ly_0 (by decide)) rt_0_6 ?_
    refine v_cV (Y2 := Y_X0_clear) (As := []) (b := d) (pc' := 41) (c1 := 0) (s1 := 0) 19 rfl rfl mf_X0_clear rfl rfl ml_X8_72 mi_X0_clear se_X0_clear (ci := 0) rfl (bn0l hd) (lay_lt (bn0l hd) (by decide)) rfl (Nat.le_of_ble_eq_true rfl) ⟨Nat.le_of_ble_eq_true rfl, Nat.le_of_ble_eq_true rfl⟩ rfl rfl (ok_X0_clear d I789 L hd h) ?_ ?_
    · intro e9 u9 hx9
      exact hx9.elim
    intro v9 u9 hv9
    obtain ⟨I792, L793, rfl, rfl, h⟩ := hv9
    refine ⟨fun q => absurd q (Nat.lt_irrefl _), ?_⟩
    show V G Y_X8_load 41 _ _ _ _ _ _ _
    refine v_aload_n (pc' := 42) 20 0 rfl rfl rfl rfl ?_
    refine v_getR (t := 344) (pc' := 45) 21 rfl rfl pf_X8_19 ly_0 (lay_lt ly_0 (by decide)) rt_0_1 ?_
    refine v_aload_n (pc' := 46) 22 0 rfl rfl rfl rfl ?_
    refine v_getR (t := d) (pc' := 49) 23 rfl rfl pf_X8_44 ly_0 (lay_lt ly_0 (by decide)) rt_0_6 ?_
    refine v_cS (Y2 := Y_X1_read) (As := [.ref 344, .ref d]) (pc' := 52) (c1 := 0) (s1 := 0) 24 rfl rfl mf_X1_read rfl rfl ml_X8_75 ms_X1_read rfl (Nat.le_of_ble_eq_true rfl) ⟨Nat.le_of_ble_eq_true rfl, Nat.le_of_ble_eq_true rfl⟩ rfl rfl (ok_X1_read d I792 L793 t790 hd ht791 h) ?_ ?_
    · intro e9 u9 hx9
      exact hx9.elim
    intro v9 u9 hv9
    obtain ⟨I794, L795, rfl, rfl, h⟩ := hv9
    refine ⟨fun q => absurd q (Nat.lt_irrefl _), ?_⟩
    show V G Y_X8_load 52 _ _ _ _ _ _ _
    refine v_aload_n (pc' := 53) 25 0 rfl rfl rfl rfl ?_
    refine v_iconst (v := 0) (pc' := 54) 26 rfl rfl (by decide) ?_
    refine v_putI (pc' := 57) 27 rfl rfl pf_X8_47 (fun q => absurd q (by decide)) ly_0 (lay_lt ly_0 (by decide)) ?_
    refine v_aload_n (pc' := 58) 28 0 rfl rfl rfl rfl ?_
    refine v_aload_n (pc' := 59) 29 0 rfl rfl rfl rfl ?_
    refine v_getR (t := 344) (pc' := 62) 30 rfl rfl pf_X8_19 ly_0 (lay_lt ly_0 (by decide)) rt_0_1 ?_
    refine v_getI (pc' := 65) 31 rfl rfl pf_X8_81 ly_344 (lay_lt ly_344 (by decide)) ?_
    refine v_putI (pc' := 68) 32 rfl rfl pf_X8_54 (fun q => absurd q (by decide)) ly_0 (lay_lt ly_0 (by decide)) ?_
    refine v_aload_n (pc' := 69) 33 0 rfl rfl rfl rfl ?_
    refine v_getR (t := 344) (pc' := 72) 34 rfl rfl pf_X8_19 ly_0 (lay_lt ly_0 (by decide)) rt_0_1 ?_
    refine v_cV (Y2 := Y_X7_failed) (As := []) (b := 344) (pc' := 75) (c1 := 0) (s1 := 0) 35 rfl rfl mf_X7_failed rfl rfl ml_X8_82 mi_X7_failed se_X7_failed (ci := 6) rfl ly_344 (lay_lt ly_344 (by decide)) rfl (Nat.le_of_ble_eq_true rfl) ⟨Nat.le_of_ble_eq_true rfl, Nat.le_of_ble_eq_true rfl⟩ rfl rfl (ok_X7_failed (up2 (up2 I794 0 7 0) 0 9 ((up2 I794 0 7 0) 344 7)) L795 h) ?_ ?_
    · intro e9 u9 hx9
      exact hx9.elim
    intro v9 u9 hv9
    obtain ⟨r796, rfl, rfl, h⟩ := hv9
    refine ⟨fun q => absurd q (Nat.lt_irrefl _), ?_⟩
    show V G Y_X8_load 75 _ (.int r796 :: _) _ _ _ _ _
    refine v_if_eq (tgt := 89) (pc' := 78) 36 rfl rfl (by decide) (fun hc => ?_) (fun hc => ?_)
    · replace h := h.1 hc
      refine v_aload_n (pc' := 90) 43 0 rfl rfl rfl rfl ?_
      refine v_getR (t := b) (pc' := 93) 44 rfl rfl pf_X8_40 ly_0 (lay_lt ly_0 (by decide)) rt_0_5 ?_
      refine v_astore_n (ls' := [(2, .ref b), (0, .ref 0), (1, .int p1)]) (pc' := 94) 45 rfl rfl rfl (by decide) rfl ?_
      refine v_aload_n (pc' := 95) 46 1 rfl rfl rfl rfl ?_
      refine v_aload_n (pc' := 96) 47 1 rfl rfl rfl rfl ?_
      refine v_getR (t := d) (pc' := 99) 48 rfl rfl pf_X8_44 ly_0 (lay_lt ly_0 (by decide)) rt_0_6 ?_
      refine v_putR (pc' := 102) 49 rfl rfl pf_X8_40 (fun q => absurd q (by decide)) ly_0 (lay_lt ly_0 (by decide)) ?_
      rw [rt_ubench]
      refine v_aload_n (pc' := 103) 50 1 rfl rfl rfl rfl ?_
      refine v_aload_n (pc' := 104) 51 0 rfl rfl rfl rfl ?_
      refine v_putR (pc' := 107) 52 rfl rfl pf_X8_44 (fun q => absurd q (by decide)) ly_0 (lay_lt ly_0 (by decide)) ?_
      rw [rt_udraft]
      refine v_aload_n (pc' := 108) 53 1 rfl rfl rfl rfl ?_
      refine v_getR (t := d) (pc' := 111) 54 rfl rfl pf_X8_40 ly_0 (lay_lt ly_0 (by decide)) rt_0_5 ?_
      refine v_cV (Y2 := Y_X0_refresh) (As := []) (b := d) (pc' := 114) (c1 := 0) (s1 := 0) 55 rfl rfl mf_X0_refresh rfl rfl ml_X8_89 mi_X0_refresh se_X0_refresh (ci := 0) rfl (bn0l hd) (lay_lt (bn0l hd) (by decide)) rfl (Nat.le_of_ble_eq_true rfl) ⟨Nat.le_of_ble_eq_true rfl, Nat.le_of_ble_eq_true rfl⟩ rfl rfl (ok_X0_refresh d (up2 (up2 I794 0 7 0) 0 9 ((up2 I794 0 7 0) 344 7)) L795 hd h) ?_ ?_
      · intro e9 u9 hx9
        exact hx9.elim
      intro v9 u9 hv9
      obtain ⟨I797, L798, rfl, rfl, h⟩ := hv9
      refine ⟨fun q => absurd q (Nat.lt_irrefl _), ?_⟩
      show V G Y_X8_load 114 _ _ _ _ _ _ _
      refine v_aload_n (pc' := 115) 56 1 rfl rfl rfl rfl ?_
      refine v_getR (t := 1) (pc' := 118) 57 rfl rfl pf_X8_10 ly_0 (lay_lt ly_0 (by decide)) rt_0_0 ?_
      refine v_cV (Y2 := Y_X4_discardAll) (As := []) (b := 1) (pc' := 121) (c1 := 0) (s1 := 0) 58 rfl rfl mf_X4_discardAll rfl rfl ml_X8_92 mi_X4_discardAll se_X4_discardAll (ci := 3) rfl ly_1 (lay_lt ly_1 (by decide)) rfl (Nat.le_of_ble_eq_true rfl) ⟨Nat.le_of_ble_eq_true rfl, Nat.le_of_ble_eq_true rfl⟩ rfl rfl (ok_X4_discardAll I797 L798 h) ?_ ?_
      · intro e9 u9 hx9
        exact hx9.elim
      intro v9 u9 hv9
      obtain ⟨I799, rfl, rfl, h⟩ := hv9
      refine ⟨fun q => absurd q (Nat.lt_irrefl _), ?_⟩
      show V G Y_X8_load 121 _ _ _ _ _ _ _
      refine v_aload_n (pc' := 122) 59 1 rfl rfl rfl rfl ?_
      refine v_getR (t := d) (pc' := 125) 60 rfl rfl pf_X8_40 ly_0 (lay_lt ly_0 (by decide)) rt_0_5 ?_
      refine v_getR (t := (d + 1)) (pc' := 128) 61 rfl rfl pf_X8_95 (bn0l hd) (lay_lt (bn0l hd) (by decide)) (rt_bn_0 hd) ?_
      refine v_cV (Y2 := Y_X2_nets) (As := []) (b := (d + 1)) (pc' := 131) (c1 := 0) (s1 := 0) 62 rfl rfl mf_X2_nets rfl rfl ml_X8_99 mi_X2_nets se_X2_nets (ci := 1) rfl (bn1l hd) (lay_lt (bn1l hd) (by decide)) rfl (Nat.le_of_ble_eq_true rfl) ⟨Nat.le_of_ble_eq_true rfl, Nat.le_of_ble_eq_true rfl⟩ rfl rfl (ok_X2_nets (d + 1) I799 L798 (bn_ck hd) h) ?_ ?_
      · intro e9 u9 hx9
        exact hx9.elim
      intro v9 u9 hv9
      obtain ⟨r800, rfl, rfl, h⟩ := hv9
      refine ⟨fun q => absurd q (Nat.lt_irrefl _), ?_⟩
      show V G Y_X8_load 131 _ (.int r800 :: _) _ _ _ _ _
      exact v_iret 63 rfl rfl (by decide) (by decide) ⟨_, _, _, _, _, _, rfl, rfl, h⟩
    replace h := h.2 hc
    refine v_bipush (v := -10) (pc' := 80) 37 rfl rfl (by decide) ?_
    refine v_aload_n (pc' := 81) 38 0 rfl rfl rfl rfl ?_
    refine v_getR (t := 344) (pc' := 84) 39 rfl rfl pf_X8_19 ly_0 (lay_lt ly_0 (by decide)) rt_0_1 ?_
    refine v_getI (pc' := 87) 40 rfl rfl pf_X8_86 ly_344 (lay_lt ly_344 (by decide)) ?_
    refine v_isub (pc' := 88) 41 rfl rfl ?_
    exact v_iret 42 rfl rfl (by decide) (by decide) ⟨_, _, _, _, _, _, rfl, rfl, h⟩
  replace h := h.2 hc
  exact (hX _ _ _ _ _ _ h).elim
set_option maxHeartbeats 4000000 in
set_option maxRecDepth 100000 in
theorem ok_X8_errorPosition {G : GT} {b d t : Nat} (I : TI) (L : TL)  {Q : Int32 → Prop} (h : W_X8_errorPosition I L Q) : MW G Y_X8_errorPosition [.ref 0] (I, L, RT b d t, 457) (fun v9 u9 => ∃ (r9 : Int32), v9 = some (.int r9) ∧ u9 = (I, L, RT b d t, 457) ∧ Q r9) (fun _ _ => False) := by
  unfold W_X8_errorPosition at h
  refine MW.intro rfl (by decide) is_X8_errorPosition (Nat.le_of_ble_eq_true rfl) ?_
  show V G Y_X8_errorPosition 0 [(0, .ref 0)] [] (I, L, RT b d t, 457) 0 0 _ _
  refine v_aload_n (pc' := 1) 0 0 rfl rfl rfl rfl ?_
  refine v_getI (pc' := 4) 1 rfl rfl pf_X8_54 ly_0 (lay_lt ly_0 (by decide)) ?_
  exact v_iret 2 rfl rfl (by decide) (by decide) ⟨_, rfl, rfl, h⟩
set_option maxHeartbeats 4000000 in
set_option maxRecDepth 100000 in
theorem ok_X8_size {G : GT} {t : Nat} (p1 : Int32) (I : TI) (L : TL) (b : Nat) (d : Nat) (hb : bnOK b) (hd : bnOK d) {Q : Int32 → Prop} {QX : String → Prop} (h : W_X8_size p1 I L b d Q QX) (hX : ∀ (e9 : String), QX e9 → False) : MW G Y_X8_size [.ref 0, .int p1] (I, L, RT b d t, 457) (fun v9 u9 => ∃ (r9 : Int32), v9 = some (.int r9) ∧ u9 = (I, L, RT b d t, 457) ∧ Q r9) (fun _ _ => False) := by
  unfold W_X8_size at h
  refine MW.intro rfl (by decide) is_X8_size (Nat.le_of_ble_eq_true rfl) ?_
  show V G Y_X8_size 0 [(0, .ref 0), (1, .int p1)] [] (I, L, RT b d t, 457) 0 0 _ _
  refine v_iload_n (pc' := 1) 0 1 rfl rfl rfl rfl ?_
  refine v_ts (clo := 0) (chi := 9) (dt := 172) 1 10 [56, 67, 78, 89, 100, 111, 122, 133, 146, 159] rfl (by decide) (by decide) (by decide) (by decide) (by decide) ?_ (fun hc => ?_)
  · intro j9 t9 ht9 hj9 hx9
    match j9, ht9, hj9, hx9 with
    | 0, ht9, hj9, hx9 =>
      cases ht9
      replace hx9 := hx9.trans (show Int32.ofInt _ = (0 : Int32) by decide)
      replace h := h.1 hx9
      refine v_aload_n (pc' := 57) 2 0 rfl rfl rfl rfl ?_
      refine v_getR (t := b) (pc' := 60) 3 rfl rfl pf_X8_40 ly_0 (lay_lt ly_0 (by decide)) rt_0_5 ?_
      refine v_getR (t := (b + 1)) (pc' := 63) 4 rfl rfl pf_X8_95 (bn0l hb) (lay_lt (bn0l hb) (by decide)) (rt_bn_0 hb) ?_
      refine v_getI (pc' := 66) 5 rfl rfl pf_X8_105 (bn1l hb) (lay_lt (bn1l hb) (by decide)) ?_
      exact v_iret 6 rfl rfl (by decide) (by decide) ⟨_, rfl, rfl, h⟩
    | 1, ht9, hj9, hx9 =>
      cases ht9
      replace hx9 := hx9.trans (show Int32.ofInt _ = (1 : Int32) by decide)
      replace h := h.2.1 hx9
      refine v_aload_n (pc' := 68) 7 0 rfl rfl rfl rfl ?_
      refine v_getR (t := b) (pc' := 71) 8 rfl rfl pf_X8_40 ly_0 (lay_lt ly_0 (by decide)) rt_0_5 ?_
      refine v_getR (t := (b + 1)) (pc' := 74) 9 rfl rfl pf_X8_95 (bn0l hb) (lay_lt (bn0l hb) (by decide)) (rt_bn_0 hb) ?_
      refine v_getI (pc' := 77) 10 rfl rfl pf_X8_108 (bn1l hb) (lay_lt (bn1l hb) (by decide)) ?_
      exact v_iret 11 rfl rfl (by decide) (by decide) ⟨_, rfl, rfl, h⟩
    | 2, ht9, hj9, hx9 =>
      cases ht9
      replace hx9 := hx9.trans (show Int32.ofInt _ = (2 : Int32) by decide)
      replace h := h.2.2.1 hx9
      refine v_aload_n (pc' := 79) 12 0 rfl rfl rfl rfl ?_
      refine v_getR (t := b) (pc' := 82) 13 rfl rfl pf_X8_40 ly_0 (lay_lt ly_0 (by decide)) rt_0_5 ?_
      refine v_getR (t := (b + 1)) (pc' := 85) 14 rfl rfl pf_X8_95 (bn0l hb) (lay_lt (bn0l hb) (by decide)) (rt_bn_0 hb) ?_
      refine v_getI (pc' := 88) 15 rfl rfl pf_X8_111 (bn1l hb) (lay_lt (bn1l hb) (by decide)) ?_
      exact v_iret 16 rfl rfl (by decide) (by decide) ⟨_, rfl, rfl, h⟩
    | 3, ht9, hj9, hx9 =>
      cases ht9
      replace hx9 := hx9.trans (show Int32.ofInt _ = (3 : Int32) by decide)
      replace h := h.2.2.2.1 hx9
      refine v_aload_n (pc' := 90) 17 0 rfl rfl rfl rfl ?_
      refine v_getR (t := b) (pc' := 93) 18 rfl rfl pf_X8_40 ly_0 (lay_lt ly_0 (by decide)) rt_0_5 ?_
      refine v_getR (t := (b + 6)) (pc' := 96) 19 rfl rfl pf_X8_114 (bn0l hb) (lay_lt (bn0l hb) (by decide)) (rt_bn_1 hb) ?_
      refine v_getI (pc' := 99) 20 rfl rfl pf_X8_118 (bn6l hb) (lay_lt (bn6l hb) (by decide)) ?_
      exact v_iret 21 rfl rfl (by decide) (by decide) ⟨_, rfl, rfl, h⟩
    | 4, ht9, hj9, hx9 =>
      cases ht9
      replace hx9 := hx9.trans (show Int32.ofInt _ = (4 : Int32) by decide)
      replace h := h.2.2.2.2.1 hx9
      refine v_aload_n (pc' := 101) 22 0 rfl rfl rfl rfl ?_
      refine v_getR (t := b) (pc' := 104) 23 rfl rfl pf_X8_40 ly_0 (lay_lt ly_0 (by decide)) rt_0_5 ?_
      refine v_getR (t := (b + 1)) (pc' := 107) 24 rfl rfl pf_X8_95 (bn0l hb) (lay_lt (bn0l hb) (by decide)) (rt_bn_0 hb) ?_
      refine v_getI (pc' := 110) 25 rfl rfl pf_X8_123 (bn1l hb) (lay_lt (bn1l hb) (by decide)) ?_
      exact v_iret 26 rfl rfl (by decide) (by decide) ⟨_, rfl, rfl, h⟩
    | 5, ht9, hj9, hx9 =>
      cases ht9
      replace hx9 := hx9.trans (show Int32.ofInt _ = (5 : Int32) by decide)
      replace h := h.2.2.2.2.2.1 hx9
      refine v_aload_n (pc' := 112) 27 0 rfl rfl rfl rfl ?_
      refine v_getR (t := b) (pc' := 115) 28 rfl rfl pf_X8_40 ly_0 (lay_lt ly_0 (by decide)) rt_0_5 ?_
      refine v_getR (t := (b + 1)) (pc' := 118) 29 rfl rfl pf_X8_95 (bn0l hb) (lay_lt (bn0l hb) (by decide)) (rt_bn_0 hb) ?_
      refine v_getI (pc' := 121) 30 rfl rfl pf_X8_126 (bn1l hb) (lay_lt (bn1l hb) (by decide)) ?_
      exact v_iret 31 rfl rfl (by decide) (by decide) ⟨_, rfl, rfl, h⟩
    | 6, ht9, hj9, hx9 =>
      cases ht9
      replace hx9 := hx9.trans (show Int32.ofInt _ = (6 : Int32) by decide)
      replace h := h.2.2.2.2.2.2.1 hx9
      refine v_aload_n (pc' := 123) 32 0 rfl rfl rfl rfl ?_
      refine v_getR (t := b) (pc' := 126) 33 rfl rfl pf_X8_40 ly_0 (lay_lt ly_0 (by decide)) rt_0_5 ?_
      refine v_getR (t := (b + 6)) (pc' := 129) 34 rfl rfl pf_X8_114 (bn0l hb) (lay_lt (bn0l hb) (by decide)) (rt_bn_1 hb) ?_
      refine v_getI (pc' := 132) 35 rfl rfl pf_X8_129 (bn6l hb) (lay_lt (bn6l hb) (by decide)) ?_
      exact v_iret 36 rfl rfl (by decide) (by decide) ⟨_, rfl, rfl, h⟩
    | 7, ht9, hj9, hx9 =>
      cases ht9
      replace hx9 := hx9.trans (show Int32.ofInt _ = (7 : Int32) by decide)
      replace h := h.2.2.2.2.2.2.2.1 hx9
      refine v_aload_n (pc' := 134) 37 0 rfl rfl rfl rfl ?_
      refine v_getR (t := b) (pc' := 137) 38 rfl rfl pf_X8_40 ly_0 (lay_lt ly_0 (by decide)) rt_0_5 ?_
      refine v_getR (t := (b + 6)) (pc' := 140) 39 rfl rfl pf_X8_114 (bn0l hb) (lay_lt (bn0l hb) (by decide)) (rt_bn_1 hb) ?_
      refine v_getR (t := (b + 15)) (pc' := 143) 40 rfl rfl pf_X8_132 (bn6l hb) (lay_lt (bn6l hb) (by decide)) (rt_st_5 (bn_st hb)) ?_
      refine v_iconst (v := 0) (pc' := 144) 41 rfl rfl (by decide) ?_
      refine v_iald (i := 0) (j := 0) (pc' := 145) 42 rfl rfl (bn15l hb) (bn15n hb) (lay_lt (bn15l hb) (by decide)) (vp_lit (by decide)) (by decide) ?_
      exact v_iret 43 rfl rfl (by decide) (by decide) ⟨_, rfl, rfl, h⟩
    | 8, ht9, hj9, hx9 =>
      cases ht9
      replace hx9 := hx9.trans (show Int32.ofInt _ = (8 : Int32) by decide)
      replace h := h.2.2.2.2.2.2.2.2.1 hx9
      refine v_aload_n (pc' := 147) 44 0 rfl rfl rfl rfl ?_
      refine v_getR (t := b) (pc' := 150) 45 rfl rfl pf_X8_40 ly_0 (lay_lt ly_0 (by decide)) rt_0_5 ?_
      refine v_getR (t := (b + 6)) (pc' := 153) 46 rfl rfl pf_X8_114 (bn0l hb) (lay_lt (bn0l hb) (by decide)) (rt_bn_1 hb) ?_
      refine v_getR (t := (b + 15)) (pc' := 156) 47 rfl rfl pf_X8_132 (bn6l hb) (lay_lt (bn6l hb) (by decide)) (rt_st_5 (bn_st hb)) ?_
      refine v_iconst (v := 1) (pc' := 157) 48 rfl rfl (by decide) ?_
      refine v_iald (i := 1) (j := 1) (pc' := 158) 49 rfl rfl (bn15l hb) (bn15n hb) (lay_lt (bn15l hb) (by decide)) (vp_lit (by decide)) (by decide) ?_
      exact v_iret 50 rfl rfl (by decide) (by decide) ⟨_, rfl, rfl, h⟩
    | 9, ht9, hj9, hx9 =>
      cases ht9
      replace hx9 := hx9.trans (show Int32.ofInt _ = (9 : Int32) by decide)
      replace h := h.2.2.2.2.2.2.2.2.2.1 hx9
      refine v_aload_n (pc' := 160) 51 0 rfl rfl rfl rfl ?_
      refine v_getR (t := b) (pc' := 163) 52 rfl rfl pf_X8_40 ly_0 (lay_lt ly_0 (by decide)) rt_0_5 ?_
      refine v_getR (t := (b + 6)) (pc' := 166) 53 rfl rfl pf_X8_114 (bn0l hb) (lay_lt (bn0l hb) (by decide)) (rt_bn_1 hb) ?_
      refine v_getR (t := (b + 15)) (pc' := 169) 54 rfl rfl pf_X8_132 (bn6l hb) (lay_lt (bn6l hb) (by decide)) (rt_st_5 (bn_st hb)) ?_
      refine v_iconst (v := 2) (pc' := 170) 55 rfl rfl (by decide) ?_
      refine v_iald (i := 2) (j := 2) (pc' := 171) 56 rfl rfl (bn15l hb) (bn15n hb) (lay_lt (bn15l hb) (by decide)) (vp_lit (by decide)) (by decide) ?_
      exact v_iret 57 rfl rfl (by decide) (by decide) ⟨_, rfl, rfl, h⟩
    | q9 + 10, ht9, hj9, hx9 => exact absurd hj9 (by omega)
  replace h := h.2.2.2.2.2.2.2.2.2.2 hc
  exact (hX _ h).elim
set_option maxHeartbeats 4000000 in
set_option maxRecDepth 100000 in
theorem ok_X8_requireGate {G : GT} {t : Nat} (p1 : Int32) (I : TI) (L : TL) (b : Nat) (d : Nat) (hb : bnOK b) (hd : bnOK d) {Q : Prop} {QX : String → Prop} (h : W_X8_requireGate p1 I L b d Q QX) (hX : ∀ (e9 : String), QX e9 → False) : MW G Y_X8_requireGate [.ref 0, .int p1] (I, L, RT b d t, 457) (fun v9 u9 => v9 = none ∧ u9 = (I, L, RT b d t, 457) ∧ Q) (fun _ _ => False) := by
  unfold W_X8_requireGate at h
  refine MW.intro rfl (by decide) is_X8_requireGate (Nat.le_of_ble_eq_true rfl) ?_
  show V G Y_X8_requireGate 0 [(0, .ref 0), (1, .int p1)] [] (I, L, RT b d t, 457) 0 0 _ _
  refine v_aload_n (pc' := 1) 0 0 rfl rfl rfl rfl ?_
  refine v_getR (t := b) (pc' := 4) 1 rfl rfl pf_X8_40 ly_0 (lay_lt ly_0 (by decide)) rt_0_5 ?_
  refine v_getR (t := (b + 1)) (pc' := 7) 2 rfl rfl pf_X8_95 (bn0l hb) (lay_lt (bn0l hb) (by decide)) (rt_bn_0 hb) ?_
  refine v_iload_n (pc' := 8) 3 1 rfl rfl rfl rfl ?_
  refine v_cV (Y2 := Y_X2_hasGate) (As := [.int p1]) (b := (b + 1)) (pc' := 11) (c1 := 0) (s1 := 0) 4 rfl rfl mf_X2_hasGate rfl rfl ml_X8_170 mi_X2_hasGate se_X2_hasGate (ci := 1) rfl (bn1l hb) (lay_lt (bn1l hb) (by decide)) rfl (Nat.le_of_ble_eq_true rfl) ⟨Nat.le_of_ble_eq_true rfl, Nat.le_of_ble_eq_true rfl⟩ rfl rfl (ok_X2_hasGate (b + 1) p1 I L (bn_ck hb) h) ?_ ?_
  · intro e9 u9 hx9
    exact hx9.elim
  intro v9 u9 hv9
  obtain ⟨r802, rfl, rfl, h⟩ := hv9
  refine ⟨fun q => absurd q (Nat.lt_irrefl _), ?_⟩
  show V G Y_X8_requireGate 11 _ (.int r802 :: _) _ _ _ _ _
  refine v_if_ne (tgt := 24) (pc' := 14) 5 rfl rfl (by decide) (fun hc => ?_) (fun hc => ?_)
  · replace h := h.1 hc
    exact v_vret 11 rfl rfl (by decide) (by decide) ⟨rfl, rfl, h⟩
  replace h := h.2 hc
  exact (hX _ h).elim
set_option maxHeartbeats 4000000 in
set_option maxRecDepth 100000 in
theorem ok_X8_gate {G : GT} {t : Nat} (p1 : Int32) (p2 : Int32) (I : TI) (L : TL) (b : Nat) (d : Nat) (hb : bnOK b) (hd : bnOK d) {Q : Int32 → Prop} {QX : String → Prop} (h : W_X8_gate p1 p2 I L b d Q QX) (hX : ∀ (e9 : String), QX e9 → False) : MW G Y_X8_gate [.ref 0, .int p1, .int p2] (I, L, RT b d t, 457) (fun v9 u9 => ∃ (r9 : Int32), v9 = some (.int r9) ∧ u9 = (I, L, RT b d t, 457) ∧ Q r9) (fun _ _ => False) := by
  unfold W_X8_gate at h
  refine MW.intro rfl (by decide) is_X8_gate (Nat.le_of_ble_eq_true rfl) ?_
  show V G Y_X8_gate 0 [(0, .ref 0), (1, .int p1), (2, .int p2)] [] (I, L, RT b d t, 457) 0 0 _ _
  refine v_aload_n (pc' := 1) 0 0 rfl rfl rfl rfl ?_
  refine v_iload_n (pc' := 2) 1 1 rfl rfl rfl rfl ?_
  refine v_cV (Y2 := Y_X8_requireGate) (As := [.int p1]) (b := 0) (pc' := 5) (c1 := 0) (s1 := 0) 2 rfl rfl mf_X8_requireGate rfl rfl ml_X8_141 mi_X8_requireGate se_X8_requireGate (ci := 7) rfl ly_0 (lay_lt ly_0 (by decide)) rfl (Nat.le_of_ble_eq_true rfl) ⟨Nat.le_of_ble_eq_true rfl, Nat.le_of_ble_eq_true rfl⟩ rfl rfl (ok_X8_requireGate p1 I L b d hb hd h (fun _ q9 => hX _ q9)) ?_ ?_
  · intro e9 u9 hx9
    exact hx9.elim
  intro v9 u9 hv9
  obtain ⟨rfl, rfl, h⟩ := hv9
  refine ⟨fun q => absurd q (Nat.lt_irrefl _), ?_⟩
  show V G Y_X8_gate 5 _ _ _ _ _ _ _
  refine v_iload_n (pc' := 6) 3 2 rfl rfl rfl rfl ?_
  refine v_ts (clo := 0) (chi := 9) (dt := 189) 4 10 [60, 73, 86, 99, 114, 129, 144, 156, 168, 180] rfl (by decide) (by decide) (by decide) (by decide) (by decide) ?_ (fun hc => ?_)
  · intro j9 t9 ht9 hj9 hx9
    match j9, ht9, hj9, hx9 with
    | 0, ht9, hj9, hx9 =>
      cases ht9
      replace hx9 := hx9.trans (show Int32.ofInt _ = (0 : Int32) by decide)
      replace h := h.1 hx9
      refine v_aload_n (pc' := 61) 5 0 rfl rfl rfl rfl ?_
      refine v_getR (t := b) (pc' := 64) 6 rfl rfl pf_X8_40 ly_0 (lay_lt ly_0 (by decide)) rt_0_5 ?_
      refine v_getR (t := (b + 1)) (pc' := 67) 7 rfl rfl pf_X8_95 (bn0l hb) (lay_lt (bn0l hb) (by decide)) (rt_bn_0 hb) ?_
      refine v_getR (t := (b + 2)) (pc' := 70) 8 rfl rfl pf_X8_144 (bn1l hb) (lay_lt (bn1l hb) (by decide)) (rt_ck_0 (bn_ck hb)) ?_
      refine v_iload_n (pc' := 71) 9 1 rfl rfl rfl rfl ?_
      obtain ⟨hi813, h⟩ := h
      refine v_iald (i := p1) (j := p1.toNatClampNeg) (pc' := 72) 10 rfl rfl (bn2l hb) (bn2n hb) (lay_lt (bn2l hb) (by decide)) hi813 rfl ?_
      exact v_iret 11 rfl rfl (by decide) (by decide) ⟨_, rfl, rfl, h⟩
    | 1, ht9, hj9, hx9 =>
      cases ht9
      replace hx9 := hx9.trans (show Int32.ofInt _ = (1 : Int32) by decide)
      replace h := h.2.1 hx9
      refine v_aload_n (pc' := 74) 12 0 rfl rfl rfl rfl ?_
      refine v_getR (t := b) (pc' := 77) 13 rfl rfl pf_X8_40 ly_0 (lay_lt ly_0 (by decide)) rt_0_5 ?_
      refine v_getR (t := (b + 1)) (pc' := 80) 14 rfl rfl pf_X8_95 (bn0l hb) (lay_lt (bn0l hb) (by decide)) (rt_bn_0 hb) ?_
      refine v_getR (t := (b + 3)) (pc' := 83) 15 rfl rfl pf_X8_147 (bn1l hb) (lay_lt (bn1l hb) (by decide)) (rt_ck_1 (bn_ck hb)) ?_
      refine v_iload_n (pc' := 84) 16 1 rfl rfl rfl rfl ?_
      obtain ⟨hi814, h⟩ := h
      refine v_iald (i := p1) (j := p1.toNatClampNeg) (pc' := 85) 17 rfl rfl (bn3l hb) (bn3n hb) (lay_lt (bn3l hb) (by decide)) hi814 rfl ?_
      exact v_iret 18 rfl rfl (by decide) (by decide) ⟨_, rfl, rfl, h⟩
    | 2, ht9, hj9, hx9 =>
      cases ht9
      replace hx9 := hx9.trans (show Int32.ofInt _ = (2 : Int32) by decide)
      replace h := h.2.2.1 hx9
      refine v_aload_n (pc' := 87) 19 0 rfl rfl rfl rfl ?_
      refine v_getR (t := b) (pc' := 90) 20 rfl rfl pf_X8_40 ly_0 (lay_lt ly_0 (by decide)) rt_0_5 ?_
      refine v_getR (t := (b + 1)) (pc' := 93) 21 rfl rfl pf_X8_95 (bn0l hb) (lay_lt (bn0l hb) (by decide)) (rt_bn_0 hb) ?_
      refine v_getR (t := (b + 4)) (pc' := 96) 22 rfl rfl pf_X8_150 (bn1l hb) (lay_lt (bn1l hb) (by decide)) (rt_ck_2 (bn_ck hb)) ?_
      refine v_iload_n (pc' := 97) 23 1 rfl rfl rfl rfl ?_
      obtain ⟨hi815, h⟩ := h
      refine v_iald (i := p1) (j := p1.toNatClampNeg) (pc' := 98) 24 rfl rfl (bn4l hb) (bn4n hb) (lay_lt (bn4l hb) (by decide)) hi815 rfl ?_
      exact v_iret 25 rfl rfl (by decide) (by decide) ⟨_, rfl, rfl, h⟩
    | 3, ht9, hj9, hx9 =>
      cases ht9
      replace hx9 := hx9.trans (show Int32.ofInt _ = (3 : Int32) by decide)
      replace h := h.2.2.2.1 hx9
      refine v_aload_n (pc' := 100) 26 0 rfl rfl rfl rfl ?_
      refine v_getR (t := b) (pc' := 103) 27 rfl rfl pf_X8_40 ly_0 (lay_lt ly_0 (by decide)) rt_0_5 ?_
      refine v_getR (t := (b + 6)) (pc' := 106) 28 rfl rfl pf_X8_114 (bn0l hb) (lay_lt (bn0l hb) (by decide)) (rt_bn_1 hb) ?_
      refine v_getR (t := (b + 7)) (pc' := 109) 29 rfl rfl pf_X8_153 (bn6l hb) (lay_lt (bn6l hb) (by decide)) (rt_st_0 (bn_st hb)) ?_
      refine v_iconst (v := 0) (pc' := 110) 30 rfl rfl (by decide) ?_
      refine v_aald6 (i := 0) (r := (b + 8)) (j := 0) (pc' := 111) 31 rfl rfl (bn7l hb) (bn7n hb) (lay_lt (bn7l hb) (by decide)) (vp_lit (by decide)) (by decide) (rt_row (bn_st hb) (i := 0) (by decide)) ?_
      refine v_iload_n (pc' := 112) 32 1 rfl rfl rfl rfl ?_
      obtain ⟨hi816, h⟩ := h
      refine v_iald (i := p1) (j := p1.toNatClampNeg) (pc' := 113) 33 rfl rfl (st_rowl (bn_st hb) (i := 0) (by decide)) (st_rown (bn_st hb) (i := 0) (by decide)) (lay_lt (st_rowl (bn_st hb) (i := 0) (by decide)) (by decide)) hi816 rfl ?_
      exact v_iret 34 rfl rfl (by decide) (by decide) ⟨_, rfl, rfl, h⟩
    | 4, ht9, hj9, hx9 =>
      cases ht9
      replace hx9 := hx9.trans (show Int32.ofInt _ = (4 : Int32) by decide)
      replace h := h.2.2.2.2.1 hx9
      refine v_aload_n (pc' := 115) 35 0 rfl rfl rfl rfl ?_
      refine v_getR (t := b) (pc' := 118) 36 rfl rfl pf_X8_40 ly_0 (lay_lt ly_0 (by decide)) rt_0_5 ?_
      refine v_getR (t := (b + 6)) (pc' := 121) 37 rfl rfl pf_X8_114 (bn0l hb) (lay_lt (bn0l hb) (by decide)) (rt_bn_1 hb) ?_
      refine v_getR (t := (b + 7)) (pc' := 124) 38 rfl rfl pf_X8_153 (bn6l hb) (lay_lt (bn6l hb) (by decide)) (rt_st_0 (bn_st hb)) ?_
      refine v_iconst (v := 1) (pc' := 125) 39 rfl rfl (by decide) ?_
      refine v_aald6 (i := 1) (r := (b + 9)) (j := 1) (pc' := 126) 40 rfl rfl (bn7l hb) (bn7n hb) (lay_lt (bn7l hb) (by decide)) (vp_lit (by decide)) (by decide) (rt_row (bn_st hb) (i := 1) (by decide)) ?_
      refine v_iload_n (pc' := 127) 41 1 rfl rfl rfl rfl ?_
      obtain ⟨hi817, h⟩ := h
      refine v_iald (i := p1) (j := p1.toNatClampNeg) (pc' := 128) 42 rfl rfl (st_rowl (bn_st hb) (i := 1) (by decide)) (st_rown (bn_st hb) (i := 1) (by decide)) (lay_lt (st_rowl (bn_st hb) (i := 1) (by decide)) (by decide)) hi817 rfl ?_
      exact v_iret 43 rfl rfl (by decide) (by decide) ⟨_, rfl, rfl, h⟩
    | 5, ht9, hj9, hx9 =>
      cases ht9
      replace hx9 := hx9.trans (show Int32.ofInt _ = (5 : Int32) by decide)
      replace h := h.2.2.2.2.2.1 hx9
      refine v_aload_n (pc' := 130) 44 0 rfl rfl rfl rfl ?_
      refine v_getR (t := b) (pc' := 133) 45 rfl rfl pf_X8_40 ly_0 (lay_lt ly_0 (by decide)) rt_0_5 ?_
      refine v_getR (t := (b + 6)) (pc' := 136) 46 rfl rfl pf_X8_114 (bn0l hb) (lay_lt (bn0l hb) (by decide)) (rt_bn_1 hb) ?_
      refine v_getR (t := (b + 7)) (pc' := 139) 47 rfl rfl pf_X8_153 (bn6l hb) (lay_lt (bn6l hb) (by decide)) (rt_st_0 (bn_st hb)) ?_
      refine v_iconst (v := 2) (pc' := 140) 48 rfl rfl (by decide) ?_
      refine v_aald6 (i := 2) (r := (b + 10)) (j := 2) (pc' := 141) 49 rfl rfl (bn7l hb) (bn7n hb) (lay_lt (bn7l hb) (by decide)) (vp_lit (by decide)) (by decide) (rt_row (bn_st hb) (i := 2) (by decide)) ?_
      refine v_iload_n (pc' := 142) 50 1 rfl rfl rfl rfl ?_
      obtain ⟨hi818, h⟩ := h
      refine v_iald (i := p1) (j := p1.toNatClampNeg) (pc' := 143) 51 rfl rfl (st_rowl (bn_st hb) (i := 2) (by decide)) (st_rown (bn_st hb) (i := 2) (by decide)) (lay_lt (st_rowl (bn_st hb) (i := 2) (by decide)) (by decide)) hi818 rfl ?_
      exact v_iret 52 rfl rfl (by decide) (by decide) ⟨_, rfl, rfl, h⟩
    | 6, ht9, hj9, hx9 =>
      cases ht9
      replace hx9 := hx9.trans (show Int32.ofInt _ = (6 : Int32) by decide)
      replace h := h.2.2.2.2.2.2.1 hx9
      refine v_aload_n (pc' := 145) 53 0 rfl rfl rfl rfl ?_
      refine v_getR (t := b) (pc' := 148) 54 rfl rfl pf_X8_40 ly_0 (lay_lt ly_0 (by decide)) rt_0_5 ?_
      refine v_getR (t := (b + 1)) (pc' := 151) 55 rfl rfl pf_X8_95 (bn0l hb) (lay_lt (bn0l hb) (by decide)) (rt_bn_0 hb) ?_
      refine v_iload_n (pc' := 152) 56 1 rfl rfl rfl rfl ?_
      refine v_cV (Y2 := Y_X2_cone) (As := [.int p1]) (b := (b + 1)) (pc' := 155) (c1 := 0) (s1 := 0) 57 rfl rfl mf_X2_cone rfl rfl ml_X8_157 mi_X2_cone se_X2_cone (ci := 1) rfl (bn1l hb) (lay_lt (bn1l hb) (by decide)) rfl (Nat.le_of_ble_eq_true rfl) ⟨Nat.le_of_ble_eq_true rfl, Nat.le_of_ble_eq_true rfl⟩ rfl rfl (ok_X2_cone (b + 1) p1 I L (bn_ck hb) h) ?_ ?_
      · intro e9 u9 hx9
        exact hx9.elim
      intro v9 u9 hv9
      obtain ⟨r819, rfl, rfl, h⟩ := hv9
      refine ⟨fun q => absurd q (Nat.lt_irrefl _), ?_⟩
      show V G Y_X8_gate 155 _ (.int r819 :: _) _ _ _ _ _
      exact v_iret 58 rfl rfl (by decide) (by decide) ⟨_, rfl, rfl, h⟩
    | 7, ht9, hj9, hx9 =>
      cases ht9
      replace hx9 := hx9.trans (show Int32.ofInt _ = (7 : Int32) by decide)
      replace h := h.2.2.2.2.2.2.2.1 hx9
      refine v_aload_n (pc' := 157) 59 0 rfl rfl rfl rfl ?_
      refine v_getR (t := b) (pc' := 160) 60 rfl rfl pf_X8_40 ly_0 (lay_lt ly_0 (by decide)) rt_0_5 ?_
      refine v_getR (t := (b + 6)) (pc' := 163) 61 rfl rfl pf_X8_114 (bn0l hb) (lay_lt (bn0l hb) (by decide)) (rt_bn_1 hb) ?_
      refine v_iload_n (pc' := 164) 62 1 rfl rfl rfl rfl ?_
      refine v_cV (Y2 := Y_X6_settledTimes) (As := [.int p1]) (b := (b + 6)) (pc' := 167) (c1 := 0) (s1 := 0) 63 rfl rfl mf_X6_settledTimes rfl rfl ml_X8_161 mi_X6_settledTimes se_X6_settledTimes (ci := 5) rfl (bn6l hb) (lay_lt (bn6l hb) (by decide)) rfl (Nat.le_of_ble_eq_true rfl) ⟨Nat.le_of_ble_eq_true rfl, Nat.le_of_ble_eq_true rfl⟩ rfl rfl (ok_X6_settledTimes (b + 6) p1 I L (bn_st hb) h) ?_ ?_
      · intro e9 u9 hx9
        exact hx9.elim
      intro v9 u9 hv9
      obtain ⟨r820, rfl, rfl, h⟩ := hv9
      refine ⟨fun q => absurd q (Nat.lt_irrefl _), ?_⟩
      show V G Y_X8_gate 167 _ (.int r820 :: _) _ _ _ _ _
      exact v_iret 64 rfl rfl (by decide) (by decide) ⟨_, rfl, rfl, h⟩
    | 8, ht9, hj9, hx9 =>
      cases ht9
      replace hx9 := hx9.trans (show Int32.ofInt _ = (8 : Int32) by decide)
      replace h := h.2.2.2.2.2.2.2.2.1 hx9
      refine v_aload_n (pc' := 169) 65 0 rfl rfl rfl rfl ?_
      refine v_getR (t := b) (pc' := 172) 66 rfl rfl pf_X8_40 ly_0 (lay_lt ly_0 (by decide)) rt_0_5 ?_
      refine v_getR (t := (b + 6)) (pc' := 175) 67 rfl rfl pf_X8_114 (bn0l hb) (lay_lt (bn0l hb) (by decide)) (rt_bn_1 hb) ?_
      refine v_iload_n (pc' := 176) 68 1 rfl rfl rfl rfl ?_
      refine v_cV (Y2 := Y_X6_ruledTimes) (As := [.int p1]) (b := (b + 6)) (pc' := 179) (c1 := 0) (s1 := 0) 69 rfl rfl mf_X6_ruledTimes rfl rfl ml_X8_164 mi_X6_ruledTimes se_X6_ruledTimes (ci := 5) rfl (bn6l hb) (lay_lt (bn6l hb) (by decide)) rfl (Nat.le_of_ble_eq_true rfl) ⟨Nat.le_of_ble_eq_true rfl, Nat.le_of_ble_eq_true rfl⟩ rfl rfl (ok_X6_ruledTimes (b + 6) p1 I L (bn_st hb) h) ?_ ?_
      · intro e9 u9 hx9
        exact hx9.elim
      intro v9 u9 hv9
      obtain ⟨r821, rfl, rfl, h⟩ := hv9
      refine ⟨fun q => absurd q (Nat.lt_irrefl _), ?_⟩
      show V G Y_X8_gate 179 _ (.int r821 :: _) _ _ _ _ _
      exact v_iret 70 rfl rfl (by decide) (by decide) ⟨_, rfl, rfl, h⟩
    | 9, ht9, hj9, hx9 =>
      cases ht9
      replace hx9 := hx9.trans (show Int32.ofInt _ = (9 : Int32) by decide)
      replace h := h.2.2.2.2.2.2.2.2.2.1 hx9
      refine v_aload_n (pc' := 181) 71 0 rfl rfl rfl rfl ?_
      refine v_getR (t := b) (pc' := 184) 72 rfl rfl pf_X8_40 ly_0 (lay_lt ly_0 (by decide)) rt_0_5 ?_
      refine v_iload_n (pc' := 185) 73 1 rfl rfl rfl rfl ?_
      refine v_cV (Y2 := Y_X0_pulses) (As := [.int p1]) (b := b) (pc' := 188) (c1 := 0) (s1 := 0) 74 rfl rfl mf_X0_pulses rfl rfl ml_X8_167 mi_X0_pulses se_X0_pulses (ci := 0) rfl (bn0l hb) (lay_lt (bn0l hb) (by decide)) rfl (Nat.le_of_ble_eq_true rfl) ⟨Nat.le_of_ble_eq_true rfl, Nat.le_of_ble_eq_true rfl⟩ rfl rfl (ok_X0_pulses b p1 I L hb h) ?_ ?_
      · intro e9 u9 hx9
        exact hx9.elim
      intro v9 u9 hv9
      obtain ⟨r822, rfl, rfl, h⟩ := hv9
      refine ⟨fun q => absurd q (Nat.lt_irrefl _), ?_⟩
      show V G Y_X8_gate 188 _ (.int r822 :: _) _ _ _ _ _
      exact v_iret 75 rfl rfl (by decide) (by decide) ⟨_, rfl, rfl, h⟩
    | q9 + 10, ht9, hj9, hx9 => exact absurd hj9 (by omega)
  replace h := h.2.2.2.2.2.2.2.2.2.2 hc
  exact (hX _ h).elim
set_option maxHeartbeats 4000000 in
set_option maxRecDepth 100000 in
theorem ok_X8_requireNet {G : GT} {t : Nat} (p1 : Int32) (I : TI) (L : TL) (b : Nat) (d : Nat) (hb : bnOK b) (hd : bnOK d) {Q : Prop} {QX : String → Prop} (h : W_X8_requireNet p1 I L b d Q QX) (hX : ∀ (e9 : String), QX e9 → False) : MW G Y_X8_requireNet [.ref 0, .int p1] (I, L, RT b d t, 457) (fun v9 u9 => v9 = none ∧ u9 = (I, L, RT b d t, 457) ∧ Q) (fun _ _ => False) := by
  unfold W_X8_requireNet at h
  refine MW.intro rfl (by decide) is_X8_requireNet (Nat.le_of_ble_eq_true rfl) ?_
  show V G Y_X8_requireNet 0 [(0, .ref 0), (1, .int p1)] [] (I, L, RT b d t, 457) 0 0 _ _
  refine v_aload_n (pc' := 1) 0 0 rfl rfl rfl rfl ?_
  refine v_getR (t := b) (pc' := 4) 1 rfl rfl pf_X8_40 ly_0 (lay_lt ly_0 (by decide)) rt_0_5 ?_
  refine v_getR (t := (b + 1)) (pc' := 7) 2 rfl rfl pf_X8_95 (bn0l hb) (lay_lt (bn0l hb) (by decide)) (rt_bn_0 hb) ?_
  refine v_iload_n (pc' := 8) 3 1 rfl rfl rfl rfl ?_
  refine v_cV (Y2 := Y_X2_hasNet) (As := [.int p1]) (b := (b + 1)) (pc' := 11) (c1 := 0) (s1 := 0) 4 rfl rfl mf_X2_hasNet rfl rfl ml_X8_176 mi_X2_hasNet se_X2_hasNet (ci := 1) rfl (bn1l hb) (lay_lt (bn1l hb) (by decide)) rfl (Nat.le_of_ble_eq_true rfl) ⟨Nat.le_of_ble_eq_true rfl, Nat.le_of_ble_eq_true rfl⟩ rfl rfl (ok_X2_hasNet (b + 1) p1 I L (bn_ck hb) h) ?_ ?_
  · intro e9 u9 hx9
    exact hx9.elim
  intro v9 u9 hv9
  obtain ⟨r824, rfl, rfl, h⟩ := hv9
  refine ⟨fun q => absurd q (Nat.lt_irrefl _), ?_⟩
  show V G Y_X8_requireNet 11 _ (.int r824 :: _) _ _ _ _ _
  refine v_if_ne (tgt := 24) (pc' := 14) 5 rfl rfl (by decide) (fun hc => ?_) (fun hc => ?_)
  · replace h := h.1 hc
    exact v_vret 11 rfl rfl (by decide) (by decide) ⟨rfl, rfl, h⟩
  replace h := h.2 hc
  exact (hX _ h).elim
set_option maxHeartbeats 4000000 in
set_option maxRecDepth 100000 in
theorem ok_X8_requireTimes {G : GT} {t : Nat} (p1 : Int32) (p2 : Int32) (I : TI) (L : TL) (b : Nat) (d : Nat) (hb : bnOK b) (hd : bnOK d) {Q : Prop} {QX : String → Prop} (h : W_X8_requireTimes p1 p2 I L b d Q QX) (hX : ∀ (e9 : String), QX e9 → False) : MW G Y_X8_requireTimes [.ref 0, .int p1, .int p2] (I, L, RT b d t, 457) (fun v9 u9 => v9 = none ∧ u9 = (I, L, RT b d t, 457) ∧ Q) (fun _ _ => False) := by
  unfold W_X8_requireTimes at h
  refine MW.intro rfl (by decide) is_X8_requireTimes (Nat.le_of_ble_eq_true rfl) ?_
  show V G Y_X8_requireTimes 0 [(0, .ref 0), (1, .int p1), (2, .int p2)] [] (I, L, RT b d t, 457) 0 0 _ _
  refine v_aload_n (pc' := 1) 0 0 rfl rfl rfl rfl ?_
  refine v_getR (t := b) (pc' := 4) 1 rfl rfl pf_X8_40 ly_0 (lay_lt ly_0 (by decide)) rt_0_5 ?_
  refine v_getR (t := (b + 1)) (pc' := 7) 2 rfl rfl pf_X8_95 (bn0l hb) (lay_lt (bn0l hb) (by decide)) (rt_bn_0 hb) ?_
  refine v_iload_n (pc' := 8) 3 1 rfl rfl rfl rfl ?_
  refine v_cV (Y2 := Y_X2_hasTime) (As := [.int p1]) (b := (b + 1)) (pc' := 11) (c1 := 0) (s1 := 0) 4 rfl rfl mf_X2_hasTime rfl rfl ml_X8_181 mi_X2_hasTime se_X2_hasTime (ci := 1) rfl (bn1l hb) (lay_lt (bn1l hb) (by decide)) rfl (Nat.le_of_ble_eq_true rfl) ⟨Nat.le_of_ble_eq_true rfl, Nat.le_of_ble_eq_true rfl⟩ rfl rfl (ok_X2_hasTime (b + 1) p1 I L (bn_ck hb) h) ?_ ?_
  · intro e9 u9 hx9
    exact hx9.elim
  intro v9 u9 hv9
  obtain ⟨r827, rfl, rfl, h⟩ := hv9
  refine ⟨fun q => absurd q (Nat.lt_irrefl _), ?_⟩
  show V G Y_X8_requireTimes 11 _ (.int r827 :: _) _ _ _ _ _
  refine v_if_eq (tgt := 33) (pc' := 14) 5 rfl rfl (by decide) (fun hc => ?_) (fun hc => ?_)
  · replace h := h.1 hc
    exact (hX _ h).elim
  replace h := h.2 hc
  refine v_aload_n (pc' := 15) 6 0 rfl rfl rfl rfl ?_
  refine v_getR (t := b) (pc' := 18) 7 rfl rfl pf_X8_40 ly_0 (lay_lt ly_0 (by decide)) rt_0_5 ?_
  refine v_getR (t := (b + 1)) (pc' := 21) 8 rfl rfl pf_X8_95 (bn0l hb) (lay_lt (bn0l hb) (by decide)) (rt_bn_0 hb) ?_
  refine v_iload_n (pc' := 22) 9 2 rfl rfl rfl rfl ?_
  refine v_cV (Y2 := Y_X2_hasTime) (As := [.int p2]) (b := (b + 1)) (pc' := 25) (c1 := 0) (s1 := 0) 10 rfl rfl mf_X2_hasTime rfl rfl ml_X8_181 mi_X2_hasTime se_X2_hasTime (ci := 1) rfl (bn1l hb) (lay_lt (bn1l hb) (by decide)) rfl (Nat.le_of_ble_eq_true rfl) ⟨Nat.le_of_ble_eq_true rfl, Nat.le_of_ble_eq_true rfl⟩ rfl rfl (ok_X2_hasTime (b + 1) p2 I L (bn_ck hb) h) ?_ ?_
  · intro e9 u9 hx9
    exact hx9.elim
  intro v9 u9 hv9
  obtain ⟨r828, rfl, rfl, h⟩ := hv9
  refine ⟨fun q => absurd q (Nat.lt_irrefl _), ?_⟩
  show V G Y_X8_requireTimes 25 _ (.int r828 :: _) _ _ _ _ _
  refine v_if_eq (tgt := 33) (pc' := 28) 11 rfl rfl (by decide) (fun hc => ?_) (fun hc => ?_)
  · replace h := h.1 hc
    exact (hX _ h).elim
  replace h := h.2 hc
  refine v_iload_n (pc' := 29) 12 2 rfl rfl rfl rfl ?_
  refine v_iload_n (pc' := 30) 13 1 rfl rfl rfl rfl ?_
  refine v_icmp_ge (tgt := 43) (pc' := 33) 14 rfl rfl (by decide) (fun hc => ?_) (fun hc => ?_)
  · replace h := h.1 hc
    exact v_vret 20 rfl rfl (by decide) (by decide) ⟨rfl, rfl, h⟩
  replace h := h.2 hc
  exact (hX _ h).elim
set_option maxHeartbeats 4000000 in
set_option maxRecDepth 100000 in
theorem ok_X8_requireWave {G : GT} {t : Nat} (p1 : Int32) (p2 : Int32) (I : TI) (L : TL) (b : Nat) (d : Nat) (hb : bnOK b) (hd : bnOK d) {Q : Int64 → Prop} {QX : String → Prop} (h : W_X8_requireWave p1 p2 I L b d Q QX) (hX : ∀ (e9 : String), QX e9 → False) : MW G Y_X8_requireWave [.ref 0, .int p1, .int p2] (I, L, RT b d t, 457) (fun v9 u9 => ∃ (r9 : Int64), v9 = some (.long r9) ∧ u9 = (I, L, RT b d t, 457) ∧ Q r9) (fun _ _ => False) := by
  unfold W_X8_requireWave at h
  refine MW.intro rfl (by decide) is_X8_requireWave (Nat.le_of_ble_eq_true rfl) ?_
  show V G Y_X8_requireWave 0 [(0, .ref 0), (1, .int p1), (2, .int p2)] [] (I, L, RT b d t, 457) 0 0 _ _
  refine v_aload_n (pc' := 1) 0 0 rfl rfl rfl rfl ?_
  refine v_iload_n (pc' := 2) 1 1 rfl rfl rfl rfl ?_
  refine v_cV (Y2 := Y_X8_requireNet) (As := [.int p1]) (b := 0) (pc' := 5) (c1 := 0) (s1 := 0) 2 rfl rfl mf_X8_requireNet rfl rfl ml_X8_186 mi_X8_requireNet se_X8_requireNet (ci := 7) rfl ly_0 (lay_lt ly_0 (by decide)) rfl (Nat.le_of_ble_eq_true rfl) ⟨Nat.le_of_ble_eq_true rfl, Nat.le_of_ble_eq_true rfl⟩ rfl rfl (ok_X8_requireNet p1 I L b d hb hd h (fun _ q9 => hX _ q9)) ?_ ?_
  · intro e9 u9 hx9
    exact hx9.elim
  intro v9 u9 hv9
  obtain ⟨rfl, rfl, h⟩ := hv9
  refine ⟨fun q => absurd q (Nat.lt_irrefl _), ?_⟩
  show V G Y_X8_requireWave 5 _ _ _ _ _ _ _
  refine v_iload_n (pc' := 6) 3 2 rfl rfl rfl rfl ?_
  refine v_ts (clo := 0) (chi := 2) (dt := 62) 4 3 [32, 42, 52] rfl (by decide) (by decide) (by decide) (by decide) (by decide) ?_ (fun hc => ?_)
  · intro j9 t9 ht9 hj9 hx9
    match j9, ht9, hj9, hx9 with
    | 0, ht9, hj9, hx9 =>
      cases ht9
      replace hx9 := hx9.trans (show Int32.ofInt _ = (0 : Int32) by decide)
      replace h := h.1 hx9
      refine v_aload_n (pc' := 33) 5 0 rfl rfl rfl rfl ?_
      refine v_getR (t := b) (pc' := 36) 6 rfl rfl pf_X8_40 ly_0 (lay_lt ly_0 (by decide)) rt_0_5 ?_
      refine v_getR (t := (b + 37)) (pc' := 39) 7 rfl rfl pf_X8_189 (bn0l hb) (lay_lt (bn0l hb) (by decide)) (rt_bn_2 hb) ?_
      refine v_iload_n (pc' := 40) 8 1 rfl rfl rfl rfl ?_
      obtain ⟨hi832, h⟩ := h
      refine v_lald (i := p1) (j := p1.toNatClampNeg) (pc' := 41) 9 rfl rfl (bn37l hb) (bn37n hb) (lay_lt (bn37l hb) (by decide)) hi832 rfl ?_
      exact v_lret 10 rfl rfl (by decide) (by decide) ⟨_, rfl, rfl, h⟩
    | 1, ht9, hj9, hx9 =>
      cases ht9
      replace hx9 := hx9.trans (show Int32.ofInt _ = (1 : Int32) by decide)
      replace h := h.2.1 hx9
      refine v_aload_n (pc' := 43) 11 0 rfl rfl rfl rfl ?_
      refine v_getR (t := b) (pc' := 46) 12 rfl rfl pf_X8_40 ly_0 (lay_lt ly_0 (by decide)) rt_0_5 ?_
      refine v_getR (t := (b + 38)) (pc' := 49) 13 rfl rfl pf_X8_193 (bn0l hb) (lay_lt (bn0l hb) (by decide)) (rt_bn_3 hb) ?_
      refine v_iload_n (pc' := 50) 14 1 rfl rfl rfl rfl ?_
      obtain ⟨hi833, h⟩ := h
      refine v_lald (i := p1) (j := p1.toNatClampNeg) (pc' := 51) 15 rfl rfl (bn38l hb) (bn38n hb) (lay_lt (bn38l hb) (by decide)) hi833 rfl ?_
      exact v_lret 16 rfl rfl (by decide) (by decide) ⟨_, rfl, rfl, h⟩
    | 2, ht9, hj9, hx9 =>
      cases ht9
      replace hx9 := hx9.trans (show Int32.ofInt _ = (2 : Int32) by decide)
      replace h := h.2.2.1 hx9
      refine v_aload_n (pc' := 53) 17 0 rfl rfl rfl rfl ?_
      refine v_getR (t := b) (pc' := 56) 18 rfl rfl pf_X8_40 ly_0 (lay_lt ly_0 (by decide)) rt_0_5 ?_
      refine v_getR (t := (b + 39)) (pc' := 59) 19 rfl rfl pf_X8_196 (bn0l hb) (lay_lt (bn0l hb) (by decide)) (rt_bn_4 hb) ?_
      refine v_iload_n (pc' := 60) 20 1 rfl rfl rfl rfl ?_
      obtain ⟨hi834, h⟩ := h
      refine v_lald (i := p1) (j := p1.toNatClampNeg) (pc' := 61) 21 rfl rfl (bn39l hb) (bn39n hb) (lay_lt (bn39l hb) (by decide)) hi834 rfl ?_
      exact v_lret 22 rfl rfl (by decide) (by decide) ⟨_, rfl, rfl, h⟩
    | q9 + 3, ht9, hj9, hx9 => exact absurd hj9 (by omega)
  replace h := h.2.2.2 hc
  exact (hX _ h).elim
set_option maxHeartbeats 4000000 in
set_option maxRecDepth 100000 in
theorem ok_X8_stateAt {G : GT} {t : Nat} (p1 : Int32) (p2 : Int32) (I : TI) (L : TL) (b : Nat) (d : Nat) (hb : bnOK b) (hd : bnOK d) {Q : Int32 → Prop} {QX : String → Prop} (h : W_X8_stateAt p1 p2 I L b d Q QX) (hX : ∀ (e9 : String), QX e9 → False) : MW G Y_X8_stateAt [.ref 0, .int p1, .int p2] (I, L, RT b d t, 457) (fun v9 u9 => ∃ (r9 : Int32), v9 = some (.int r9) ∧ u9 = (I, L, RT b d t, 457) ∧ Q r9) (fun _ _ => False) := by
  unfold W_X8_stateAt at h
  refine MW.intro rfl (by decide) is_X8_stateAt (Nat.le_of_ble_eq_true rfl) ?_
  show V G Y_X8_stateAt 0 [(0, .ref 0), (1, .int p1), (2, .int p2)] [] (I, L, RT b d t, 457) 0 0 _ _
  refine v_aload_n (pc' := 1) 0 0 rfl rfl rfl rfl ?_
  refine v_iload_n (pc' := 2) 1 1 rfl rfl rfl rfl ?_
  refine v_cV (Y2 := Y_X8_requireNet) (As := [.int p1]) (b := 0) (pc' := 5) (c1 := 0) (s1 := 0) 2 rfl rfl mf_X8_requireNet rfl rfl ml_X8_186 mi_X8_requireNet se_X8_requireNet (ci := 7) rfl ly_0 (lay_lt ly_0 (by decide)) rfl (Nat.le_of_ble_eq_true rfl) ⟨Nat.le_of_ble_eq_true rfl, Nat.le_of_ble_eq_true rfl⟩ rfl rfl (ok_X8_requireNet p1 I L b d hb hd h (fun _ q9 => hX _ q9)) ?_ ?_
  · intro e9 u9 hx9
    exact hx9.elim
  intro v9 u9 hv9
  obtain ⟨rfl, rfl, h⟩ := hv9
  refine ⟨fun q => absurd q (Nat.lt_irrefl _), ?_⟩
  show V G Y_X8_stateAt 5 _ _ _ _ _ _ _
  refine v_aload_n (pc' := 6) 3 0 rfl rfl rfl rfl ?_
  refine v_getR (t := b) (pc' := 9) 4 rfl rfl pf_X8_40 ly_0 (lay_lt ly_0 (by decide)) rt_0_5 ?_
  refine v_getR (t := (b + 1)) (pc' := 12) 5 rfl rfl pf_X8_95 (bn0l hb) (lay_lt (bn0l hb) (by decide)) (rt_bn_0 hb) ?_
  refine v_iload_n (pc' := 13) 6 2 rfl rfl rfl rfl ?_
  refine v_cV (Y2 := Y_X2_hasTime) (As := [.int p2]) (b := (b + 1)) (pc' := 16) (c1 := 0) (s1 := 0) 7 rfl rfl mf_X2_hasTime rfl rfl ml_X8_181 mi_X2_hasTime se_X2_hasTime (ci := 1) rfl (bn1l hb) (lay_lt (bn1l hb) (by decide)) rfl (Nat.le_of_ble_eq_true rfl) ⟨Nat.le_of_ble_eq_true rfl, Nat.le_of_ble_eq_true rfl⟩ rfl rfl (ok_X2_hasTime (b + 1) p2 I L (bn_ck hb) h) ?_ ?_
  · intro e9 u9 hx9
    exact hx9.elim
  intro v9 u9 hv9
  obtain ⟨r837, rfl, rfl, h⟩ := hv9
  refine ⟨fun q => absurd q (Nat.lt_irrefl _), ?_⟩
  show V G Y_X8_stateAt 16 _ (.int r837 :: _) _ _ _ _ _
  refine v_if_ne (tgt := 29) (pc' := 19) 8 rfl rfl (by decide) (fun hc => ?_) (fun hc => ?_)
  · replace h := h.1 hc
    refine v_aload_n (pc' := 30) 14 0 rfl rfl rfl rfl ?_
    refine v_getR (t := b) (pc' := 33) 15 rfl rfl pf_X8_40 ly_0 (lay_lt ly_0 (by decide)) rt_0_5 ?_
    refine v_getR (t := (b + 6)) (pc' := 36) 16 rfl rfl pf_X8_114 (bn0l hb) (lay_lt (bn0l hb) (by decide)) (rt_bn_1 hb) ?_
    refine v_iload_n (pc' := 37) 17 1 rfl rfl rfl rfl ?_
    refine v_iload_n (pc' := 38) 18 2 rfl rfl rfl rfl ?_
    refine v_cV (Y2 := Y_X6_timeState) (As := [.int p1, .int p2]) (b := (b + 6)) (pc' := 41) (c1 := 0) (s1 := 0) 19 rfl rfl mf_X6_timeState rfl rfl ml_X8_211 mi_X6_timeState se_X6_timeState (ci := 5) rfl (bn6l hb) (lay_lt (bn6l hb) (by decide)) rfl (Nat.le_of_ble_eq_true rfl) ⟨Nat.le_of_ble_eq_true rfl, Nat.le_of_ble_eq_true rfl⟩ rfl rfl (ok_X6_timeState (b + 6) p1 p2 I L (bn_st hb) h) ?_ ?_
    · intro e9 u9 hx9
      exact hx9.elim
    intro v9 u9 hv9
    obtain ⟨r838, rfl, rfl, h⟩ := hv9
    refine ⟨fun q => absurd q (Nat.lt_irrefl _), ?_⟩
    show V G Y_X8_stateAt 41 _ (.int r838 :: _) _ _ _ _ _
    exact v_iret 20 rfl rfl (by decide) (by decide) ⟨_, rfl, rfl, h⟩
  replace h := h.2 hc
  exact (hX _ h).elim
set_option maxHeartbeats 4000000 in
set_option maxRecDepth 100000 in
theorem ok_X8_wave {G : GT} {t : Nat} (p1 : Int32) (p2 : Int32) (I : TI) (L : TL) (b : Nat) (d : Nat) (hb : bnOK b) (hd : bnOK d) {Q : Int64 → Prop} {QX : String → Prop} (h : W_X8_wave p1 p2 I L b d Q QX) (hX : ∀ (e9 : String), QX e9 → False) : MW G Y_X8_wave [.ref 0, .int p1, .int p2] (I, L, RT b d t, 457) (fun v9 u9 => ∃ (r9 : Int64), v9 = some (.long r9) ∧ u9 = (I, L, RT b d t, 457) ∧ Q r9) (fun _ _ => False) := by
  unfold W_X8_wave at h
  refine MW.intro rfl (by decide) is_X8_wave (Nat.le_of_ble_eq_true rfl) ?_
  show V G Y_X8_wave 0 [(0, .ref 0), (1, .int p1), (2, .int p2)] [] (I, L, RT b d t, 457) 0 0 _ _
  refine v_aload_n (pc' := 1) 0 0 rfl rfl rfl rfl ?_
  refine v_iload_n (pc' := 2) 1 1 rfl rfl rfl rfl ?_
  refine v_iload_n (pc' := 3) 2 2 rfl rfl rfl rfl ?_
  refine v_cV (Y2 := Y_X8_requireWave) (As := [.int p1, .int p2]) (b := 0) (pc' := 6) (c1 := 0) (s1 := 0) 3 rfl rfl mf_X8_requireWave rfl rfl ml_X8_201 mi_X8_requireWave se_X8_requireWave (ci := 7) rfl ly_0 (lay_lt ly_0 (by decide)) rfl (Nat.le_of_ble_eq_true rfl) ⟨Nat.le_of_ble_eq_true rfl, Nat.le_of_ble_eq_true rfl⟩ rfl rfl (ok_X8_requireWave p1 p2 I L b d hb hd h (fun _ q9 => hX _ q9)) ?_ ?_
  · intro e9 u9 hx9
    exact hx9.elim
  intro v9 u9 hv9
  obtain ⟨r840, rfl, rfl, h⟩ := hv9
  refine ⟨fun q => absurd q (Nat.lt_irrefl _), ?_⟩
  show V G Y_X8_wave 6 _ (.long r840 :: _) _ _ _ _ _
  exact v_lret 4 rfl rfl (by decide) (by decide) ⟨_, rfl, rfl, h⟩
set_option maxHeartbeats 4000000 in
set_option maxRecDepth 100000 in
theorem ok_X8_dependsOn {G : GT} {t : Nat} (p1 : Int32) (I : TI) (L : TL) (b : Nat) (d : Nat) (hb : bnOK b) (hd : bnOK d) {Q : Int32 → Prop} {QX : String → Prop} (h : W_X8_dependsOn p1 I L b d Q QX) (hX : ∀ (e9 : String), QX e9 → False) : MW G Y_X8_dependsOn [.ref 0, .int p1] (I, L, RT b d t, 457) (fun v9 u9 => ∃ (r9 : Int32), v9 = some (.int r9) ∧ u9 = (I, L, RT b d t, 457) ∧ Q r9) (fun _ _ => False) := by
  unfold W_X8_dependsOn at h
  refine MW.intro rfl (by decide) is_X8_dependsOn (Nat.le_of_ble_eq_true rfl) ?_
  show V G Y_X8_dependsOn 0 [(0, .ref 0), (1, .int p1)] [] (I, L, RT b d t, 457) 0 0 _ _
  refine v_aload_n (pc' := 1) 0 0 rfl rfl rfl rfl ?_
  refine v_iload_n (pc' := 2) 1 1 rfl rfl rfl rfl ?_
  refine v_cV (Y2 := Y_X8_requireGate) (As := [.int p1]) (b := 0) (pc' := 5) (c1 := 0) (s1 := 0) 2 rfl rfl mf_X8_requireGate rfl rfl ml_X8_141 mi_X8_requireGate se_X8_requireGate (ci := 7) rfl ly_0 (lay_lt ly_0 (by decide)) rfl (Nat.le_of_ble_eq_true rfl) ⟨Nat.le_of_ble_eq_true rfl, Nat.le_of_ble_eq_true rfl⟩ rfl rfl (ok_X8_requireGate p1 I L b d hb hd h (fun _ q9 => hX _ q9)) ?_ ?_
  · intro e9 u9 hx9
    exact hx9.elim
  intro v9 u9 hv9
  obtain ⟨rfl, rfl, h⟩ := hv9
  refine ⟨fun q => absurd q (Nat.lt_irrefl _), ?_⟩
  show V G Y_X8_dependsOn 5 _ _ _ _ _ _ _
  refine v_aload_n (pc' := 6) 3 0 rfl rfl rfl rfl ?_
  refine v_getR (t := b) (pc' := 9) 4 rfl rfl pf_X8_40 ly_0 (lay_lt ly_0 (by decide)) rt_0_5 ?_
  refine v_getR (t := (b + 1)) (pc' := 12) 5 rfl rfl pf_X8_95 (bn0l hb) (lay_lt (bn0l hb) (by decide)) (rt_bn_0 hb) ?_
  refine v_getR (t := (b + 5)) (pc' := 15) 6 rfl rfl pf_X8_235 (bn1l hb) (lay_lt (bn1l hb) (by decide)) (rt_ck_3 (bn_ck hb)) ?_
  refine v_iload_n (pc' := 16) 7 1 rfl rfl rfl rfl ?_
  obtain ⟨hi842, h⟩ := h
  refine v_iald (i := p1) (j := p1.toNatClampNeg) (pc' := 17) 8 rfl rfl (bn5l hb) (bn5n hb) (lay_lt (bn5l hb) (by decide)) hi842 rfl ?_
  exact v_iret 9 rfl rfl (by decide) (by decide) ⟨_, rfl, rfl, h⟩
set_option maxHeartbeats 4000000 in
set_option maxRecDepth 100000 in
theorem ok_X8_requirePulse {G : GT} {t : Nat} (p1 : Int32) (p2 : Int32) (I : TI) (L : TL) (b : Nat) (d : Nat) (hb : bnOK b) (hd : bnOK d) {Q : Int32 → Prop} {QX : String → Prop} (h : W_X8_requirePulse p1 p2 I L b d Q QX) (hX : ∀ (e9 : String), QX e9 → False) : MW G Y_X8_requirePulse [.ref 0, .int p1, .int p2] (I, L, RT b d t, 457) (fun v9 u9 => ∃ (r9 : Int32), v9 = some (.int r9) ∧ u9 = (I, L, RT b d t, 457) ∧ Q r9) (fun _ _ => False) := by
  unfold W_X8_requirePulse at h
  refine MW.intro rfl (by decide) is_X8_requirePulse (Nat.le_of_ble_eq_true rfl) ?_
  show V G Y_X8_requirePulse 0 [(0, .ref 0), (1, .int p1), (2, .int p2)] [] (I, L, RT b d t, 457) 0 0 _ _
  refine v_aload_n (pc' := 1) 0 0 rfl rfl rfl rfl ?_
  refine v_iload_n (pc' := 2) 1 1 rfl rfl rfl rfl ?_
  refine v_cV (Y2 := Y_X8_requireGate) (As := [.int p1]) (b := 0) (pc' := 5) (c1 := 0) (s1 := 0) 2 rfl rfl mf_X8_requireGate rfl rfl ml_X8_141 mi_X8_requireGate se_X8_requireGate (ci := 7) rfl ly_0 (lay_lt ly_0 (by decide)) rfl (Nat.le_of_ble_eq_true rfl) ⟨Nat.le_of_ble_eq_true rfl, Nat.le_of_ble_eq_true rfl⟩ rfl rfl (ok_X8_requireGate p1 I L b d hb hd h (fun _ q9 => hX _ q9)) ?_ ?_
  · intro e9 u9 hx9
    exact hx9.elim
  intro v9 u9 hv9
  obtain ⟨rfl, rfl, h⟩ := hv9
  refine ⟨fun q => absurd q (Nat.lt_irrefl _), ?_⟩
  show V G Y_X8_requirePulse 5 _ _ _ _ _ _ _
  refine v_aload_n (pc' := 6) 3 0 rfl rfl rfl rfl ?_
  refine v_getR (t := b) (pc' := 9) 4 rfl rfl pf_X8_40 ly_0 (lay_lt ly_0 (by decide)) rt_0_5 ?_
  refine v_iload_n (pc' := 10) 5 1 rfl rfl rfl rfl ?_
  refine v_iload_n (pc' := 11) 6 2 rfl rfl rfl rfl ?_
  refine v_cV (Y2 := Y_X0_pulseStart) (As := [.int p1, .int p2]) (b := b) (pc' := 14) (c1 := 0) (s1 := 0) 7 rfl rfl mf_X0_pulseStart rfl rfl ml_X8_244 mi_X0_pulseStart se_X0_pulseStart (ci := 0) rfl (bn0l hb) (lay_lt (bn0l hb) (by decide)) rfl (Nat.le_of_ble_eq_true rfl) ⟨Nat.le_of_ble_eq_true rfl, Nat.le_of_ble_eq_true rfl⟩ rfl rfl (ok_X0_pulseStart b p1 p2 I L hb h) ?_ ?_
  · intro e9 u9 hx9
    exact hx9.elim
  intro v9 u9 hv9
  obtain ⟨r844, rfl, rfl, h⟩ := hv9
  refine ⟨fun q => absurd q (Nat.lt_irrefl _), ?_⟩
  show V G Y_X8_requirePulse 14 _ (.int r844 :: _) _ _ _ _ _
  refine v_istore_n (ls' := [(3, .int r844), (0, .ref 0), (1, .int p1), (2, .int p2)]) (pc' := 15) 8 rfl rfl rfl (by decide) rfl ?_
  refine v_iload_n (pc' := 16) 9 0 rfl rfl rfl rfl ?_
  refine v_iconst (v := -1) (pc' := 17) 10 rfl rfl (by decide) ?_
  refine v_icmp_ne (tgt := 30) (pc' := 20) 11 rfl rfl (by decide) (fun hc => ?_) (fun hc => ?_)
  · replace h := h.1 hc
    refine v_iload_n (pc' := 31) 17 0 rfl rfl rfl rfl ?_
    exact v_iret 18 rfl rfl (by decide) (by decide) ⟨_, rfl, rfl, h⟩
  replace h := h.2 hc
  exact (hX _ h).elim
set_option maxHeartbeats 4000000 in
set_option maxRecDepth 100000 in
theorem ok_X8_requireDispute {G : GT} {t : Nat} (p1 : Int32) (I : TI) (L : TL) (b : Nat) (d : Nat) (hb : bnOK b) (hd : bnOK d) {Q : Nat → Prop} {QX : String → Prop} (h : W_X8_requireDispute p1 I L b d Q QX) (hX : ∀ (e9 : String), QX e9 → False) : MW G Y_X8_requireDispute [.ref 0, .int p1] (I, L, RT b d t, 457) (fun v9 u9 => ∃ (r9 : Nat), v9 = some (.ref r9) ∧ u9 = (I, L, RT b d t, 457) ∧ Q r9) (fun _ _ => False) := by
  unfold W_X8_requireDispute at h
  refine MW.intro rfl (by decide) is_X8_requireDispute (Nat.le_of_ble_eq_true rfl) ?_
  show V G Y_X8_requireDispute 0 [(0, .ref 0), (1, .int p1)] [] (I, L, RT b d t, 457) 0 0 _ _
  refine v_iload_n (pc' := 1) 0 1 rfl rfl rfl rfl ?_
  refine v_if_lt (tgt := 18) (pc' := 4) 1 rfl rfl (by decide) (fun hc => ?_) (fun hc => ?_)
  · replace h := h.1 hc
    exact (hX _ h).elim
  replace h := h.2 hc
  refine v_iload_n (pc' := 5) 2 1 rfl rfl rfl rfl ?_
  refine v_aload_n (pc' := 6) 3 0 rfl rfl rfl rfl ?_
  refine v_getR (t := b) (pc' := 9) 4 rfl rfl pf_X8_40 ly_0 (lay_lt ly_0 (by decide)) rt_0_5 ?_
  refine v_getR (t := (b + 6)) (pc' := 12) 5 rfl rfl pf_X8_114 (bn0l hb) (lay_lt (bn0l hb) (by decide)) (rt_bn_1 hb) ?_
  refine v_getI (pc' := 15) 6 rfl rfl pf_X8_129 (bn6l hb) (lay_lt (bn6l hb) (by decide)) ?_
  refine v_icmp_lt (tgt := 28) (pc' := 18) 7 rfl rfl (by decide) (fun hc => ?_) (fun hc => ?_)
  · replace h := h.1 hc
    refine v_aload_n (pc' := 29) 13 0 rfl rfl rfl rfl ?_
    refine v_getR (t := b) (pc' := 32) 14 rfl rfl pf_X8_40 ly_0 (lay_lt ly_0 (by decide)) rt_0_5 ?_
    refine v_getR (t := (b + 6)) (pc' := 35) 15 rfl rfl pf_X8_114 (bn0l hb) (lay_lt (bn0l hb) (by decide)) (rt_bn_1 hb) ?_
    refine v_getR (t := (b + 16)) (pc' := 38) 16 rfl rfl pf_X8_251 (bn6l hb) (lay_lt (bn6l hb) (by decide)) (rt_st_6 (bn_st hb)) ?_
    refine v_iload_n (pc' := 39) 17 1 rfl rfl rfl rfl ?_
    obtain ⟨hi846, h⟩ := h
    refine v_aald5 (i := p1) (r := ((b + 17) + p1.toNatClampNeg)) (j := p1.toNatClampNeg) (pc' := 40) 18 rfl rfl (bn16l hb) (bn16n hb) (lay_lt (bn16l hb) (by decide)) hi846 rfl (rt_dis (bn_st hb) (vp_nat hi846)) ?_
    exact v_aret 19 rfl rfl (by decide) (by decide) ⟨_, rfl, rfl, h⟩
  replace h := h.2 hc
  exact (hX _ h).elim
set_option maxHeartbeats 4000000 in
set_option maxRecDepth 100000 in
theorem ok_X8_cost {G : GT} {t : Nat} (p1 : Int32) (p2 : Int32) (p3 : Int32) (I : TI) (L : TL) (b : Nat) (d : Nat) (hb : bnOK b) (hd : bnOK d) {Q : Int32 → Prop} {QX : String → Prop} (h : W_X8_cost p1 p2 p3 I L b d Q QX) (hX : ∀ (e9 : String), QX e9 → False) : MW G Y_X8_cost [.ref 0, .int p1, .int p2, .int p3] (I, L, RT b d t, 457) (fun v9 u9 => ∃ (r9 : Int32), v9 = some (.int r9) ∧ u9 = (I, L, RT b d t, 457) ∧ Q r9) (fun _ _ => False) := by
  unfold W_X8_cost at h
  refine MW.intro rfl (by decide) is_X8_cost (Nat.le_of_ble_eq_true rfl) ?_
  show V G Y_X8_cost 0 [(0, .ref 0), (1, .int p1), (2, .int p2), (3, .int p3)] [] (I, L, RT b d t, 457) 0 0 _ _
  refine v_aload_n (pc' := 1) 0 0 rfl rfl rfl rfl ?_
  refine v_iload_n (pc' := 2) 1 1 rfl rfl rfl rfl ?_
  refine v_cV (Y2 := Y_X8_requireGate) (As := [.int p1]) (b := 0) (pc' := 5) (c1 := 0) (s1 := 0) 2 rfl rfl mf_X8_requireGate rfl rfl ml_X8_141 mi_X8_requireGate se_X8_requireGate (ci := 7) rfl ly_0 (lay_lt ly_0 (by decide)) rfl (Nat.le_of_ble_eq_true rfl) ⟨Nat.le_of_ble_eq_true rfl, Nat.le_of_ble_eq_true rfl⟩ rfl rfl (ok_X8_requireGate p1 I L b d hb hd h (fun _ q9 => hX _ q9)) ?_ ?_
  · intro e9 u9 hx9
    exact hx9.elim
  intro v9 u9 hv9
  obtain ⟨rfl, rfl, h⟩ := hv9
  refine ⟨fun q => absurd q (Nat.lt_irrefl _), ?_⟩
  show V G Y_X8_cost 5 _ _ _ _ _ _ _
  refine v_aload_n (pc' := 6) 3 0 rfl rfl rfl rfl ?_
  refine v_iload_n (pc' := 7) 4 2 rfl rfl rfl rfl ?_
  refine v_iload_n (pc' := 8) 5 3 rfl rfl rfl rfl ?_
  refine v_cV (Y2 := Y_X8_requireTimes) (As := [.int p2, .int p3]) (b := 0) (pc' := 11) (c1 := 0) (s1 := 0) 6 rfl rfl mf_X8_requireTimes rfl rfl ml_X8_302 mi_X8_requireTimes se_X8_requireTimes (ci := 7) rfl ly_0 (lay_lt ly_0 (by decide)) rfl (Nat.le_of_ble_eq_true rfl) ⟨Nat.le_of_ble_eq_true rfl, Nat.le_of_ble_eq_true rfl⟩ rfl rfl (ok_X8_requireTimes p2 p3 I L b d hb hd h (fun _ q9 => hX _ q9)) ?_ ?_
  · intro e9 u9 hx9
    exact hx9.elim
  intro v9 u9 hv9
  obtain ⟨rfl, rfl, h⟩ := hv9
  refine ⟨fun q => absurd q (Nat.lt_irrefl _), ?_⟩
  show V G Y_X8_cost 11 _ _ _ _ _ _ _
  refine v_aload_n (pc' := 12) 7 0 rfl rfl rfl rfl ?_
  refine v_getR (t := b) (pc' := 15) 8 rfl rfl pf_X8_40 ly_0 (lay_lt ly_0 (by decide)) rt_0_5 ?_
  refine v_iload_n (pc' := 16) 9 1 rfl rfl rfl rfl ?_
  refine v_iload_n (pc' := 17) 10 2 rfl rfl rfl rfl ?_
  refine v_iload_n (pc' := 18) 11 3 rfl rfl rfl rfl ?_
  refine v_cV (Y2 := Y_X0_price) (As := [.int p1, .int p2, .int p3]) (b := b) (pc' := 21) (c1 := 0) (s1 := 0) 12 rfl rfl mf_X0_price rfl rfl ml_X8_261 mi_X0_price se_X0_price (ci := 0) rfl (bn0l hb) (lay_lt (bn0l hb) (by decide)) rfl (Nat.le_of_ble_eq_true rfl) ⟨Nat.le_of_ble_eq_true rfl, Nat.le_of_ble_eq_true rfl⟩ rfl rfl (ok_X0_price b p1 p2 p3 I L hb h) ?_ ?_
  · intro e9 u9 hx9
    exact hx9.elim
  intro v9 u9 hv9
  obtain ⟨r848, rfl, rfl, h⟩ := hv9
  refine ⟨fun q => absurd q (Nat.lt_irrefl _), ?_⟩
  show V G Y_X8_cost 21 _ (.int r848 :: _) _ _ _ _ _
  exact v_iret 13 rfl rfl (by decide) (by decide) ⟨_, rfl, rfl, h⟩
set_option maxHeartbeats 4000000 in
set_option maxRecDepth 100000 in
theorem b_X8_open_28 {G : GT} {t : Nat} (v1 : Int32) (v2 : Int32) (v4 : Int32) (v5 : Int32) (I : TI) (L : TL) (b : Nat) (d : Nat) (hb : bnOK b) (hd : bnOK d) (Q : Int32 → TI → TL → Prop) (QX : String → TI → TL → Prop) (hX : ∀ (e9 : String) (I9 : TI) (L9 : TL), QX e9 I9 L9 → False) (h : B_X8_open_28 v1 v2 v4 v5 I L b d Q QX) : V G Y_X8_open 28 [(0, .ref 0), (1, .int v1), (2, .int v2), (4, .int v4), (5, .int v5)] [] (I, L, RT b d t, 457) 0 0 (fun v9 u9 => ∃ (r9 : Int32) (I9 : TI) (L9 : TL), v9 = some (.int r9) ∧ u9 = (I9, L9, RT b d t, 457) ∧ Q r9 I9 L9) (fun _ _ => False) := by
  unfold B_X8_open_28 at h
  refine v_aload_n (pc' := 29) 15 0 rfl rfl rfl rfl ?_
  refine v_getR (t := b) (pc' := 32) 16 rfl rfl pf_X8_40 ly_0 (lay_lt ly_0 (by decide)) rt_0_5 ?_
  refine v_iload_n (pc' := 33) 17 2 rfl rfl rfl rfl ?_
  refine v_iload (pc' := 35) 18 4 rfl rfl rfl ?_
  refine v_cV (Y2 := Y_X0_runEnd) (As := [.int v2, .int v5]) (b := b) (pc' := 38) (c1 := 0) (s1 := 0) 19 rfl rfl mf_X0_runEnd rfl rfl ml_X8_258 mi_X0_runEnd se_X0_runEnd (ci := 0) rfl (bn0l hb) (lay_lt (bn0l hb) (by decide)) rfl (Nat.le_of_ble_eq_true rfl) ⟨Nat.le_of_ble_eq_true rfl, Nat.le_of_ble_eq_true rfl⟩ rfl rfl (ok_X0_runEnd b v2 v5 I L hb h) ?_ ?_
  · intro e9 u9 hx9
    exact hx9.elim
  intro v9 u9 hv9
  obtain ⟨r867, rfl, rfl, h⟩ := hv9
  refine ⟨fun q => absurd q (Nat.lt_irrefl _), ?_⟩
  show V G Y_X8_open 38 _ (.int r867 :: _) _ _ _ _ _
  refine v_istore (ls' := [(6, .int r867), (0, .ref 0), (1, .int v1), (2, .int v2), (4, .int v4), (5, .int v5)]) (pc' := 40) 20 rfl rfl (by decide) rfl ?_
  refine v_aload_n (pc' := 41) 21 1 rfl rfl rfl rfl ?_
  refine v_getR (t := b) (pc' := 44) 22 rfl rfl pf_X8_40 ly_0 (lay_lt ly_0 (by decide)) rt_0_5 ?_
  refine v_getR (t := (b + 6)) (pc' := 47) 23 rfl rfl pf_X8_114 (bn0l hb) (lay_lt (bn0l hb) (by decide)) (rt_bn_1 hb) ?_
  refine v_iload_n (pc' := 48) 24 3 rfl rfl rfl rfl ?_
  refine v_iload (pc' := 50) 25 5 rfl rfl rfl ?_
  refine v_iload (pc' := 52) 26 0 rfl rfl rfl ?_
  refine v_cV (Y2 := Y_X6_hasPending) (As := [.int v2, .int v5, .int r867]) (b := (b + 6)) (pc' := 55) (c1 := 0) (s1 := 0) 27 rfl rfl mf_X6_hasPending rfl rfl ml_X8_317 mi_X6_hasPending se_X6_hasPending (ci := 5) rfl (bn6l hb) (lay_lt (bn6l hb) (by decide)) rfl (Nat.le_of_ble_eq_true rfl) ⟨Nat.le_of_ble_eq_true rfl, Nat.le_of_ble_eq_true rfl⟩ rfl rfl (ok_X6_hasPending (b + 6) v2 v5 r867 I L (bn_st hb) h) ?_ ?_
  · intro e9 u9 hx9
    exact hx9.elim
  intro v9 u9 hv9
  obtain ⟨r868, rfl, rfl, h⟩ := hv9
  refine ⟨fun q => absurd q (Nat.lt_irrefl _), ?_⟩
  show V G Y_X8_open 55 _ (.int r868 :: _) _ _ _ _ _
  refine v_if_eq (tgt := 61) (pc' := 58) 28 rfl rfl (by decide) (fun hc => ?_) (fun hc => ?_)
  · replace h := h.1 hc
    refine v_aload_n (pc' := 62) 31 1 rfl rfl rfl rfl ?_
    refine v_getR (t := b) (pc' := 65) 32 rfl rfl pf_X8_40 ly_0 (lay_lt ly_0 (by decide)) rt_0_5 ?_
    refine v_getR (t := (b + 6)) (pc' := 68) 33 rfl rfl pf_X8_114 (bn0l hb) (lay_lt (bn0l hb) (by decide)) (rt_bn_1 hb) ?_
    refine v_getI (pc' := 71) 34 rfl rfl pf_X8_129 (bn6l hb) (lay_lt (bn6l hb) (by decide)) ?_
    refine v_istore (ls' := [(7, .int (I (b + 6) 7)), (6, .int r867), (0, .ref 0), (1, .int v1), (2, .int v2), (4, .int v4), (5, .int v5)]) (pc' := 73) 35 rfl rfl (by decide) rfl ?_
    refine v_iload (pc' := 75) 36 0 rfl rfl rfl ?_
    refine v_bipush (v := 20) (pc' := 77) 37 rfl rfl (by decide) ?_
    refine v_icmp_lt (tgt := 83) (pc' := 80) 38 rfl rfl (by decide) (fun hc => ?_) (fun hc => ?_)
    · replace h := h.1 hc
      refine v_aload_n (pc' := 84) 41 2 rfl rfl rfl rfl ?_
      refine v_getR (t := 1) (pc' := 87) 42 rfl rfl pf_X8_10 ly_0 (lay_lt ly_0 (by decide)) rt_0_0 ?_
      refine v_aload_n (pc' := 88) 43 2 rfl rfl rfl rfl ?_
      refine v_getR (t := b) (pc' := 91) 44 rfl rfl pf_X8_40 ly_0 (lay_lt ly_0 (by decide)) rt_0_5 ?_
      refine v_getR (t := (b + 6)) (pc' := 94) 45 rfl rfl pf_X8_114 (bn0l hb) (lay_lt (bn0l hb) (by decide)) (rt_bn_1 hb) ?_
      refine v_cV (Y2 := Y_X4_record) (As := [.ref (b + 6)]) (b := 1) (pc' := 97) (c1 := 0) (s1 := 0) 46 rfl rfl mf_X4_record rfl rfl ml_X8_321 mi_X4_record se_X4_record (ci := 3) rfl ly_1 (lay_lt ly_1 (by decide)) rfl (Nat.le_of_ble_eq_true rfl) ⟨Nat.le_of_ble_eq_true rfl, Nat.le_of_ble_eq_true rfl⟩ rfl rfl (ok_X4_record (b + 6) I L (bn_st hb) h) ?_ ?_
      · intro e9 u9 hx9
        exact hx9.elim
      intro v9 u9 hv9
      obtain ⟨I869, L870, rfl, rfl, h⟩ := hv9
      refine ⟨fun q => absurd q (Nat.lt_irrefl _), ?_⟩
      show V G Y_X8_open 97 _ _ _ _ _ _ _
      refine v_aload_n (pc' := 98) 47 2 rfl rfl rfl rfl ?_
      refine v_getR (t := b) (pc' := 101) 48 rfl rfl pf_X8_40 ly_0 (lay_lt ly_0 (by decide)) rt_0_5 ?_
      refine v_getR (t := (b + 6)) (pc' := 104) 49 rfl rfl pf_X8_114 (bn0l hb) (lay_lt (bn0l hb) (by decide)) (rt_bn_1 hb) ?_
      refine v_dup (pc' := 105) 50 rfl rfl rfl ?_
      refine v_getI (pc' := 108) 51 rfl rfl pf_X8_129 (bn6l hb) (lay_lt (bn6l hb) (by decide)) ?_
      refine v_iconst (v := 1) (pc' := 109) 52 rfl rfl (by decide) ?_
      refine v_iadd (pc' := 110) 53 rfl rfl ?_
      refine v_putI (pc' := 113) 54 rfl rfl pf_X8_129 (fun q => absurd q (by decide)) (bn6l hb) (lay_lt (bn6l hb) (by decide)) ?_
      refine v_aload_n (pc' := 114) 55 2 rfl rfl rfl rfl ?_
      refine v_getR (t := b) (pc' := 117) 56 rfl rfl pf_X8_40 ly_0 (lay_lt ly_0 (by decide)) rt_0_5 ?_
      refine v_getR (t := (b + 6)) (pc' := 120) 57 rfl rfl pf_X8_114 (bn0l hb) (lay_lt (bn0l hb) (by decide)) (rt_bn_1 hb) ?_
      refine v_getR (t := (b + 16)) (pc' := 123) 58 rfl rfl pf_X8_251 (bn6l hb) (lay_lt (bn6l hb) (by decide)) (rt_st_6 (bn_st hb)) ?_
      refine v_iload (pc' := 125) 59 0 rfl rfl rfl ?_
      obtain ⟨hi871, h⟩ := h
      refine v_aald5 (i := (I (b + 6) 7)) (r := ((b + 17) + (I (b + 6) 7).toNatClampNeg)) (j := (I (b + 6) 7).toNatClampNeg) (pc' := 126) 60 rfl rfl (bn16l hb) (bn16n hb) (lay_lt (bn16l hb) (by decide)) hi871 rfl (rt_dis (bn_st hb) (vp_nat hi871)) ?_
      refine v_iload_n (pc' := 127) 61 4 rfl rfl rfl rfl ?_
      refine v_iload (pc' := 129) 62 6 rfl rfl rfl ?_
      refine v_iload (pc' := 131) 63 1 rfl rfl rfl ?_
      refine v_aload_n (pc' := 132) 64 2 rfl rfl rfl rfl ?_
      refine v_getR (t := b) (pc' := 135) 65 rfl rfl pf_X8_40 ly_0 (lay_lt ly_0 (by decide)) rt_0_5 ?_
      refine v_getR (t := (b + 37)) (pc' := 138) 66 rfl rfl pf_X8_189 (bn0l hb) (lay_lt (bn0l hb) (by decide)) (rt_bn_2 hb) ?_
      refine v_iload_n (pc' := 139) 67 4 rfl rfl rfl rfl ?_
      obtain ⟨hi872, h⟩ := h
      refine v_lald (i := v2) (j := v2.toNatClampNeg) (pc' := 140) 68 rfl rfl (bn37l hb) (bn37n hb) (lay_lt (bn37l hb) (by decide)) hi872 rfl ?_
      refine v_iload (pc' := 142) 69 6 rfl rfl rfl ?_
      refine v_cS (Y2 := Y_X8_bitOf) (As := [.long (L870 (b + 37) (v2.toNatClampNeg)), .int v5]) (pc' := 145) (c1 := 0) (s1 := 0) 70 rfl rfl mf_X8_bitOf rfl rfl ml_X8_207 ms_X8_bitOf rfl (Nat.le_of_ble_eq_true rfl) ⟨Nat.le_of_ble_eq_true rfl, Nat.le_of_ble_eq_true rfl⟩ rfl rfl (ok_X8_bitOf (L870 (b + 37) (v2.toNatClampNeg)) v5 (up2 I869 (b + 6) 7 ((I869 (b + 6) 7) + 1)) L870 h) ?_ ?_
      · intro e9 u9 hx9
        exact hx9.elim
      intro v9 u9 hv9
      obtain ⟨r873, rfl, rfl, h⟩ := hv9
      refine ⟨fun q => absurd q (Nat.lt_irrefl _), ?_⟩
      show V G Y_X8_open 145 _ (.int r873 :: _) _ _ _ _ _
      refine v_iload_n (pc' := 146) 71 3 rfl rfl rfl rfl ?_
      refine v_iload (pc' := 148) 72 5 rfl rfl rfl ?_
      refine v_cV (Y2 := Y_X3_start) (As := [.int v2, .int v5, .int r867, .int r873, .int v1, .int v4]) (b := ((b + 17) + (I (b + 6) 7).toNatClampNeg)) (pc' := 151) (c1 := 0) (s1 := 0) 73 rfl rfl mf_X3_start rfl rfl ml_X8_325 mi_X3_start se_X3_start (ci := 2) rfl (st_disl (bn_st hb) (vp_nat hi871)) (lay_lt (st_disl (bn_st hb) (vp_nat hi871)) (by decide)) rfl (Nat.le_of_ble_eq_true rfl) ⟨Nat.le_of_ble_eq_true rfl, Nat.le_of_ble_eq_true rfl⟩ rfl rfl (ok_X3_start ((b + 17) + (I (b + 6) 7).toNatClampNeg) v2 v5 r867 r873 v1 v4 (up2 I869 (b + 6) 7 ((I869 (b + 6) 7) + 1)) L870 (st_disl (bn_st hb) (vp_nat hi871)) h) ?_ ?_
      · intro e9 u9 hx9
        exact hx9.elim
      intro v9 u9 hv9
      obtain ⟨I874, rfl, rfl, h⟩ := hv9
      refine ⟨fun q => absurd q (Nat.lt_irrefl _), ?_⟩
      show V G Y_X8_open 151 _ _ _ _ _ _ _
      refine v_iload (pc' := 153) 74 0 rfl rfl rfl ?_
      exact v_iret 75 rfl rfl (by decide) (by decide) ⟨_, _, _, rfl, rfl, h⟩
    replace h := h.2 hc
    refine v_bipush (v := -3) (pc' := 82) 39 rfl rfl (by decide) ?_
    exact v_iret 40 rfl rfl (by decide) (by decide) ⟨_, _, _, rfl, rfl, h⟩
  replace h := h.2 hc
  refine v_bipush (v := -2) (pc' := 60) 29 rfl rfl (by decide) ?_
  exact v_iret 30 rfl rfl (by decide) (by decide) ⟨_, _, _, rfl, rfl, h⟩
set_option maxHeartbeats 4000000 in
set_option maxRecDepth 100000 in
theorem ok_X8_open {G : GT} {t : Nat} (p1 : Int32) (p2 : Int32) (p3 : Int32) (p4 : Int32) (I : TI) (L : TL) (b : Nat) (d : Nat) (hb : bnOK b) (hd : bnOK d) {Q : Int32 → TI → TL → Prop} {QX : String → TI → TL → Prop} (h : W_X8_open p1 p2 p3 p4 I L b d Q QX) (hX : ∀ (e9 : String) (I9 : TI) (L9 : TL), QX e9 I9 L9 → False) : MW G Y_X8_open [.ref 0, .int p1, .int p2, .int p3, .int p4] (I, L, RT b d t, 457) (fun v9 u9 => ∃ (r9 : Int32) (I9 : TI) (L9 : TL), v9 = some (.int r9) ∧ u9 = (I9, L9, RT b d t, 457) ∧ Q r9 I9 L9) (fun _ _ => False) := by
  unfold W_X8_open at h
  refine MW.intro rfl (by decide) is_X8_open (Nat.le_of_ble_eq_true rfl) ?_
  show V G Y_X8_open 0 [(0, .ref 0), (1, .int p1), (2, .int p2), (3, .int p3), (4, .int p4)] [] (I, L, RT b d t, 457) 0 0 _ _
  refine v_aload_n (pc' := 1) 0 0 rfl rfl rfl rfl ?_
  refine v_iload_n (pc' := 2) 1 2 rfl rfl rfl rfl ?_
  refine v_iload_n (pc' := 3) 2 3 rfl rfl rfl rfl ?_
  refine v_cV (Y2 := Y_X8_requirePulse) (As := [.int p2, .int p3]) (b := 0) (pc' := 6) (c1 := 0) (s1 := 0) 3 rfl rfl mf_X8_requirePulse rfl rfl ml_X8_255 mi_X8_requirePulse se_X8_requirePulse (ci := 7) rfl ly_0 (lay_lt ly_0 (by decide)) rfl (Nat.le_of_ble_eq_true rfl) ⟨Nat.le_of_ble_eq_true rfl, Nat.le_of_ble_eq_true rfl⟩ rfl rfl (ok_X8_requirePulse p2 p3 I L b d hb hd h (fun _ q9 => hX _ _ _ q9)) ?_ ?_
  · intro e9 u9 hx9
    exact hx9.elim
  intro v9 u9 hv9
  obtain ⟨r875, rfl, rfl, h⟩ := hv9
  refine ⟨fun q => absurd q (Nat.lt_irrefl _), ?_⟩
  show V G Y_X8_open 6 _ (.int r875 :: _) _ _ _ _ _
  refine v_istore (ls' := [(5, .int r875), (0, .ref 0), (1, .int p1), (2, .int p2), (3, .int p3), (4, .int p4)]) (pc' := 8) 4 rfl rfl (by decide) rfl ?_
  refine v_iload_n (pc' := 9) 5 2 rfl rfl rfl rfl ?_
  refine v_if_eq (tgt := 28) (pc' := 12) 6 rfl rfl (by decide) (fun hc => ?_) (fun hc => ?_)
  · replace h := h.1 hc
    refine V.sub [1, 2, 3, 5, 0] rfl ?_
    exact b_X8_open_28 p1 p2 p4 r875 I L b d hb hd Q QX hX h
  replace h := h.2 hc
  refine v_iload_n (pc' := 13) 7 2 rfl rfl rfl rfl ?_
  refine v_iconst (v := 1) (pc' := 14) 8 rfl rfl (by decide) ?_
  refine v_icmp_eq (tgt := 28) (pc' := 17) 9 rfl rfl (by decide) (fun hc => ?_) (fun hc => ?_)
  · replace h := h.1 hc
    refine V.sub [1, 2, 3, 5, 0] rfl ?_
    exact b_X8_open_28 p1 p2 p4 r875 I L b d hb hd Q QX hX h
  replace h := h.2 hc
  exact (hX _ _ _ h).elim
set_option maxHeartbeats 4000000 in
set_option maxRecDepth 100000 in
theorem ok_X8_judge {G : GT} {t : Nat} (p1 : Int32) (I : TI) (L : TL) (b : Nat) (d : Nat) (hb : bnOK b) (hd : bnOK d) {Q : Int32 → TI → TL → Prop} {QX : String → TI → TL → Prop} (h : W_X8_judge p1 I L b d Q QX) (hX : ∀ (e9 : String) (I9 : TI) (L9 : TL), QX e9 I9 L9 → False) : MW G Y_X8_judge [.ref 0, .int p1] (I, L, RT b d t, 457) (fun v9 u9 => ∃ (r9 : Int32) (I9 : TI) (L9 : TL), v9 = some (.int r9) ∧ u9 = (I9, L9, RT b d t, 457) ∧ Q r9 I9 L9) (fun _ _ => False) := by
  unfold W_X8_judge at h
  refine MW.intro rfl (by decide) is_X8_judge (Nat.le_of_ble_eq_true rfl) ?_
  show V G Y_X8_judge 0 [(0, .ref 0), (1, .int p1)] [] (I, L, RT b d t, 457) 0 0 _ _
  refine v_aload_n (pc' := 1) 0 0 rfl rfl rfl rfl ?_
  refine v_iload_n (pc' := 2) 1 1 rfl rfl rfl rfl ?_
  refine v_cV (Y2 := Y_X8_requireDispute) (As := [.int p1]) (b := 0) (pc' := 5) (c1 := 0) (s1 := 0) 2 rfl rfl mf_X8_requireDispute rfl rfl ml_X8_268 mi_X8_requireDispute se_X8_requireDispute (ci := 7) rfl ly_0 (lay_lt ly_0 (by decide)) rfl (Nat.le_of_ble_eq_true rfl) ⟨Nat.le_of_ble_eq_true rfl, Nat.le_of_ble_eq_true rfl⟩ rfl rfl (ok_X8_requireDispute p1 I L b d hb hd h (fun _ q9 => hX _ _ _ q9)) ?_ ?_
  · intro e9 u9 hx9
    exact hx9.elim
  intro v9 u9 hv9
  obtain ⟨r885, rfl, rfl, h⟩ := hv9
  refine ⟨fun q => absurd q (Nat.lt_irrefl _), ?_⟩
  obtain ⟨hr886, h⟩ := h
  show V G Y_X8_judge 5 _ (.ref r885 :: _) _ _ _ _ _
  refine v_astore_n (ls' := [(2, .ref r885), (0, .ref 0), (1, .int p1)]) (pc' := 6) 3 rfl rfl rfl (by decide) rfl ?_
  refine v_aload_n (pc' := 7) 4 0 rfl rfl rfl rfl ?_
  refine v_getI (pc' := 10) 5 rfl rfl pf_X8_292 hr886 (lay_lt hr886 (by decide)) ?_
  refine v_if_eq (tgt := 16) (pc' := 13) 6 rfl rfl (by decide) (fun hc => ?_) (fun hc => ?_)
  · replace h := h.1 hc
    refine v_aload_n (pc' := 17) 9 1 rfl rfl rfl rfl ?_
    refine v_getR (t := b) (pc' := 20) 10 rfl rfl pf_X8_40 ly_0 (lay_lt ly_0 (by decide)) rt_0_5 ?_
    refine v_aload_n (pc' := 21) 11 0 rfl rfl rfl rfl ?_
    refine v_getI (pc' := 24) 12 rfl rfl pf_X8_272 hr886 (lay_lt hr886 (by decide)) ?_
    refine v_aload_n (pc' := 25) 13 0 rfl rfl rfl rfl ?_
    refine v_cV (Y2 := Y_X3_times) (As := []) (b := r885) (pc' := 28) (c1 := 0) (s1 := 0) 14 rfl rfl mf_X3_times rfl rfl ml_X8_329 mi_X3_times se_X3_times (ci := 2) rfl hr886 (lay_lt hr886 (by decide)) rfl (Nat.le_of_ble_eq_true rfl) ⟨Nat.le_of_ble_eq_true rfl, Nat.le_of_ble_eq_true rfl⟩ rfl rfl (ok_X3_times r885 I L hr886 h) ?_ ?_
    · intro e9 u9 hx9
      exact hx9.elim
    intro v9 u9 hv9
    obtain ⟨r887, rfl, rfl, h⟩ := hv9
    refine ⟨fun q => absurd q (Nat.lt_irrefl _), ?_⟩
    show V G Y_X8_judge 28 _ (.int r887 :: _) _ _ _ _ _
    refine v_aload_n (pc' := 29) 15 0 rfl rfl rfl rfl ?_
    refine v_getI (pc' := 32) 16 rfl rfl pf_X8_282 hr886 (lay_lt hr886 (by decide)) ?_
    refine v_cV (Y2 := Y_X0_cheapVerdict) (As := [.int (I r885 0), .int r887, .int (I r885 3)]) (b := b) (pc' := 35) (c1 := 0) (s1 := 0) 17 rfl rfl mf_X0_cheapVerdict rfl rfl ml_X8_265 mi_X0_cheapVerdict se_X0_cheapVerdict (ci := 0) rfl (bn0l hb) (lay_lt (bn0l hb) (by decide)) rfl (Nat.le_of_ble_eq_true rfl) ⟨Nat.le_of_ble_eq_true rfl, Nat.le_of_ble_eq_true rfl⟩ rfl rfl (ok_X0_cheapVerdict b (I r885 0) r887 (I r885 3) I L hb h) ?_ ?_
    · intro e9 u9 hx9
      exact hx9.elim
    intro v9 u9 hv9
    obtain ⟨r888, rfl, rfl, h⟩ := hv9
    refine ⟨fun q => absurd q (Nat.lt_irrefl _), ?_⟩
    show V G Y_X8_judge 35 _ (.int r888 :: _) _ _ _ _ _
    refine v_istore_n (ls' := [(3, .int r888), (2, .ref r885), (0, .ref 0), (1, .int p1)]) (pc' := 36) 18 rfl rfl rfl (by decide) rfl ?_
    refine v_aload_n (pc' := 37) 19 1 rfl rfl rfl rfl ?_
    refine v_iload_n (pc' := 38) 20 0 rfl rfl rfl rfl ?_
    refine v_cV (Y2 := Y_X3_loserBy) (As := [.int r888]) (b := r885) (pc' := 41) (c1 := 0) (s1 := 0) 21 rfl rfl mf_X3_loserBy rfl rfl ml_X8_298 mi_X3_loserBy se_X3_loserBy (ci := 2) rfl hr886 (lay_lt hr886 (by decide)) rfl (Nat.le_of_ble_eq_true rfl) ⟨Nat.le_of_ble_eq_true rfl, Nat.le_of_ble_eq_true rfl⟩ rfl rfl (ok_X3_loserBy r885 r888 I L hr886 h) ?_ ?_
    · intro e9 u9 hx9
      exact hx9.elim
    intro v9 u9 hv9
    obtain ⟨r889, rfl, rfl, h⟩ := hv9
    refine ⟨fun q => absurd q (Nat.lt_irrefl _), ?_⟩
    show V G Y_X8_judge 41 _ (.int r889 :: _) _ _ _ _ _
    refine v_istore (ls' := [(4, .int r889), (3, .int r888), (2, .ref r885), (0, .ref 0), (1, .int p1)]) (pc' := 43) 22 rfl rfl (by decide) rfl ?_
    refine v_aload_n (pc' := 44) 23 3 rfl rfl rfl rfl ?_
    refine v_getR (t := b) (pc' := 47) 24 rfl rfl pf_X8_40 ly_0 (lay_lt ly_0 (by decide)) rt_0_5 ?_
    refine v_getR (t := (b + 1)) (pc' := 50) 25 rfl rfl pf_X8_95 (bn0l hb) (lay_lt (bn0l hb) (by decide)) (rt_bn_0 hb) ?_
    refine v_getI (pc' := 53) 26 rfl rfl pf_X8_126 (bn1l hb) (lay_lt (bn1l hb) (by decide)) ?_
    refine v_istore (ls' := [(5, .int (I (b + 1) 8)), (4, .int r889), (3, .int r888), (2, .ref r885), (0, .ref 0), (1, .int p1)]) (pc' := 55) 27 rfl rfl (by decide) rfl ?_
    refine v_aload_n (pc' := 56) 28 4 rfl rfl rfl rfl ?_
    refine v_getR (t := b) (pc' := 59) 29 rfl rfl pf_X8_40 ly_0 (lay_lt ly_0 (by decide)) rt_0_5 ?_
    refine v_getR (t := (b + 6)) (pc' := 62) 30 rfl rfl pf_X8_114 (bn0l hb) (lay_lt (bn0l hb) (by decide)) (rt_bn_1 hb) ?_
    refine v_getR (t := (b + 15)) (pc' := 65) 31 rfl rfl pf_X8_132 (bn6l hb) (lay_lt (bn6l hb) (by decide)) (rt_st_5 (bn_st hb)) ?_
    refine v_iload (pc' := 67) 32 1 rfl rfl rfl ?_
    obtain ⟨hi890, h⟩ := h
    refine v_iald (i := r889) (j := r889.toNatClampNeg) (pc' := 68) 33 rfl rfl (bn15l hb) (bn15n hb) (lay_lt (bn15l hb) (by decide)) hi890 rfl ?_
    refine v_iload (pc' := 70) 34 0 rfl rfl rfl ?_
    refine v_icmp_ge (tgt := 76) (pc' := 73) 35 rfl rfl (by decide) (fun hc => ?_) (fun hc => ?_)
    · replace h := h.1 hc
      refine v_aload_n (pc' := 77) 38 4 rfl rfl rfl rfl ?_
      refine v_getR (t := 1) (pc' := 80) 39 rfl rfl pf_X8_10 ly_0 (lay_lt ly_0 (by decide)) rt_0_0 ?_
      refine v_aload_n (pc' := 81) 40 4 rfl rfl rfl rfl ?_
      refine v_getR (t := b) (pc' := 84) 41 rfl rfl pf_X8_40 ly_0 (lay_lt ly_0 (by decide)) rt_0_5 ?_
      refine v_getR (t := (b + 6)) (pc' := 87) 42 rfl rfl pf_X8_114 (bn0l hb) (lay_lt (bn0l hb) (by decide)) (rt_bn_1 hb) ?_
      refine v_cV (Y2 := Y_X4_record) (As := [.ref (b + 6)]) (b := 1) (pc' := 90) (c1 := 0) (s1 := 0) 43 rfl rfl mf_X4_record rfl rfl ml_X8_321 mi_X4_record se_X4_record (ci := 3) rfl ly_1 (lay_lt ly_1 (by decide)) rfl (Nat.le_of_ble_eq_true rfl) ⟨Nat.le_of_ble_eq_true rfl, Nat.le_of_ble_eq_true rfl⟩ rfl rfl (ok_X4_record (b + 6) I L (bn_st hb) h) ?_ ?_
      · intro e9 u9 hx9
        exact hx9.elim
      intro v9 u9 hv9
      obtain ⟨I891, L892, rfl, rfl, h⟩ := hv9
      refine ⟨fun q => absurd q (Nat.lt_irrefl _), ?_⟩
      show V G Y_X8_judge 90 _ _ _ _ _ _ _
      refine v_aload_n (pc' := 91) 44 4 rfl rfl rfl rfl ?_
      refine v_getR (t := b) (pc' := 94) 45 rfl rfl pf_X8_40 ly_0 (lay_lt ly_0 (by decide)) rt_0_5 ?_
      refine v_getR (t := (b + 6)) (pc' := 97) 46 rfl rfl pf_X8_114 (bn0l hb) (lay_lt (bn0l hb) (by decide)) (rt_bn_1 hb) ?_
      refine v_iload (pc' := 99) 47 1 rfl rfl rfl ?_
      refine v_iload (pc' := 101) 48 0 rfl rfl rfl ?_
      refine v_cV (Y2 := Y_X6_payCourt) (As := [.int r889, .int (I (b + 1) 8)]) (b := (b + 6)) (pc' := 104) (c1 := 0) (s1 := 0) 49 rfl rfl mf_X6_payCourt rfl rfl ml_X8_331 mi_X6_payCourt se_X6_payCourt (ci := 5) rfl (bn6l hb) (lay_lt (bn6l hb) (by decide)) rfl (Nat.le_of_ble_eq_true rfl) ⟨Nat.le_of_ble_eq_true rfl, Nat.le_of_ble_eq_true rfl⟩ rfl rfl (ok_X6_payCourt (b + 6) r889 (I (b + 1) 8) I891 L892 (bn_st hb) h) ?_ ?_
      · intro e9 u9 hx9
        exact hx9.elim
      intro v9 u9 hv9
      obtain ⟨I893, rfl, rfl, h⟩ := hv9
      refine ⟨fun q => absurd q (Nat.lt_irrefl _), ?_⟩
      show V G Y_X8_judge 104 _ _ _ _ _ _ _
      refine v_aload_n (pc' := 105) 50 3 rfl rfl rfl rfl ?_
      refine v_iload_n (pc' := 106) 51 2 rfl rfl rfl rfl ?_
      refine v_putI (pc' := 109) 52 rfl rfl pf_X8_295 (fun q => absurd q (by decide)) hr886 (lay_lt hr886 (by decide)) ?_
      refine v_aload_n (pc' := 110) 53 3 rfl rfl rfl rfl ?_
      refine v_iconst (v := 1) (pc' := 111) 54 rfl rfl (by decide) ?_
      refine v_putI (pc' := 114) 55 rfl rfl pf_X8_292 (fun q => absurd q (by decide)) hr886 (lay_lt hr886 (by decide)) ?_
      refine v_iload_n (pc' := 115) 56 2 rfl rfl rfl rfl ?_
      exact v_iret 57 rfl rfl (by decide) (by decide) ⟨_, _, _, rfl, rfl, h⟩
    replace h := h.2 hc
    refine v_bipush (v := -3) (pc' := 75) 36 rfl rfl (by decide) ?_
    exact v_iret 37 rfl rfl (by decide) (by decide) ⟨_, _, _, rfl, rfl, h⟩
  replace h := h.2 hc
  refine v_bipush (v := -2) (pc' := 15) 7 rfl rfl (by decide) ?_
  exact v_iret 8 rfl rfl (by decide) (by decide) ⟨_, _, _, rfl, rfl, h⟩
set_option maxHeartbeats 4000000 in
set_option maxRecDepth 100000 in
theorem ok_X8_appeal {G : GT} {t : Nat} (p1 : Int32) (I : TI) (L : TL) (b : Nat) (d : Nat) (hb : bnOK b) (hd : bnOK d) {Q : Int32 → TI → TL → Prop} {QX : String → TI → TL → Prop} (h : W_X8_appeal p1 I L b d Q QX) (hX : ∀ (e9 : String) (I9 : TI) (L9 : TL), QX e9 I9 L9 → False) : MW G Y_X8_appeal [.ref 0, .int p1] (I, L, RT b d t, 457) (fun v9 u9 => ∃ (r9 : Int32) (I9 : TI) (L9 : TL), v9 = some (.int r9) ∧ u9 = (I9, L9, RT b d t, 457) ∧ Q r9 I9 L9) (fun _ _ => False) := by
  unfold W_X8_appeal at h
  refine MW.intro rfl (by decide) is_X8_appeal (Nat.le_of_ble_eq_true rfl) ?_
  show V G Y_X8_appeal 0 [(0, .ref 0), (1, .int p1)] [] (I, L, RT b d t, 457) 0 0 _ _
  refine v_aload_n (pc' := 1) 0 0 rfl rfl rfl rfl ?_
  refine v_iload_n (pc' := 2) 1 1 rfl rfl rfl rfl ?_
  refine v_cV (Y2 := Y_X8_requireDispute) (As := [.int p1]) (b := 0) (pc' := 5) (c1 := 0) (s1 := 0) 2 rfl rfl mf_X8_requireDispute rfl rfl ml_X8_268 mi_X8_requireDispute se_X8_requireDispute (ci := 7) rfl ly_0 (lay_lt ly_0 (by decide)) rfl (Nat.le_of_ble_eq_true rfl) ⟨Nat.le_of_ble_eq_true rfl, Nat.le_of_ble_eq_true rfl⟩ rfl rfl (ok_X8_requireDispute p1 I L b d hb hd h (fun _ q9 => hX _ _ _ q9)) ?_ ?_
  · intro e9 u9 hx9
    exact hx9.elim
  intro v9 u9 hv9
  obtain ⟨r908, rfl, rfl, h⟩ := hv9
  refine ⟨fun q => absurd q (Nat.lt_irrefl _), ?_⟩
  obtain ⟨hr909, h⟩ := h
  show V G Y_X8_appeal 5 _ (.ref r908 :: _) _ _ _ _ _
  refine v_astore_n (ls' := [(2, .ref r908), (0, .ref 0), (1, .int p1)]) (pc' := 6) 3 rfl rfl rfl (by decide) rfl ?_
  refine v_aload_n (pc' := 7) 4 0 rfl rfl rfl rfl ?_
  refine v_getI (pc' := 10) 5 rfl rfl pf_X8_292 hr909 (lay_lt hr909 (by decide)) ?_
  refine v_iconst (v := 1) (pc' := 11) 6 rfl rfl (by decide) ?_
  refine v_icmp_eq (tgt := 17) (pc' := 14) 7 rfl rfl (by decide) (fun hc => ?_) (fun hc => ?_)
  · replace h := h.1 hc
    refine v_aload_n (pc' := 18) 10 1 rfl rfl rfl rfl ?_
    refine v_getR (t := b) (pc' := 21) 11 rfl rfl pf_X8_40 ly_0 (lay_lt ly_0 (by decide)) rt_0_5 ?_
    refine v_aload_n (pc' := 22) 12 0 rfl rfl rfl rfl ?_
    refine v_getI (pc' := 25) 13 rfl rfl pf_X8_272 hr909 (lay_lt hr909 (by decide)) ?_
    refine v_aload_n (pc' := 26) 14 0 rfl rfl rfl rfl ?_
    refine v_getI (pc' := 29) 15 rfl rfl pf_X8_276 hr909 (lay_lt hr909 (by decide)) ?_
    refine v_aload_n (pc' := 30) 16 0 rfl rfl rfl rfl ?_
    refine v_getI (pc' := 33) 17 rfl rfl pf_X8_279 hr909 (lay_lt hr909 (by decide)) ?_
    refine v_cV (Y2 := Y_X0_price) (As := [.int (I r908 0), .int (I r908 1), .int (I r908 2)]) (b := b) (pc' := 36) (c1 := 0) (s1 := 0) 18 rfl rfl mf_X0_price rfl rfl ml_X8_261 mi_X0_price se_X0_price (ci := 0) rfl (bn0l hb) (lay_lt (bn0l hb) (by decide)) rfl (Nat.le_of_ble_eq_true rfl) ⟨Nat.le_of_ble_eq_true rfl, Nat.le_of_ble_eq_true rfl⟩ rfl rfl (ok_X0_price b (I r908 0) (I r908 1) (I r908 2) I L hb h) ?_ ?_
    · intro e9 u9 hx9
      exact hx9.elim
    intro v9 u9 hv9
    obtain ⟨r910, rfl, rfl, h⟩ := hv9
    refine ⟨fun q => absurd q (Nat.lt_irrefl _), ?_⟩
    show V G Y_X8_appeal 36 _ (.int r910 :: _) _ _ _ _ _
    refine v_istore_n (ls' := [(3, .int r910), (2, .ref r908), (0, .ref 0), (1, .int p1)]) (pc' := 37) 19 rfl rfl rfl (by decide) rfl ?_
    refine v_aload_n (pc' := 38) 20 2 rfl rfl rfl rfl ?_
    refine v_getR (t := b) (pc' := 41) 21 rfl rfl pf_X8_40 ly_0 (lay_lt ly_0 (by decide)) rt_0_5 ?_
    refine v_getR (t := (b + 6)) (pc' := 44) 22 rfl rfl pf_X8_114 (bn0l hb) (lay_lt (bn0l hb) (by decide)) (rt_bn_1 hb) ?_
    refine v_getR (t := (b + 15)) (pc' := 47) 23 rfl rfl pf_X8_132 (bn6l hb) (lay_lt (bn6l hb) (by decide)) (rt_st_5 (bn_st hb)) ?_
    refine v_aload_n (pc' := 48) 24 1 rfl rfl rfl rfl ?_
    refine v_aload_n (pc' := 49) 25 1 rfl rfl rfl rfl ?_
    refine v_getI (pc' := 52) 26 rfl rfl pf_X8_295 hr909 (lay_lt hr909 (by decide)) ?_
    refine v_cV (Y2 := Y_X3_loserBy) (As := [.int (I r908 7)]) (b := r908) (pc' := 55) (c1 := 0) (s1 := 0) 27 rfl rfl mf_X3_loserBy rfl rfl ml_X8_298 mi_X3_loserBy se_X3_loserBy (ci := 2) rfl hr909 (lay_lt hr909 (by decide)) rfl (Nat.le_of_ble_eq_true rfl) ⟨Nat.le_of_ble_eq_true rfl, Nat.le_of_ble_eq_true rfl⟩ rfl rfl (ok_X3_loserBy r908 (I r908 7) I L hr909 h) ?_ ?_
    · intro e9 u9 hx9
      exact hx9.elim
    intro v9 u9 hv9
    obtain ⟨r911, rfl, rfl, h⟩ := hv9
    refine ⟨fun q => absurd q (Nat.lt_irrefl _), ?_⟩
    show V G Y_X8_appeal 55 _ (.int r911 :: _) _ _ _ _ _
    obtain ⟨hi912, h⟩ := h
    refine v_iald (i := r911) (j := r911.toNatClampNeg) (pc' := 56) 28 rfl rfl (bn15l hb) (bn15n hb) (lay_lt (bn15l hb) (by decide)) hi912 rfl ?_
    refine v_iload_n (pc' := 57) 29 0 rfl rfl rfl rfl ?_
    refine v_icmp_ge (tgt := 63) (pc' := 60) 30 rfl rfl (by decide) (fun hc => ?_) (fun hc => ?_)
    · replace h := h.1 hc
      refine v_aload_n (pc' := 64) 33 2 rfl rfl rfl rfl ?_
      refine v_getR (t := 1) (pc' := 67) 34 rfl rfl pf_X8_10 ly_0 (lay_lt ly_0 (by decide)) rt_0_0 ?_
      refine v_aload_n (pc' := 68) 35 2 rfl rfl rfl rfl ?_
      refine v_getR (t := b) (pc' := 71) 36 rfl rfl pf_X8_40 ly_0 (lay_lt ly_0 (by decide)) rt_0_5 ?_
      refine v_getR (t := (b + 6)) (pc' := 74) 37 rfl rfl pf_X8_114 (bn0l hb) (lay_lt (bn0l hb) (by decide)) (rt_bn_1 hb) ?_
      refine v_cV (Y2 := Y_X4_record) (As := [.ref (b + 6)]) (b := 1) (pc' := 77) (c1 := 0) (s1 := 0) 38 rfl rfl mf_X4_record rfl rfl ml_X8_321 mi_X4_record se_X4_record (ci := 3) rfl ly_1 (lay_lt ly_1 (by decide)) rfl (Nat.le_of_ble_eq_true rfl) ⟨Nat.le_of_ble_eq_true rfl, Nat.le_of_ble_eq_true rfl⟩ rfl rfl (ok_X4_record (b + 6) I L (bn_st hb) h) ?_ ?_
      · intro e9 u9 hx9
        exact hx9.elim
      intro v9 u9 hv9
      obtain ⟨I913, L914, rfl, rfl, h⟩ := hv9
      refine ⟨fun q => absurd q (Nat.lt_irrefl _), ?_⟩
      show V G Y_X8_appeal 77 _ _ _ _ _ _ _
      refine v_aload_n (pc' := 78) 39 1 rfl rfl rfl rfl ?_
      refine v_aload_n (pc' := 79) 40 2 rfl rfl rfl rfl ?_
      refine v_getR (t := b) (pc' := 82) 41 rfl rfl pf_X8_40 ly_0 (lay_lt ly_0 (by decide)) rt_0_5 ?_
      refine v_aload_n (pc' := 83) 42 1 rfl rfl rfl rfl ?_
      refine v_cV (Y2 := Y_X0_dearVerdict) (As := [.ref r908]) (b := b) (pc' := 86) (c1 := 0) (s1 := 0) 43 rfl rfl mf_X0_dearVerdict rfl rfl ml_X8_309 mi_X0_dearVerdict se_X0_dearVerdict (ci := 0) rfl (bn0l hb) (lay_lt (bn0l hb) (by decide)) rfl (Nat.le_of_ble_eq_true rfl) ⟨Nat.le_of_ble_eq_true rfl, Nat.le_of_ble_eq_true rfl⟩ rfl rfl (ok_X0_dearVerdict b r908 I913 L914 hb hr909 h) ?_ ?_
      · intro e9 u9 hx9
        exact hx9.elim
      intro v9 u9 hv9
      obtain ⟨r915, rfl, rfl, h⟩ := hv9
      refine ⟨fun q => absurd q (Nat.lt_irrefl _), ?_⟩
      show V G Y_X8_appeal 86 _ (.int r915 :: _) _ _ _ _ _
      refine v_putI (pc' := 89) 44 rfl rfl pf_X8_295 (fun q => absurd q (by decide)) hr909 (lay_lt hr909 (by decide)) ?_
      refine v_aload_n (pc' := 90) 45 1 rfl rfl rfl rfl ?_
      refine v_iconst (v := 2) (pc' := 91) 46 rfl rfl (by decide) ?_
      refine v_putI (pc' := 94) 47 rfl rfl pf_X8_292 (fun q => absurd q (by decide)) hr909 (lay_lt hr909 (by decide)) ?_
      refine v_aload_n (pc' := 95) 48 1 rfl rfl rfl rfl ?_
      refine v_aload_n (pc' := 96) 49 1 rfl rfl rfl rfl ?_
      refine v_getI (pc' := 99) 50 rfl rfl pf_X8_295 hr909 (lay_lt hr909 (by decide)) ?_
      refine v_cV (Y2 := Y_X3_loserBy) (As := [.int ((up2 (up2 I913 r908 7 r915) r908 6 2) r908 7)]) (b := r908) (pc' := 102) (c1 := 0) (s1 := 0) 51 rfl rfl mf_X3_loserBy rfl rfl ml_X8_298 mi_X3_loserBy se_X3_loserBy (ci := 2) rfl hr909 (lay_lt hr909 (by decide)) rfl (Nat.le_of_ble_eq_true rfl) ⟨Nat.le_of_ble_eq_true rfl, Nat.le_of_ble_eq_true rfl⟩ rfl rfl (ok_X3_loserBy r908 ((up2 (up2 I913 r908 7 r915) r908 6 2) r908 7) (up2 (up2 I913 r908 7 r915) r908 6 2) L914 hr909 h) ?_ ?_
      · intro e9 u9 hx9
        exact hx9.elim
      intro v9 u9 hv9
      obtain ⟨r916, rfl, rfl, h⟩ := hv9
      refine ⟨fun q => absurd q (Nat.lt_irrefl _), ?_⟩
      show V G Y_X8_appeal 102 _ (.int r916 :: _) _ _ _ _ _
      refine v_istore (ls' := [(4, .int r916), (3, .int r910), (2, .ref r908), (0, .ref 0), (1, .int p1)]) (pc' := 104) 52 rfl rfl (by decide) rfl ?_
      refine v_aload_n (pc' := 105) 53 3 rfl rfl rfl rfl ?_
      refine v_getR (t := b) (pc' := 108) 54 rfl rfl pf_X8_40 ly_0 (lay_lt ly_0 (by decide)) rt_0_5 ?_
      refine v_getR (t := (b + 6)) (pc' := 111) 55 rfl rfl pf_X8_114 (bn0l hb) (lay_lt (bn0l hb) (by decide)) (rt_bn_1 hb) ?_
      refine v_iload (pc' := 113) 56 0 rfl rfl rfl ?_
      refine v_iload_n (pc' := 114) 57 1 rfl rfl rfl rfl ?_
      refine v_aload_n (pc' := 115) 58 3 rfl rfl rfl rfl ?_
      refine v_getR (t := b) (pc' := 118) 59 rfl rfl pf_X8_40 ly_0 (lay_lt ly_0 (by decide)) rt_0_5 ?_
      refine v_getR (t := (b + 6)) (pc' := 121) 60 rfl rfl pf_X8_114 (bn0l hb) (lay_lt (bn0l hb) (by decide)) (rt_bn_1 hb) ?_
      refine v_getR (t := (b + 15)) (pc' := 124) 61 rfl rfl pf_X8_132 (bn6l hb) (lay_lt (bn6l hb) (by decide)) (rt_st_5 (bn_st hb)) ?_
      refine v_iload (pc' := 126) 62 0 rfl rfl rfl ?_
      obtain ⟨hi917, h⟩ := h
      refine v_iald (i := r916) (j := r916.toNatClampNeg) (pc' := 127) 63 rfl rfl (bn15l hb) (bn15n hb) (lay_lt (bn15l hb) (by decide)) hi917 rfl ?_
      refine v_mmin (pc' := 130) 64 rfl rfl mm_X8_334 (Nat.le_of_ble_eq_true rfl) (by decide) (by decide) ⟨Nat.le_of_ble_eq_true rfl, Nat.le_of_ble_eq_true rfl⟩ ?_
      refine v_cV (Y2 := Y_X6_payCourt) (As := [.int r916, .int (mnI r910 ((up2 (up2 I913 r908 7 r915) r908 6 2) (b + 15) (r916.toNatClampNeg)))]) (b := (b + 6)) (pc' := 133) (c1 := 0) (s1 := 0) 65 rfl rfl mf_X6_payCourt rfl rfl ml_X8_331 mi_X6_payCourt se_X6_payCourt (ci := 5) rfl (bn6l hb) (lay_lt (bn6l hb) (by decide)) rfl (Nat.le_of_ble_eq_true rfl) ⟨Nat.le_of_ble_eq_true rfl, Nat.le_of_ble_eq_true rfl⟩ rfl rfl (ok_X6_payCourt (b + 6) r916 (mnI r910 ((up2 (up2 I913 r908 7 r915) r908 6 2) (b + 15) (r916.toNatClampNeg))) (up2 (up2 I913 r908 7 r915) r908 6 2) L914 (bn_st hb) h) ?_ ?_
      · intro e9 u9 hx9
        exact hx9.elim
      intro v9 u9 hv9
      obtain ⟨I918, rfl, rfl, h⟩ := hv9
      refine ⟨fun q => absurd q (Nat.lt_irrefl _), ?_⟩
      show V G Y_X8_appeal 133 _ _ _ _ _ _ _
      refine v_aload_n (pc' := 134) 66 3 rfl rfl rfl rfl ?_
      refine v_getR (t := b) (pc' := 137) 67 rfl rfl pf_X8_40 ly_0 (lay_lt ly_0 (by decide)) rt_0_5 ?_
      refine v_aload_n (pc' := 138) 68 2 rfl rfl rfl rfl ?_
      refine v_getI (pc' := 141) 69 rfl rfl pf_X8_272 hr909 (lay_lt hr909 (by decide)) ?_
      refine v_aload_n (pc' := 142) 70 2 rfl rfl rfl rfl ?_
      refine v_getI (pc' := 145) 71 rfl rfl pf_X8_276 hr909 (lay_lt hr909 (by decide)) ?_
      refine v_aload_n (pc' := 146) 72 2 rfl rfl rfl rfl ?_
      refine v_getI (pc' := 149) 73 rfl rfl pf_X8_279 hr909 (lay_lt hr909 (by decide)) ?_
      refine v_cV (Y2 := Y_X0_settle) (As := [.int (I918 r908 0), .int (I918 r908 1), .int (I918 r908 2)]) (b := b) (pc' := 152) (c1 := 0) (s1 := 0) 74 rfl rfl mf_X0_settle rfl rfl ml_X8_339 mi_X0_settle se_X0_settle (ci := 0) rfl (bn0l hb) (lay_lt (bn0l hb) (by decide)) rfl (Nat.le_of_ble_eq_true rfl) ⟨Nat.le_of_ble_eq_true rfl, Nat.le_of_ble_eq_true rfl⟩ rfl rfl (ok_X0_settle b (I918 r908 0) (I918 r908 1) (I918 r908 2) I918 L914 hb h) ?_ ?_
      · intro e9 u9 hx9
        exact hx9.elim
      intro v9 u9 hv9
      obtain ⟨r919, I920, L921, rfl, rfl, h⟩ := hv9
      refine ⟨fun q => absurd q (Nat.lt_irrefl _), ?_⟩
      show V G Y_X8_appeal 152 _ (.int r919 :: _) _ _ _ _ _
      refine v_pop (pc' := 153) 75 rfl rfl rfl ?_
      refine v_aload_n (pc' := 154) 76 2 rfl rfl rfl rfl ?_
      refine v_getI (pc' := 157) 77 rfl rfl pf_X8_295 hr909 (lay_lt hr909 (by decide)) ?_
      exact v_iret 78 rfl rfl (by decide) (by decide) ⟨_, _, _, rfl, rfl, h⟩
    replace h := h.2 hc
    refine v_bipush (v := -3) (pc' := 62) 31 rfl rfl (by decide) ?_
    exact v_iret 32 rfl rfl (by decide) (by decide) ⟨_, _, _, rfl, rfl, h⟩
  replace h := h.2 hc
  refine v_bipush (v := -2) (pc' := 16) 8 rfl rfl (by decide) ?_
  exact v_iret 9 rfl rfl (by decide) (by decide) ⟨_, _, _, rfl, rfl, h⟩
set_option maxHeartbeats 4000000 in
set_option maxRecDepth 100000 in
theorem ok_X8_accept {G : GT} {t : Nat} (p1 : Int32) (I : TI) (L : TL) (b : Nat) (d : Nat) (hb : bnOK b) (hd : bnOK d) {Q : Int32 → TI → TL → Prop} {QX : String → TI → TL → Prop} (h : W_X8_accept p1 I L b d Q QX) (hX : ∀ (e9 : String) (I9 : TI) (L9 : TL), QX e9 I9 L9 → False) : MW G Y_X8_accept [.ref 0, .int p1] (I, L, RT b d t, 457) (fun v9 u9 => ∃ (r9 : Int32) (I9 : TI) (L9 : TL), v9 = some (.int r9) ∧ u9 = (I9, L9, RT b d t, 457) ∧ Q r9 I9 L9) (fun _ _ => False) := by
  unfold W_X8_accept at h
  refine MW.intro rfl (by decide) is_X8_accept (Nat.le_of_ble_eq_true rfl) ?_
  show V G Y_X8_accept 0 [(0, .ref 0), (1, .int p1)] [] (I, L, RT b d t, 457) 0 0 _ _
  refine v_aload_n (pc' := 1) 0 0 rfl rfl rfl rfl ?_
  refine v_iload_n (pc' := 2) 1 1 rfl rfl rfl rfl ?_
  refine v_cV (Y2 := Y_X8_requireDispute) (As := [.int p1]) (b := 0) (pc' := 5) (c1 := 0) (s1 := 0) 2 rfl rfl mf_X8_requireDispute rfl rfl ml_X8_268 mi_X8_requireDispute se_X8_requireDispute (ci := 7) rfl ly_0 (lay_lt ly_0 (by decide)) rfl (Nat.le_of_ble_eq_true rfl) ⟨Nat.le_of_ble_eq_true rfl, Nat.le_of_ble_eq_true rfl⟩ rfl rfl (ok_X8_requireDispute p1 I L b d hb hd h (fun _ q9 => hX _ _ _ q9)) ?_ ?_
  · intro e9 u9 hx9
    exact hx9.elim
  intro v9 u9 hv9
  obtain ⟨r929, rfl, rfl, h⟩ := hv9
  refine ⟨fun q => absurd q (Nat.lt_irrefl _), ?_⟩
  obtain ⟨hr930, h⟩ := h
  show V G Y_X8_accept 5 _ (.ref r929 :: _) _ _ _ _ _
  refine v_astore_n (ls' := [(2, .ref r929), (0, .ref 0), (1, .int p1)]) (pc' := 6) 3 rfl rfl rfl (by decide) rfl ?_
  refine v_aload_n (pc' := 7) 4 0 rfl rfl rfl rfl ?_
  refine v_getI (pc' := 10) 5 rfl rfl pf_X8_292 hr930 (lay_lt hr930 (by decide)) ?_
  refine v_iconst (v := 1) (pc' := 11) 6 rfl rfl (by decide) ?_
  refine v_icmp_eq (tgt := 17) (pc' := 14) 7 rfl rfl (by decide) (fun hc => ?_) (fun hc => ?_)
  · replace h := h.1 hc
    refine v_aload_n (pc' := 18) 10 1 rfl rfl rfl rfl ?_
    refine v_getR (t := 1) (pc' := 21) 11 rfl rfl pf_X8_10 ly_0 (lay_lt ly_0 (by decide)) rt_0_0 ?_
    refine v_aload_n (pc' := 22) 12 1 rfl rfl rfl rfl ?_
    refine v_getR (t := b) (pc' := 25) 13 rfl rfl pf_X8_40 ly_0 (lay_lt ly_0 (by decide)) rt_0_5 ?_
    refine v_getR (t := (b + 6)) (pc' := 28) 14 rfl rfl pf_X8_114 (bn0l hb) (lay_lt (bn0l hb) (by decide)) (rt_bn_1 hb) ?_
    refine v_cV (Y2 := Y_X4_record) (As := [.ref (b + 6)]) (b := 1) (pc' := 31) (c1 := 0) (s1 := 0) 15 rfl rfl mf_X4_record rfl rfl ml_X8_321 mi_X4_record se_X4_record (ci := 3) rfl ly_1 (lay_lt ly_1 (by decide)) rfl (Nat.le_of_ble_eq_true rfl) ⟨Nat.le_of_ble_eq_true rfl, Nat.le_of_ble_eq_true rfl⟩ rfl rfl (ok_X4_record (b + 6) I L (bn_st hb) h) ?_ ?_
    · intro e9 u9 hx9
      exact hx9.elim
    intro v9 u9 hv9
    obtain ⟨I931, L932, rfl, rfl, h⟩ := hv9
    refine ⟨fun q => absurd q (Nat.lt_irrefl _), ?_⟩
    show V G Y_X8_accept 31 _ _ _ _ _ _ _
    refine v_aload_n (pc' := 32) 16 0 rfl rfl rfl rfl ?_
    refine v_iconst (v := 3) (pc' := 33) 17 rfl rfl (by decide) ?_
    refine v_putI (pc' := 36) 18 rfl rfl pf_X8_292 (fun q => absurd q (by decide)) hr930 (lay_lt hr930 (by decide)) ?_
    refine v_aload_n (pc' := 37) 19 1 rfl rfl rfl rfl ?_
    refine v_getR (t := b) (pc' := 40) 20 rfl rfl pf_X8_40 ly_0 (lay_lt ly_0 (by decide)) rt_0_5 ?_
    refine v_aload_n (pc' := 41) 21 0 rfl rfl rfl rfl ?_
    refine v_cV (Y2 := Y_X0_rule) (As := [.ref r929]) (b := b) (pc' := 44) (c1 := 0) (s1 := 0) 22 rfl rfl mf_X0_rule rfl rfl ml_X8_342 mi_X0_rule se_X0_rule (ci := 0) rfl (bn0l hb) (lay_lt (bn0l hb) (by decide)) rfl (Nat.le_of_ble_eq_true rfl) ⟨Nat.le_of_ble_eq_true rfl, Nat.le_of_ble_eq_true rfl⟩ rfl rfl (ok_X0_rule b r929 (up2 I931 r929 6 3) L932 hb hr930 h) ?_ ?_
    · intro e9 u9 hx9
      exact hx9.elim
    intro v9 u9 hv9
    obtain ⟨r933, I934, L935, rfl, rfl, h⟩ := hv9
    refine ⟨fun q => absurd q (Nat.lt_irrefl _), ?_⟩
    show V G Y_X8_accept 44 _ (.int r933 :: _) _ _ _ _ _
    exact v_iret 23 rfl rfl (by decide) (by decide) ⟨_, _, _, rfl, rfl, h⟩
  replace h := h.2 hc
  refine v_bipush (v := -2) (pc' := 16) 8 rfl rfl (by decide) ?_
  exact v_iret 9 rfl rfl (by decide) (by decide) ⟨_, _, _, rfl, rfl, h⟩
