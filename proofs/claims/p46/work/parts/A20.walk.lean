set_option maxHeartbeats 4000000 in
set_option maxRecDepth 100000 in
theorem d_J7_fill_53178_5 {G : GT} {b d t : Nat} (p0 : Nat) (v1 : Int32) (v3 : Int32) (L : TL) (hp0 : LAY p0 = 20) (Q : TI → Prop) (R5 : Int32 → TI → Prop)  (hR5 : ∀ (v2 : Int32) (I : TI), R5 v2 I → V G Y_J7_fill_53178 5 [(0, .ref p0), (1, .int v1), (2, .int v2), (3, .int v3)] [] (I, L, RT b d t, 457) 0 0 (fun v9 u9 => ∃ (I9 : TI), v9 = none ∧ u9 = (I9, L, RT b d t, 457) ∧ Q I9) (fun _ _ => False)) (v2 : Int32) (I : TI)  (h : D_J7_fill_53178_5 p0 v1 v3 L Q R5 v2 I) : V G Y_J7_fill_53178 5 [(0, .ref p0), (1, .int v1), (2, .int v2), (3, .int v3)] [] (I, L, RT b d t, 457) 0 0 (fun v9 u9 => ∃ (I9 : TI), v9 = none ∧ u9 = (I9, L, RT b d t, 457) ∧ Q I9) (fun _ _ => False) := by
  unfold D_J7_fill_53178_5 at h
  refine v_iload_n (pc' := 6) 5 2 rfl rfl rfl rfl ?_
  refine v_iload_n (pc' := 7) 6 3 rfl rfl rfl rfl ?_
  refine v_icmp_ge (tgt := 20) (pc' := 10) 7 rfl rfl (by decide) (fun hc => ?_) (fun hc => ?_)
  · replace h := h.1 hc
    exact v_vret 14 rfl rfl (by decide) (by decide) ⟨_, rfl, rfl, h⟩
  replace h := h.2 hc
  refine v_aload_n (pc' := 11) 8 0 rfl rfl rfl rfl ?_
  refine v_iload_n (pc' := 12) 9 2 rfl rfl rfl rfl ?_
  refine v_iload_n (pc' := 13) 10 1 rfl rfl rfl rfl ?_
  obtain ⟨hi3, h⟩ := h
  refine v_iast (i := v2) (j := v2.toNatClampNeg) (pc' := 14) 11 rfl rfl hp0 rfl (lay_lt hp0 (by decide)) hi3 rfl ?_
  refine v_iinc (v := (v2 + 1)) (ls' := [(2, .int (v2 + 1)), (0, .ref p0), (1, .int v1), (3, .int v3)]) (pc' := 17) 12 2 rfl rfl rfl rfl (by decide) rfl ?_
  refine v_goto (tgt := 5) 13 rfl (by decide) ?_
  refine V.sub [1, 2, 0, 3] rfl ?_
  exact hR5 (v2 + 1) (up2 I p0 (v2.toNatClampNeg) v1) h
theorem l_J7_fill_53178_5 {G : GT} {b d t : Nat} (p0 : Nat) (v1 : Int32) (v3 : Int32) (L : TL) (hp0 : LAY p0 = 20) (Q : TI → Prop)  : ∀ (n9 : Nat) (v2 : Int32) (I : TI), L_J7_fill_53178_5 p0 v1 v3 L Q n9 v2 I → V G Y_J7_fill_53178 5 [(0, .ref p0), (1, .int v1), (2, .int v2), (3, .int v3)] [] (I, L, RT b d t, 457) 0 0 (fun v9 u9 => ∃ (I9 : TI), v9 = none ∧ u9 = (I9, L, RT b d t, 457) ∧ Q I9) (fun _ _ => False)
  | 0, _, _, h => h.elim
  | n9 + 1, v2, I, h => d_J7_fill_53178_5 p0 v1 v3 L hp0 Q _ (l_J7_fill_53178_5 p0 v1 v3 L hp0 Q n9) v2 I h
set_option maxHeartbeats 4000000 in
set_option maxRecDepth 100000 in
theorem ok_J7_fill_53178 {G : GT} {b d t : Nat} (p0 : Nat) (p1 : Int32) (I : TI) (L : TL) (hp0 : LAY p0 = 20) {Q : TI → Prop} (h : W_J7_fill_53178 p0 p1 I L Q) : MW G Y_J7_fill_53178 [.ref p0, .int p1] (I, L, RT b d t, 457) (fun v9 u9 => ∃ (I9 : TI), v9 = none ∧ u9 = (I9, L, RT b d t, 457) ∧ Q I9) (fun _ _ => False) := by
  unfold W_J7_fill_53178 at h
  refine MW.intro rfl (by decide) is_J7_fill_53178 (Nat.le_of_ble_eq_true rfl) ?_
  show V G Y_J7_fill_53178 0 [(0, .ref p0), (1, .int p1)] [] (I, L, RT b d t, 457) 0 0 _ _
  refine v_iconst (v := 0) (pc' := 1) 0 rfl rfl (by decide) ?_
  refine v_istore_n (ls' := [(2, .int 0), (0, .ref p0), (1, .int p1)]) (pc' := 2) 1 rfl rfl rfl (by decide) rfl ?_
  refine v_aload_n (pc' := 3) 2 1 rfl rfl rfl rfl ?_
  refine v_alen (t := 0) (pc' := 4) 3 rfl rfl hp0 (by decide) rfl (lay_lt hp0 (by decide)) ?_
  refine v_istore_n (ls' := [(3, .int (nI (LEN p0))), (2, .int 0), (0, .ref p0), (1, .int p1)]) (pc' := 5) 4 rfl rfl rfl (by decide) rfl ?_
  refine V.sub [2, 3, 1, 0] rfl ?_
  obtain ⟨n4, h⟩ := h
  exact l_J7_fill_53178_5 p0 p1 (nI (LEN p0)) L hp0 Q n4 (0 : Int32) I h
set_option maxHeartbeats 4000000 in
set_option maxRecDepth 100000 in
theorem ok_X2_clear {G : GT} {b d t : Nat} (p0 : Nat) (I : TI) (L : TL) (hp0 : ckOK p0) {Q : TI → Prop} (h : W_X2_clear p0 I L Q) : MW G Y_X2_clear [.ref p0] (I, L, RT b d t, 457) (fun v9 u9 => ∃ (I9 : TI), v9 = none ∧ u9 = (I9, L, RT b d t, 457) ∧ Q I9) (fun _ _ => False) := by
  unfold W_X2_clear at h
  refine MW.intro rfl (by decide) is_X2_clear (Nat.le_of_ble_eq_true rfl) ?_
  show V G Y_X2_clear 0 [(0, .ref p0)] [] (I, L, RT b d t, 457) 0 0 _ _
  refine v_aload_n (pc' := 1) 0 0 rfl rfl rfl rfl ?_
  refine v_iconst (v := 0) (pc' := 2) 1 rfl rfl (by decide) ?_
  refine v_putI (pc' := 5) 2 rfl rfl pf_X2_24 (fun q => absurd q (by decide)) (ck0l hp0) (lay_lt (ck0l hp0) (by decide)) ?_
  refine v_aload_n (pc' := 6) 3 0 rfl rfl rfl rfl ?_
  refine v_iconst (v := 0) (pc' := 7) 4 rfl rfl (by decide) ?_
  refine v_putI (pc' := 10) 5 rfl rfl pf_X2_28 (fun q => absurd q (by decide)) (ck0l hp0) (lay_lt (ck0l hp0) (by decide)) ?_
  refine v_aload_n (pc' := 11) 6 0 rfl rfl rfl rfl ?_
  refine v_getR (t := (p0 + 4)) (pc' := 14) 7 rfl rfl pf_X2_21 (ck0l hp0) (lay_lt (ck0l hp0) (by decide)) (rt_ck_3 hp0) ?_
  refine v_iconst (v := 0) (pc' := 15) 8 rfl rfl (by decide) ?_
  refine v_cS (Y2 := Y_J7_fill_53178) (As := [.ref (p0 + 4), .int 0]) (pc' := 18) (c1 := 0) (s1 := 0) 9 rfl rfl mf_J7_fill_53178 rfl rfl ml_X2_50 ms_J7_fill_53178 rfl (Nat.le_of_ble_eq_true rfl) ⟨Nat.le_of_ble_eq_true rfl, Nat.le_of_ble_eq_true rfl⟩ rfl rfl (ok_J7_fill_53178 (p0 + 4) (0 : Int32) (up2 (up2 I p0 4 0) p0 5 0) L (ck4l hp0) h) ?_ ?_
  · intro e9 u9 hx9
    exact hx9.elim
  intro v9 u9 hv9
  obtain ⟨I6, rfl, rfl, h⟩ := hv9
  refine ⟨fun q => absurd q (Nat.lt_irrefl _), ?_⟩
  show V G Y_X2_clear 18 _ _ _ _ _ _ _
  exact v_vret 10 rfl rfl (by decide) (by decide) ⟨_, rfl, rfl, h⟩
set_option maxHeartbeats 4000000 in
set_option maxRecDepth 100000 in
theorem ok_X6_forget {G : GT} {b d t : Nat} (p0 : Nat) (p1 : Int32) (I : TI) (L : TL) (hp0 : stOK p0) {Q : TL → Prop} (h : W_X6_forget p0 p1 I L Q) : MW G Y_X6_forget [.ref p0, .int p1] (I, L, RT b d t, 457) (fun v9 u9 => ∃ (L9 : TL), v9 = none ∧ u9 = (I, L9, RT b d t, 457) ∧ Q L9) (fun _ _ => False) := by
  unfold W_X6_forget at h
  refine MW.intro rfl (by decide) is_X6_forget (Nat.le_of_ble_eq_true rfl) ?_
  show V G Y_X6_forget 0 [(0, .ref p0), (1, .int p1)] [] (I, L, RT b d t, 457) 0 0 _ _
  refine v_aload_n (pc' := 1) 0 0 rfl rfl rfl rfl ?_
  refine v_getR (t := (p0 + 6)) (pc' := 4) 1 rfl rfl pf_X6_20 (st0l hp0) (lay_lt (st0l hp0) (by decide)) (rt_st_2 hp0) ?_
  refine v_iload_n (pc' := 5) 2 1 rfl rfl rfl rfl ?_
  refine v_lconst (v := 0) (pc' := 6) 3 rfl rfl (by decide) ?_
  obtain ⟨hi10, h⟩ := h
  refine v_last (i := p1) (j := p1.toNatClampNeg) (pc' := 7) 4 rfl rfl (st6l hp0) (st6n hp0) (lay_lt (st6l hp0) (by decide)) hi10 rfl ?_
  refine v_aload_n (pc' := 8) 5 0 rfl rfl rfl rfl ?_
  refine v_getR (t := (p0 + 7)) (pc' := 11) 6 rfl rfl pf_X6_23 (st0l hp0) (lay_lt (st0l hp0) (by decide)) (rt_st_3 hp0) ?_
  refine v_iload_n (pc' := 12) 7 1 rfl rfl rfl rfl ?_
  refine v_lconst (v := 0) (pc' := 13) 8 rfl rfl (by decide) ?_
  obtain ⟨hi11, h⟩ := h
  refine v_last (i := p1) (j := p1.toNatClampNeg) (pc' := 14) 9 rfl rfl (st7l hp0) (st7n hp0) (lay_lt (st7l hp0) (by decide)) hi11 rfl ?_
  refine nm_N (e := (up2 (up2 L (p0 + 6) (p1.toNatClampNeg) 0) (p0 + 7) (p1.toNatClampNeg) 0)) (fun L12 hL12 => ?_)
  replace h := h L12 hL12
  refine v_aload_n (pc' := 15) 10 0 rfl rfl rfl rfl ?_
  refine v_getR (t := (p0 + 8)) (pc' := 18) 11 rfl rfl pf_X6_26 (st0l hp0) (lay_lt (st0l hp0) (by decide)) (rt_st_4 hp0) ?_
  refine v_iload_n (pc' := 19) 12 1 rfl rfl rfl rfl ?_
  refine v_lconst (v := 0) (pc' := 20) 13 rfl rfl (by decide) ?_
  obtain ⟨hi13, h⟩ := h
  refine v_last (i := p1) (j := p1.toNatClampNeg) (pc' := 21) 14 rfl rfl (st8l hp0) (st8n hp0) (lay_lt (st8l hp0) (by decide)) hi13 rfl ?_
  exact v_vret 15 rfl rfl (by decide) (by decide) ⟨_, rfl, rfl, h⟩
set_option maxHeartbeats 4000000 in
set_option maxRecDepth 100000 in
theorem d_X6_clear_2 {G : GT} {b d t : Nat} (p0 : Nat) (I : TI) (hp0 : stOK p0) (Q : TI → TL → Prop) (R2 : Int32 → TL → Prop)  (hR2 : ∀ (v1 : Int32) (L : TL), R2 v1 L → V G Y_X6_clear 2 [(0, .ref p0), (1, .int v1)] [] (I, L, RT b d t, 457) 0 0 (fun v9 u9 => ∃ (I9 : TI) (L9 : TL), v9 = none ∧ u9 = (I9, L9, RT b d t, 457) ∧ Q I9 L9) (fun _ _ => False)) (v1 : Int32) (L : TL)  (h : D_X6_clear_2 p0 I Q R2 v1 L) : V G Y_X6_clear 2 [(0, .ref p0), (1, .int v1)] [] (I, L, RT b d t, 457) 0 0 (fun v9 u9 => ∃ (I9 : TI) (L9 : TL), v9 = none ∧ u9 = (I9, L9, RT b d t, 457) ∧ Q I9 L9) (fun _ _ => False) := by
  unfold D_X6_clear_2 at h
  refine v_iload_n (pc' := 3) 2 1 rfl rfl rfl rfl ?_
  refine v_bipush (v := 16) (pc' := 5) 3 rfl rfl (by decide) ?_
  refine v_icmp_ge (tgt := 19) (pc' := 8) 4 rfl rfl (by decide) (fun hc => ?_) (fun hc => ?_)
  · replace h := h.1 hc
    refine v_aload_n (pc' := 20) 10 0 rfl rfl rfl rfl ?_
    refine v_getR (t := (p0 + 9)) (pc' := 23) 11 rfl rfl pf_X6_29 (st0l hp0) (lay_lt (st0l hp0) (by decide)) (rt_st_5 hp0) ?_
    refine v_iconst (v := 0) (pc' := 24) 12 rfl rfl (by decide) ?_
    refine v_cS (Y2 := Y_J7_fill_53178) (As := [.ref (p0 + 9), .int 0]) (pc' := 27) (c1 := 0) (s1 := 0) 13 rfl rfl mf_J7_fill_53178 rfl rfl ml_X6_51 ms_J7_fill_53178 rfl (Nat.le_of_ble_eq_true rfl) ⟨Nat.le_of_ble_eq_true rfl, Nat.le_of_ble_eq_true rfl⟩ rfl rfl (ok_J7_fill_53178 (p0 + 9) (0 : Int32) I L (st9l hp0) h) ?_ ?_
    · intro e9 u9 hx9
      exact hx9.elim
    intro v9 u9 hv9
    obtain ⟨I18, rfl, rfl, h⟩ := hv9
    refine ⟨fun q => absurd q (Nat.lt_irrefl _), ?_⟩
    show V G Y_X6_clear 27 _ _ _ _ _ _ _
    refine v_aload_n (pc' := 28) 14 0 rfl rfl rfl rfl ?_
    refine v_iconst (v := 0) (pc' := 29) 15 rfl rfl (by decide) ?_
    refine v_putI (pc' := 32) 16 rfl rfl pf_X6_39 (fun q => absurd q (by decide)) (st0l hp0) (lay_lt (st0l hp0) (by decide)) ?_
    exact v_vret 17 rfl rfl (by decide) (by decide) ⟨_, _, rfl, rfl, h⟩
  replace h := h.2 hc
  refine v_aload_n (pc' := 9) 5 0 rfl rfl rfl rfl ?_
  refine v_iload_n (pc' := 10) 6 1 rfl rfl rfl rfl ?_
  refine v_cV (Y2 := Y_X6_forget) (As := [.int v1]) (b := p0) (pc' := 13) (c1 := 0) (s1 := 0) 7 rfl rfl mf_X6_forget rfl rfl ml_X6_47 mi_X6_forget se_X6_forget (ci := 5) rfl (st0l hp0) (lay_lt (st0l hp0) (by decide)) rfl (Nat.le_of_ble_eq_true rfl) ⟨Nat.le_of_ble_eq_true rfl, Nat.le_of_ble_eq_true rfl⟩ rfl rfl (ok_X6_forget p0 v1 I L hp0 h) ?_ ?_
  · intro e9 u9 hx9
    exact hx9.elim
  intro v9 u9 hv9
  obtain ⟨L19, rfl, rfl, h⟩ := hv9
  refine ⟨fun q => absurd q (Nat.lt_irrefl _), ?_⟩
  show V G Y_X6_clear 13 _ _ _ _ _ _ _
  refine v_iinc (v := (v1 + 1)) (ls' := [(1, .int (v1 + 1)), (0, .ref p0)]) (pc' := 16) 8 1 rfl rfl rfl rfl (by decide) rfl ?_
  refine v_goto (tgt := 2) 9 rfl (by decide) ?_
  refine V.sub [1, 0] rfl ?_
  exact hR2 (v1 + 1) L19 h
theorem l_X6_clear_2 {G : GT} {b d t : Nat} (p0 : Nat) (I : TI) (hp0 : stOK p0) (Q : TI → TL → Prop)  : ∀ (n9 : Nat) (v1 : Int32) (L : TL), L_X6_clear_2 p0 I Q n9 v1 L → V G Y_X6_clear 2 [(0, .ref p0), (1, .int v1)] [] (I, L, RT b d t, 457) 0 0 (fun v9 u9 => ∃ (I9 : TI) (L9 : TL), v9 = none ∧ u9 = (I9, L9, RT b d t, 457) ∧ Q I9 L9) (fun _ _ => False)
  | 0, _, _, h => h.elim
  | n9 + 1, v1, L, h => d_X6_clear_2 p0 I hp0 Q _ (l_X6_clear_2 p0 I hp0 Q n9) v1 L h
set_option maxHeartbeats 4000000 in
set_option maxRecDepth 100000 in
theorem ok_X6_clear {G : GT} {b d t : Nat} (p0 : Nat) (I : TI) (L : TL) (hp0 : stOK p0) {Q : TI → TL → Prop} (h : W_X6_clear p0 I L Q) : MW G Y_X6_clear [.ref p0] (I, L, RT b d t, 457) (fun v9 u9 => ∃ (I9 : TI) (L9 : TL), v9 = none ∧ u9 = (I9, L9, RT b d t, 457) ∧ Q I9 L9) (fun _ _ => False) := by
  unfold W_X6_clear at h
  refine MW.intro rfl (by decide) is_X6_clear (Nat.le_of_ble_eq_true rfl) ?_
  show V G Y_X6_clear 0 [(0, .ref p0)] [] (I, L, RT b d t, 457) 0 0 _ _
  refine v_iconst (v := 0) (pc' := 1) 0 rfl rfl (by decide) ?_
  refine v_istore_n (ls' := [(1, .int 0), (0, .ref p0)]) (pc' := 2) 1 rfl rfl rfl (by decide) rfl ?_
  refine V.sub [1, 0] rfl ?_
  obtain ⟨n20, h⟩ := h
  exact l_X6_clear_2 p0 I hp0 Q n20 (0 : Int32) L h
set_option maxHeartbeats 4000000 in
set_option maxRecDepth 100000 in
theorem ok_X0_clear {G : GT} {b d t : Nat} (p0 : Nat) (I : TI) (L : TL) (hp0 : bnOK p0) {Q : TI → TL → Prop} (h : W_X0_clear p0 I L Q) : MW G Y_X0_clear [.ref p0] (I, L, RT b d t, 457) (fun v9 u9 => ∃ (I9 : TI) (L9 : TL), v9 = none ∧ u9 = (I9, L9, RT b d t, 457) ∧ Q I9 L9) (fun _ _ => False) := by
  unfold W_X0_clear at h
  refine MW.intro rfl (by decide) is_X0_clear (Nat.le_of_ble_eq_true rfl) ?_
  show V G Y_X0_clear 0 [(0, .ref p0)] [] (I, L, RT b d t, 457) 0 0 _ _
  refine v_aload_n (pc' := 1) 0 0 rfl rfl rfl rfl ?_
  refine v_getR (t := (p0 + 1)) (pc' := 4) 1 rfl rfl pf_X0_12 (bn0l hp0) (lay_lt (bn0l hp0) (by decide)) (rt_bn_0 hp0) ?_
  refine v_cV (Y2 := Y_X2_clear) (As := []) (b := (p0 + 1)) (pc' := 7) (c1 := 0) (s1 := 0) 2 rfl rfl mf_X2_clear rfl rfl ml_X0_42 mi_X2_clear se_X2_clear (ci := 1) rfl (bn1l hp0) (lay_lt (bn1l hp0) (by decide)) rfl (Nat.le_of_ble_eq_true rfl) ⟨Nat.le_of_ble_eq_true rfl, Nat.le_of_ble_eq_true rfl⟩ rfl rfl (ok_X2_clear (p0 + 1) I L (bn_ck hp0) h) ?_ ?_
  · intro e9 u9 hx9
    exact hx9.elim
  intro v9 u9 hv9
  obtain ⟨I24, rfl, rfl, h⟩ := hv9
  refine ⟨fun q => absurd q (Nat.lt_irrefl _), ?_⟩
  show V G Y_X0_clear 7 _ _ _ _ _ _ _
  refine v_aload_n (pc' := 8) 3 0 rfl rfl rfl rfl ?_
  refine v_getR (t := (p0 + 6)) (pc' := 11) 4 rfl rfl pf_X0_21 (bn0l hp0) (lay_lt (bn0l hp0) (by decide)) (rt_bn_1 hp0) ?_
  refine v_cV (Y2 := Y_X6_clear) (As := []) (b := (p0 + 6)) (pc' := 14) (c1 := 0) (s1 := 0) 5 rfl rfl mf_X6_clear rfl rfl ml_X0_45 mi_X6_clear se_X6_clear (ci := 5) rfl (bn6l hp0) (lay_lt (bn6l hp0) (by decide)) rfl (Nat.le_of_ble_eq_true rfl) ⟨Nat.le_of_ble_eq_true rfl, Nat.le_of_ble_eq_true rfl⟩ rfl rfl (ok_X6_clear (p0 + 6) I24 L (bn_st hp0) h) ?_ ?_
  · intro e9 u9 hx9
    exact hx9.elim
  intro v9 u9 hv9
  obtain ⟨I25, L26, rfl, rfl, h⟩ := hv9
  refine ⟨fun q => absurd q (Nat.lt_irrefl _), ?_⟩
  show V G Y_X0_clear 14 _ _ _ _ _ _ _
  exact v_vret 6 rfl rfl (by decide) (by decide) ⟨_, _, rfl, rfl, h⟩
set_option maxHeartbeats 4000000 in
set_option maxRecDepth 100000 in
theorem ok_X2_nets {G : GT} {b d t : Nat} (p0 : Nat) (I : TI) (L : TL) (hp0 : ckOK p0) {Q : Int32 → Prop} (h : W_X2_nets p0 I L Q) : MW G Y_X2_nets [.ref p0] (I, L, RT b d t, 457) (fun v9 u9 => ∃ (r9 : Int32), v9 = some (.int r9) ∧ u9 = (I, L, RT b d t, 457) ∧ Q r9) (fun _ _ => False) := by
  unfold W_X2_nets at h
  refine MW.intro rfl (by decide) is_X2_nets (Nat.le_of_ble_eq_true rfl) ?_
  show V G Y_X2_nets 0 [(0, .ref p0)] [] (I, L, RT b d t, 457) 0 0 _ _
  refine v_aload_n (pc' := 1) 0 0 rfl rfl rfl rfl ?_
  refine v_getI (pc' := 4) 1 rfl rfl pf_X2_24 (ck0l hp0) (lay_lt (ck0l hp0) (by decide)) ?_
  refine v_aload_n (pc' := 5) 2 0 rfl rfl rfl rfl ?_
  refine v_getI (pc' := 8) 3 rfl rfl pf_X2_28 (ck0l hp0) (lay_lt (ck0l hp0) (by decide)) ?_
  refine v_iadd (pc' := 9) 4 rfl rfl ?_
  exact v_iret 5 rfl rfl (by decide) (by decide) ⟨_, rfl, rfl, h⟩
set_option maxHeartbeats 4000000 in
set_option maxRecDepth 100000 in
theorem ok_X8_window {G : GT} {b d t : Nat} (p0 : Int32) (p1 : Int32) (I : TI) (L : TL)  {Q : Int64 → Prop} (h : W_X8_window p0 p1 I L Q) : MW G Y_X8_window [.int p0, .int p1] (I, L, RT b d t, 457) (fun v9 u9 => ∃ (r9 : Int64), v9 = some (.long r9) ∧ u9 = (I, L, RT b d t, 457) ∧ Q r9) (fun _ _ => False) := by
  unfold W_X8_window at h
  refine MW.intro rfl (by decide) is_X8_window (Nat.le_of_ble_eq_true rfl) ?_
  show V G Y_X8_window 0 [(0, .int p0), (1, .int p1)] [] (I, L, RT b d t, 457) 0 0 _ _
  refine v_ldc2 (v := 2) (pc' := 3) 0 rfl rfl kl_X8_406 ?_
  refine v_iload_n (pc' := 4) 1 1 rfl rfl rfl rfl ?_
  refine v_lshl (pc' := 5) 2 rfl rfl ?_
  refine v_lconst (v := 1) (pc' := 6) 3 rfl rfl (by decide) ?_
  refine v_iload_n (pc' := 7) 4 0 rfl rfl rfl rfl ?_
  refine v_lshl (pc' := 8) 5 rfl rfl ?_
  refine v_lsub (pc' := 9) 6 rfl rfl ?_
  exact v_lret 7 rfl rfl (by decide) (by decide) ⟨_, rfl, rfl, h⟩
set_option maxHeartbeats 4000000 in
set_option maxRecDepth 100000 in
theorem b_X2_idealOf_31 {G : GT} {b d t : Nat} (p0 : Nat) (p2 : Nat) (v1 : Int32) (v3 : Int64) (s0 : Int64) (I : TI) (L : TL) (hp0 : ckOK p0) (hp2 : LAY p2 = 21) (hp2n : LEN p2 = 16) (Q : Int64 → Prop)  (h : B_X2_idealOf_31 p0 p2 v1 v3 s0 I L Q) : V G Y_X2_idealOf 31 [(0, .ref p0), (1, .int v1), (3, .long v3)] [.long s0] (I, L, RT b d t, 457) 0 0 (fun v9 u9 => ∃ (r9 : Int64), v9 = some (.long r9) ∧ u9 = (I, L, RT b d t, 457) ∧ Q r9) (fun _ _ => False) := by
  unfold B_X2_idealOf_31 at h
  refine v_lstore (ls' := [(5, .long s0), (0, .ref p0), (1, .int v1), (3, .long v3)]) (pc' := 33) 21 rfl rfl (by decide) rfl ?_
  refine v_iconst (v := 0) (pc' := 34) 22 rfl rfl (by decide) ?_
  refine v_aload_n (pc' := 35) 23 1 rfl rfl rfl rfl ?_
  refine v_getI (pc' := 38) 24 rfl rfl pf_X2_31 (ck0l hp0) (lay_lt (ck0l hp0) (by decide)) ?_
  refine v_cNS (Y2 := Y_X8_window) (As := [.int 0, .int (I p0 6)]) (pc' := 41) (c1 := 0) (s1 := 0) 25 rfl rfl mf_X8_window rfl rfl nt_X2_63 ms_X8_window rfl (Nat.le_of_ble_eq_true rfl) ⟨Nat.le_of_ble_eq_true rfl, Nat.le_of_ble_eq_true rfl⟩ rfl rfl (ok_X8_window (0 : Int32) (I p0 6) I L h) ?_ ?_
  · intro e9 u9 hx9
    exact hx9.elim
  intro v9 u9 hv9
  obtain ⟨r41, rfl, rfl, h⟩ := hv9
  refine ⟨fun q => absurd q (Nat.lt_irrefl _), ?_⟩
  show V G Y_X2_idealOf 41 _ (.long r41 :: _) _ _ _ _ _
  refine v_lstore (ls' := [(7, .long r41), (5, .long s0), (0, .ref p0), (1, .int v1), (3, .long v3)]) (pc' := 43) 26 rfl rfl (by decide) rfl ?_
  refine v_aload_n (pc' := 44) 27 2 rfl rfl rfl rfl ?_
  refine v_getR (t := (p0 + 1)) (pc' := 47) 28 rfl rfl pf_X2_9 (ck0l hp0) (lay_lt (ck0l hp0) (by decide)) (rt_ck_0 hp0) ?_
  refine v_iload_n (pc' := 48) 29 3 rfl rfl rfl rfl ?_
  obtain ⟨hi42, h⟩ := h
  refine v_iald (i := v1) (j := v1.toNatClampNeg) (pc' := 49) 30 rfl rfl (ck1l hp0) (ck1n hp0) (lay_lt (ck1l hp0) (by decide)) hi42 rfl ?_
  refine v_ts (clo := 0) (chi := 5) (dt := 136) 31 6 [88, 93, 98, 103, 115, 127] rfl (by decide) (by decide) (by decide) (by decide) (by decide) ?_ (fun hc => ?_)
  · intro j9 t9 ht9 hj9 hx9
    match j9, ht9, hj9, hx9 with
    | 0, ht9, hj9, hx9 =>
      cases ht9
      replace hx9 := hx9.trans (show Int32.ofInt _ = (0 : Int32) by decide)
      replace h := h.1 hx9
      refine v_lload_n (pc' := 89) 32 4 rfl rfl rfl rfl ?_
      refine v_lload (pc' := 91) 33 1 rfl rfl rfl ?_
      refine v_land (pc' := 92) 34 rfl rfl ?_
      exact v_lret 35 rfl rfl (by decide) (by decide) ⟨_, rfl, rfl, h⟩
    | 1, ht9, hj9, hx9 =>
      cases ht9
      replace hx9 := hx9.trans (show Int32.ofInt _ = (1 : Int32) by decide)
      replace h := h.2.1 hx9
      refine v_lload_n (pc' := 94) 36 4 rfl rfl rfl rfl ?_
      refine v_lload (pc' := 96) 37 1 rfl rfl rfl ?_
      refine v_lor (pc' := 97) 38 rfl rfl ?_
      exact v_lret 39 rfl rfl (by decide) (by decide) ⟨_, rfl, rfl, h⟩
    | 2, ht9, hj9, hx9 =>
      cases ht9
      replace hx9 := hx9.trans (show Int32.ofInt _ = (2 : Int32) by decide)
      replace h := h.2.2.1 hx9
      refine v_lload_n (pc' := 99) 40 4 rfl rfl rfl rfl ?_
      refine v_lload (pc' := 101) 41 1 rfl rfl rfl ?_
      refine v_lxor (pc' := 102) 42 rfl rfl ?_
      exact v_lret 43 rfl rfl (by decide) (by decide) ⟨_, rfl, rfl, h⟩
    | 3, ht9, hj9, hx9 =>
      cases ht9
      replace hx9 := hx9.trans (show Int32.ofInt _ = (3 : Int32) by decide)
      replace h := h.2.2.2.1 hx9
      refine v_lload (pc' := 105) 44 0 rfl rfl rfl ?_
      refine v_lload_n (pc' := 106) 45 4 rfl rfl rfl rfl ?_
      refine v_lload (pc' := 108) 46 1 rfl rfl rfl ?_
      refine v_land (pc' := 109) 47 rfl rfl ?_
      refine v_ldc2 (v := -1) (pc' := 112) 48 rfl rfl kl_X2_67 ?_
      refine v_lxor (pc' := 113) 49 rfl rfl ?_
      refine v_land (pc' := 114) 50 rfl rfl ?_
      exact v_lret 51 rfl rfl (by decide) (by decide) ⟨_, rfl, rfl, h⟩
    | 4, ht9, hj9, hx9 =>
      cases ht9
      replace hx9 := hx9.trans (show Int32.ofInt _ = (4 : Int32) by decide)
      replace h := h.2.2.2.2.1 hx9
      refine v_lload (pc' := 117) 52 0 rfl rfl rfl ?_
      refine v_lload_n (pc' := 118) 53 4 rfl rfl rfl rfl ?_
      refine v_lload (pc' := 120) 54 1 rfl rfl rfl ?_
      refine v_lor (pc' := 121) 55 rfl rfl ?_
      refine v_ldc2 (v := -1) (pc' := 124) 56 rfl rfl kl_X2_67 ?_
      refine v_lxor (pc' := 125) 57 rfl rfl ?_
      refine v_land (pc' := 126) 58 rfl rfl ?_
      exact v_lret 59 rfl rfl (by decide) (by decide) ⟨_, rfl, rfl, h⟩
    | 5, ht9, hj9, hx9 =>
      cases ht9
      replace hx9 := hx9.trans (show Int32.ofInt _ = (5 : Int32) by decide)
      replace h := h.2.2.2.2.2.1 hx9
      refine v_lload (pc' := 129) 60 0 rfl rfl rfl ?_
      refine v_lload_n (pc' := 130) 61 4 rfl rfl rfl rfl ?_
      refine v_ldc2 (v := -1) (pc' := 133) 62 rfl rfl kl_X2_67 ?_
      refine v_lxor (pc' := 134) 63 rfl rfl ?_
      refine v_land (pc' := 135) 64 rfl rfl ?_
      exact v_lret 65 rfl rfl (by decide) (by decide) ⟨_, rfl, rfl, h⟩
    | q9 + 6, ht9, hj9, hx9 => exact absurd hj9 (by omega)
  replace h := h.2.2.2.2.2.2 hc
  refine v_lload_n (pc' := 137) 66 4 rfl rfl rfl rfl ?_
  exact v_lret 67 rfl rfl (by decide) (by decide) ⟨_, rfl, rfl, h⟩
set_option maxHeartbeats 4000000 in
set_option maxRecDepth 100000 in
theorem ok_X2_idealOf {G : GT} {b d t : Nat} (p0 : Nat) (p2 : Nat) (p1 : Int32) (I : TI) (L : TL) (hp0 : ckOK p0) (hp2 : LAY p2 = 21) (hp2n : LEN p2 = 16) {Q : Int64 → Prop} (h : W_X2_idealOf p0 p2 p1 I L Q) : MW G Y_X2_idealOf [.ref p0, .int p1, .ref p2] (I, L, RT b d t, 457) (fun v9 u9 => ∃ (r9 : Int64), v9 = some (.long r9) ∧ u9 = (I, L, RT b d t, 457) ∧ Q r9) (fun _ _ => False) := by
  unfold W_X2_idealOf at h
  refine MW.intro rfl (by decide) is_X2_idealOf (Nat.le_of_ble_eq_true rfl) ?_
  show V G Y_X2_idealOf 0 [(0, .ref p0), (1, .int p1), (2, .ref p2)] [] (I, L, RT b d t, 457) 0 0 _ _
  refine v_aload_n (pc' := 1) 0 2 rfl rfl rfl rfl ?_
  refine v_aload_n (pc' := 2) 1 0 rfl rfl rfl rfl ?_
  refine v_getR (t := (p0 + 2)) (pc' := 5) 2 rfl rfl pf_X2_15 (ck0l hp0) (lay_lt (ck0l hp0) (by decide)) (rt_ck_1 hp0) ?_
  refine v_iload_n (pc' := 6) 3 1 rfl rfl rfl rfl ?_
  obtain ⟨hi43, h⟩ := h
  refine v_iald (i := p1) (j := p1.toNatClampNeg) (pc' := 7) 4 rfl rfl (ck2l hp0) (ck2n hp0) (lay_lt (ck2l hp0) (by decide)) hi43 rfl ?_
  obtain ⟨hi44, h⟩ := h
  refine v_lald (i := (I (p0 + 2) (p1.toNatClampNeg))) (j := (I (p0 + 2) (p1.toNatClampNeg)).toNatClampNeg) (pc' := 8) 5 rfl rfl hp2 hp2n (lay_lt hp2 (by decide)) hi44 rfl ?_
  refine nm_J (e := (L p2 ((I (p0 + 2) (p1.toNatClampNeg)).toNatClampNeg))) (fun x45 hx45 => ?_)
  replace h := h x45 hx45
  refine v_lstore_n (ls' := [(3, .long x45), (0, .ref p0), (1, .int p1), (2, .ref p2)]) (pc' := 9) 6 rfl rfl rfl (by decide) rfl ?_
  refine v_aload_n (pc' := 10) 7 1 rfl rfl rfl rfl ?_
  refine v_getR (t := (p0 + 3)) (pc' := 13) 8 rfl rfl pf_X2_18 (ck0l hp0) (lay_lt (ck0l hp0) (by decide)) (rt_ck_2 hp0) ?_
  refine v_iload_n (pc' := 14) 9 2 rfl rfl rfl rfl ?_
  obtain ⟨hi46, h⟩ := h
  refine v_iald (i := p1) (j := p1.toNatClampNeg) (pc' := 15) 10 rfl rfl (ck3l hp0) (ck3n hp0) (lay_lt (ck3l hp0) (by decide)) hi46 rfl ?_
  refine v_iconst (v := -1) (pc' := 16) 11 rfl rfl (by decide) ?_
  refine v_icmp_ne (tgt := 23) (pc' := 19) 12 rfl rfl (by decide) (fun hc => ?_) (fun hc => ?_)
  · replace h := h.1 hc
    refine v_aload_n (pc' := 24) 15 3 rfl rfl rfl rfl ?_
    refine v_aload_n (pc' := 25) 16 1 rfl rfl rfl rfl ?_
    refine v_getR (t := (p0 + 3)) (pc' := 28) 17 rfl rfl pf_X2_18 (ck0l hp0) (lay_lt (ck0l hp0) (by decide)) (rt_ck_2 hp0) ?_
    refine v_iload_n (pc' := 29) 18 2 rfl rfl rfl rfl ?_
    obtain ⟨hi47, h⟩ := h
    refine v_iald (i := p1) (j := p1.toNatClampNeg) (pc' := 30) 19 rfl rfl (ck3l hp0) (ck3n hp0) (lay_lt (ck3l hp0) (by decide)) hi47 rfl ?_
    obtain ⟨hi48, h⟩ := h
    refine v_lald (i := (I (p0 + 3) (p1.toNatClampNeg))) (j := (I (p0 + 3) (p1.toNatClampNeg)).toNatClampNeg) (pc' := 31) 20 rfl rfl hp2 hp2n (lay_lt hp2 (by decide)) hi48 rfl ?_
    refine V.sub [1, 2, 0] rfl ?_
    exact b_X2_idealOf_31 p0 p2 p1 x45 (L p2 ((I (p0 + 3) (p1.toNatClampNeg)).toNatClampNeg)) I L hp0 hp2 hp2n Q h
  replace h := h.2 hc
  refine v_lload_n (pc' := 20) 13 0 rfl rfl rfl rfl ?_
  refine v_goto (tgt := 31) 14 rfl (by decide) ?_
  refine V.sub [1, 2, 0] rfl ?_
  exact b_X2_idealOf_31 p0 p2 p1 x45 x45 I L hp0 hp2 hp2n Q h
set_option maxHeartbeats 4000000 in
set_option maxRecDepth 100000 in
theorem ok_X8_bitOf {G : GT} {b d t : Nat} (p0 : Int64) (p2 : Int32) (I : TI) (L : TL)  {Q : Int32 → Prop} (h : W_X8_bitOf p0 p2 I L Q) : MW G Y_X8_bitOf [.long p0, .int p2] (I, L, RT b d t, 457) (fun v9 u9 => ∃ (r9 : Int32), v9 = some (.int r9) ∧ u9 = (I, L, RT b d t, 457) ∧ Q r9) (fun _ _ => False) := by
  unfold W_X8_bitOf at h
  refine MW.intro rfl (by decide) is_X8_bitOf (Nat.le_of_ble_eq_true rfl) ?_
  show V G Y_X8_bitOf 0 [(0, .long p0), (2, .int p2)] [] (I, L, RT b d t, 457) 0 0 _ _
  refine v_lload_n (pc' := 1) 0 0 rfl rfl rfl rfl ?_
  refine v_iload_n (pc' := 2) 1 1 rfl rfl rfl rfl ?_
  refine v_lushr (pc' := 3) 2 rfl rfl ?_
  refine v_lconst (v := 1) (pc' := 4) 3 rfl rfl (by decide) ?_
  refine v_land (pc' := 5) 4 rfl rfl ?_
  refine v_l2i (pc' := 6) 5 rfl rfl ?_
  exact v_iret 6 rfl rfl (by decide) (by decide) ⟨_, rfl, rfl, h⟩
set_option maxHeartbeats 4000000 in
set_option maxRecDepth 100000 in
theorem b_X0_lateWave_43 {G : GT} {b d t : Nat} (p0 : Nat) (p2 : Nat) (v3 : Int64) (v5 : Int32) (s0 : Int64) (I : TI) (L : TL) (hp0 : bnOK p0) (hp2 : LAY p2 = 21) (hp2n : LEN p2 = 16) (Q : Int64 → Prop)  (h : B_X0_lateWave_43 p0 p2 v3 v5 s0 I L Q) : V G Y_X0_lateWave 43 [(0, .ref p0), (3, .long v3), (5, .int v5)] [.long s0] (I, L, RT b d t, 457) 0 0 (fun v9 u9 => ∃ (r9 : Int64), v9 = some (.long r9) ∧ u9 = (I, L, RT b d t, 457) ∧ Q r9) (fun _ _ => False) := by
  unfold B_X0_lateWave_43 at h
  refine v_lstore (ls' := [(6, .long s0), (0, .ref p0), (3, .long v3), (5, .int v5)]) (pc' := 45) 25 rfl rfl (by decide) rfl ?_
  refine v_lload_n (pc' := 46) 26 2 rfl rfl rfl rfl ?_
  refine v_iload (pc' := 48) 27 3 rfl rfl rfl ?_
  refine v_lshl (pc' := 49) 28 rfl rfl ?_
  refine v_lload (pc' := 51) 29 0 rfl rfl rfl ?_
  refine v_lor (pc' := 52) 30 rfl rfl ?_
  refine v_iconst (v := 0) (pc' := 53) 31 rfl rfl (by decide) ?_
  refine v_aload_n (pc' := 54) 32 1 rfl rfl rfl rfl ?_
  refine v_getR (t := (p0 + 1)) (pc' := 57) 33 rfl rfl pf_X0_12 (bn0l hp0) (lay_lt (bn0l hp0) (by decide)) (rt_bn_0 hp0) ?_
  refine v_getI (pc' := 60) 34 rfl rfl pf_X0_88 (bn1l hp0) (lay_lt (bn1l hp0) (by decide)) ?_
  refine v_cNS (Y2 := Y_X8_window) (As := [.int 0, .int (I (p0 + 1) 6)]) (pc' := 63) (c1 := 0) (s1 := 0) 35 rfl rfl mf_X8_window rfl rfl nt_X0_84 ms_X8_window rfl (Nat.le_of_ble_eq_true rfl) ⟨Nat.le_of_ble_eq_true rfl, Nat.le_of_ble_eq_true rfl⟩ rfl rfl (ok_X8_window (0 : Int32) (I (p0 + 1) 6) I L h) ?_ ?_
  · intro e9 u9 hx9
    exact hx9.elim
  intro v9 u9 hv9
  obtain ⟨r59, rfl, rfl, h⟩ := hv9
  refine ⟨fun q => absurd q (Nat.lt_irrefl _), ?_⟩
  show V G Y_X0_lateWave 63 _ (.long r59 :: _) _ _ _ _ _
  refine v_land (pc' := 64) 36 rfl rfl ?_
  exact v_lret 37 rfl rfl (by decide) (by decide) ⟨_, rfl, rfl, h⟩
set_option maxHeartbeats 4000000 in
set_option maxRecDepth 100000 in
theorem ok_X0_lateWave {G : GT} {b d t : Nat} (p0 : Nat) (p2 : Nat) (p1 : Int32) (I : TI) (L : TL) (hp0 : bnOK p0) (hp2 : LAY p2 = 21) (hp2n : LEN p2 = 16) {Q : Int64 → Prop} (h : W_X0_lateWave p0 p2 p1 I L Q) : MW G Y_X0_lateWave [.ref p0, .int p1, .ref p2] (I, L, RT b d t, 457) (fun v9 u9 => ∃ (r9 : Int64), v9 = some (.long r9) ∧ u9 = (I, L, RT b d t, 457) ∧ Q r9) (fun _ _ => False) := by
  unfold W_X0_lateWave at h
  refine MW.intro rfl (by decide) is_X0_lateWave (Nat.le_of_ble_eq_true rfl) ?_
  show V G Y_X0_lateWave 0 [(0, .ref p0), (1, .int p1), (2, .ref p2)] [] (I, L, RT b d t, 457) 0 0 _ _
  refine v_aload_n (pc' := 1) 0 0 rfl rfl rfl rfl ?_
  refine v_getR (t := (p0 + 1)) (pc' := 4) 1 rfl rfl pf_X0_12 (bn0l hp0) (lay_lt (bn0l hp0) (by decide)) (rt_bn_0 hp0) ?_
  refine v_iload_n (pc' := 5) 2 1 rfl rfl rfl rfl ?_
  refine v_aload_n (pc' := 6) 3 2 rfl rfl rfl rfl ?_
  refine v_cV (Y2 := Y_X2_idealOf) (As := [.int p1, .ref p2]) (b := (p0 + 1)) (pc' := 9) (c1 := 0) (s1 := 0) 4 rfl rfl mf_X2_idealOf rfl rfl ml_X0_73 mi_X2_idealOf se_X2_idealOf (ci := 1) rfl (bn1l hp0) (lay_lt (bn1l hp0) (by decide)) rfl (Nat.le_of_ble_eq_true rfl) ⟨Nat.le_of_ble_eq_true rfl, Nat.le_of_ble_eq_true rfl⟩ rfl rfl (ok_X2_idealOf (p0 + 1) p2 p1 I L (bn_ck hp0) hp2 hp2n h) ?_ ?_
  · intro e9 u9 hx9
    exact hx9.elim
  intro v9 u9 hv9
  obtain ⟨r60, rfl, rfl, h⟩ := hv9
  refine ⟨fun q => absurd q (Nat.lt_irrefl _), ?_⟩
  show V G Y_X0_lateWave 9 _ (.long r60 :: _) _ _ _ _ _
  refine v_lstore_n (ls' := [(3, .long r60), (0, .ref p0), (1, .int p1), (2, .ref p2)]) (pc' := 10) 5 rfl rfl rfl (by decide) rfl ?_
  refine v_aload_n (pc' := 11) 6 1 rfl rfl rfl rfl ?_
  refine v_getR (t := (p0 + 6)) (pc' := 14) 7 rfl rfl pf_X0_21 (bn0l hp0) (lay_lt (bn0l hp0) (by decide)) (rt_bn_1 hp0) ?_
  refine v_getR (t := (p0 + 7)) (pc' := 17) 8 rfl rfl pf_X0_76 (bn6l hp0) (lay_lt (bn6l hp0) (by decide)) (rt_st_0 (bn_st hp0)) ?_
  refine v_iconst (v := 2) (pc' := 18) 9 rfl rfl (by decide) ?_
  refine v_aald6 (i := 2) (r := (p0 + 10)) (j := 2) (pc' := 19) 10 rfl rfl (bn7l hp0) (bn7n hp0) (lay_lt (bn7l hp0) (by decide)) (vp_lit (by decide)) (by decide) (rt_row (bn_st hp0) (i := 2) (by decide)) ?_
  refine v_iload_n (pc' := 20) 11 2 rfl rfl rfl rfl ?_
  obtain ⟨hi61, h⟩ := h
  refine v_iald (i := p1) (j := p1.toNatClampNeg) (pc' := 21) 12 rfl rfl (st_rowl (bn_st hp0) (i := 2) (by decide)) (st_rown (bn_st hp0) (i := 2) (by decide)) (lay_lt (st_rowl (bn_st hp0) (i := 2) (by decide)) (by decide)) hi61 rfl ?_
  refine nm_I (e := (I (p0 + 10) (p1.toNatClampNeg))) (fun x62 hx62 => ?_)
  replace h := h x62 hx62
  refine v_istore (ls' := [(5, .int x62), (3, .long r60), (0, .ref p0), (1, .int p1), (2, .ref p2)]) (pc' := 23) 13 rfl rfl (by decide) rfl ?_
  refine v_lload_n (pc' := 24) 14 1 rfl rfl rfl rfl ?_
  refine v_iconst (v := 0) (pc' := 25) 15 rfl rfl (by decide) ?_
  refine v_cNS (Y2 := Y_X8_bitOf) (As := [.long r60, .int 0]) (pc' := 28) (c1 := 0) (s1 := 0) 16 rfl rfl mf_X8_bitOf rfl rfl nt_X0_80 ms_X8_bitOf rfl (Nat.le_of_ble_eq_true rfl) ⟨Nat.le_of_ble_eq_true rfl, Nat.le_of_ble_eq_true rfl⟩ rfl rfl (ok_X8_bitOf r60 (0 : Int32) I L h) ?_ ?_
  · intro e9 u9 hx9
    exact hx9.elim
  intro v9 u9 hv9
  obtain ⟨r63, rfl, rfl, h⟩ := hv9
  refine ⟨fun q => absurd q (Nat.lt_irrefl _), ?_⟩
  show V G Y_X0_lateWave 28 _ (.int r63 :: _) _ _ _ _ _
  refine v_if_ne (tgt := 35) (pc' := 31) 17 rfl rfl (by decide) (fun hc => ?_) (fun hc => ?_)
  · replace h := h.1 hc
    refine v_iconst (v := 0) (pc' := 36) 20 rfl rfl (by decide) ?_
    refine v_iload (pc' := 38) 21 0 rfl rfl rfl ?_
    refine v_iconst (v := 1) (pc' := 39) 22 rfl rfl (by decide) ?_
    refine v_isub (pc' := 40) 23 rfl rfl ?_
    refine v_cNS (Y2 := Y_X8_window) (As := [.int 0, .int (x62 - 1)]) (pc' := 43) (c1 := 0) (s1 := 0) 24 rfl rfl mf_X8_window rfl rfl nt_X0_84 ms_X8_window rfl (Nat.le_of_ble_eq_true rfl) ⟨Nat.le_of_ble_eq_true rfl, Nat.le_of_ble_eq_true rfl⟩ rfl rfl (ok_X8_window (0 : Int32) (x62 - 1) I L h) ?_ ?_
    · intro e9 u9 hx9
      exact hx9.elim
    intro v9 u9 hv9
    obtain ⟨r64, rfl, rfl, h⟩ := hv9
    refine ⟨fun q => absurd q (Nat.lt_irrefl _), ?_⟩
    show V G Y_X0_lateWave 43 _ (.long r64 :: _) _ _ _ _ _
    refine V.sub [2, 1, 0] rfl ?_
    exact b_X0_lateWave_43 p0 p2 r60 x62 r64 I L hp0 hp2 hp2n Q h
  replace h := h.2 hc
  refine v_lconst (v := 0) (pc' := 32) 18 rfl rfl (by decide) ?_
  refine v_goto (tgt := 43) 19 rfl (by decide) ?_
  refine V.sub [2, 1, 0] rfl ?_
  exact b_X0_lateWave_43 p0 p2 r60 x62 (0 : Int64) I L hp0 hp2 hp2n Q h
set_option maxHeartbeats 4000000 in
set_option maxRecDepth 100000 in
theorem ok_X0_swing {G : GT} {b d t : Nat} (p0 : Nat) (p1 : Int32) (p2 : Int32) (I : TI) (L : TL) (hp0 : bnOK p0) {Q : Int32 → Prop} (h : W_X0_swing p0 p1 p2 I L Q) : MW G Y_X0_swing [.ref p0, .int p1, .int p2] (I, L, RT b d t, 457) (fun v9 u9 => ∃ (r9 : Int32), v9 = some (.int r9) ∧ u9 = (I, L, RT b d t, 457) ∧ Q r9) (fun _ _ => False) := by
  unfold W_X0_swing at h
  refine MW.intro rfl (by decide) is_X0_swing (Nat.le_of_ble_eq_true rfl) ?_
  show V G Y_X0_swing 0 [(0, .ref p0), (1, .int p1), (2, .int p2)] [] (I, L, RT b d t, 457) 0 0 _ _
  refine v_aload_n (pc' := 1) 0 0 rfl rfl rfl rfl ?_
  refine v_getR (t := (p0 + 6)) (pc' := 4) 1 rfl rfl pf_X0_21 (bn0l hp0) (lay_lt (bn0l hp0) (by decide)) (rt_bn_1 hp0) ?_
  refine v_getR (t := (p0 + 7)) (pc' := 7) 2 rfl rfl pf_X0_76 (bn6l hp0) (lay_lt (bn6l hp0) (by decide)) (rt_st_0 (bn_st hp0)) ?_
  refine v_iload_n (pc' := 8) 3 2 rfl rfl rfl rfl ?_
  refine v_iconst (v := 1) (pc' := 9) 4 rfl rfl (by decide) ?_
  refine v_icmp_ne (tgt := 16) (pc' := 12) 5 rfl rfl (by decide) (fun hc => ?_) (fun hc => ?_)
  · replace h := h.1 hc
    refine v_iconst (v := 1) (pc' := 17) 8 rfl rfl (by decide) ?_
    refine v_aald6 (i := 1) (r := (p0 + 9)) (j := 1) (pc' := 18) 9 rfl rfl (bn7l hp0) (bn7n hp0) (lay_lt (bn7l hp0) (by decide)) (vp_lit (by decide)) (by decide) (rt_row (bn_st hp0) (i := 1) (by decide)) ?_
    refine v_iload_n (pc' := 19) 10 1 rfl rfl rfl rfl ?_
    obtain ⟨hi67, h⟩ := h
    refine v_iald (i := p1) (j := p1.toNatClampNeg) (pc' := 20) 11 rfl rfl (st_rowl (bn_st hp0) (i := 1) (by decide)) (st_rown (bn_st hp0) (i := 1) (by decide)) (lay_lt (st_rowl (bn_st hp0) (i := 1) (by decide)) (by decide)) hi67 rfl ?_
    exact v_iret 12 rfl rfl (by decide) (by decide) ⟨_, rfl, rfl, h⟩
  replace h := h.2 hc
  refine v_iconst (v := 0) (pc' := 13) 6 rfl rfl (by decide) ?_
  refine v_goto (tgt := 17) 7 rfl (by decide) ?_
  refine v_aald6 (i := 0) (r := (p0 + 8)) (j := 0) (pc' := 18) 9 rfl rfl (bn7l hp0) (bn7n hp0) (lay_lt (bn7l hp0) (by decide)) (vp_lit (by decide)) (by decide) (rt_row (bn_st hp0) (i := 0) (by decide)) ?_
  refine v_iload_n (pc' := 19) 10 1 rfl rfl rfl rfl ?_
  obtain ⟨hi68, h⟩ := h
  refine v_iald (i := p1) (j := p1.toNatClampNeg) (pc' := 20) 11 rfl rfl (st_rowl (bn_st hp0) (i := 0) (by decide)) (st_rown (bn_st hp0) (i := 0) (by decide)) (lay_lt (st_rowl (bn_st hp0) (i := 0) (by decide)) (by decide)) hi68 rfl ?_
  exact v_iret 12 rfl rfl (by decide) (by decide) ⟨_, rfl, rfl, h⟩
set_option maxHeartbeats 4000000 in
set_option maxRecDepth 100000 in
theorem b_X0_dearWave_87 {G : GT} {b d t : Nat} (p0 : Nat) (v1 : Int32) (v2 : Int64) (v4 : Int64) (v6 : Int32) (v7 : Int32) (v8 : Int32) (I : TI) (L : TL) (hp0 : bnOK p0) (Q : Int64 → Prop) (R31 : Int64 → Int32 → Int32 → Int32 → Prop) (hR31 : ∀ (v4 : Int64) (v6 : Int32) (v7 : Int32) (v8 : Int32), R31 v4 v6 v7 v8 → V G Y_X0_dearWave 31 [(0, .ref p0), (1, .int v1), (2, .long v2), (4, .long v4), (6, .int v6), (7, .int v7), (8, .int v8)] [] (I, L, RT b d t, 457) 0 0 (fun v9 u9 => ∃ (r9 : Int64), v9 = some (.long r9) ∧ u9 = (I, L, RT b d t, 457) ∧ Q r9) (fun _ _ => False)) (h : B_X0_dearWave_87 p0 v1 v2 v4 v6 v7 v8 I L Q R31) : V G Y_X0_dearWave 87 [(0, .ref p0), (1, .int v1), (2, .long v2), (4, .long v4), (6, .int v6), (7, .int v7), (8, .int v8)] [] (I, L, RT b d t, 457) 0 0 (fun v9 u9 => ∃ (r9 : Int64), v9 = some (.long r9) ∧ u9 = (I, L, RT b d t, 457) ∧ Q r9) (fun _ _ => False) := by
  unfold B_X0_dearWave_87 at h
  refine v_lload (pc' := 89) 47 3 rfl rfl rfl ?_
  refine v_iload (pc' := 91) 48 4 rfl rfl rfl ?_
  refine v_i2l (pc' := 92) 49 rfl rfl ?_
  refine v_iload (pc' := 94) 50 6 rfl rfl rfl ?_
  refine v_lshl (pc' := 95) 51 rfl rfl ?_
  refine v_lor (pc' := 96) 52 rfl rfl ?_
  refine nm_J (e := (v4 ||| (shlL (v6.toInt64) v8))) (fun x83 hx83 => ?_)
  replace h := h x83 hx83
  refine v_lstore (ls' := [(4, .long x83), (0, .ref p0), (1, .int v1), (2, .long v2), (6, .int v6), (7, .int v7), (8, .int v8)]) (pc' := 98) 53 rfl rfl (by decide) rfl ?_
  refine v_iinc (v := (v8 + 1)) (ls' := [(8, .int (v8 + 1)), (4, .long x83), (0, .ref p0), (1, .int v1), (2, .long v2), (6, .int v6), (7, .int v7)]) (pc' := 101) 54 6 rfl rfl rfl rfl (by decide) rfl ?_
  refine v_goto (tgt := 31) 55 rfl (by decide) ?_
  refine V.sub [2, 3, 4, 1, 5, 6, 0] rfl ?_
  exact hR31 x83 v6 v7 (v8 + 1) h
set_option maxHeartbeats 4000000 in
set_option maxRecDepth 100000 in
theorem b_X0_dearWave_68 {G : GT} {b d t : Nat} (p0 : Nat) (v1 : Int32) (v2 : Int64) (v4 : Int64) (v6 : Int32) (v7 : Int32) (v8 : Int32) (v9 : Int32) (I : TI) (L : TL) (hp0 : bnOK p0) (Q : Int64 → Prop) (R31 : Int64 → Int32 → Int32 → Int32 → Prop) (hR31 : ∀ (v4 : Int64) (v6 : Int32) (v7 : Int32) (v8 : Int32), R31 v4 v6 v7 v8 → V G Y_X0_dearWave 31 [(0, .ref p0), (1, .int v1), (2, .long v2), (4, .long v4), (6, .int v6), (7, .int v7), (8, .int v8)] [] (I, L, RT b d t, 457) 0 0 (fun v9 u9 => ∃ (r9 : Int64), v9 = some (.long r9) ∧ u9 = (I, L, RT b d t, 457) ∧ Q r9) (fun _ _ => False)) (h : B_X0_dearWave_68 p0 v1 v2 v4 v6 v7 v8 v9 I L Q R31) : V G Y_X0_dearWave 68 [(0, .ref p0), (1, .int v1), (2, .long v2), (4, .long v4), (6, .int v6), (7, .int v7), (8, .int v8), (9, .int v9)] [] (I, L, RT b d t, 457) 0 0 (fun v9 u9 => ∃ (r9 : Int64), v9 = some (.long r9) ∧ u9 = (I, L, RT b d t, 457) ∧ Q r9) (fun _ _ => False) := by
  unfold B_X0_dearWave_68 at h
  refine v_iload (pc' := 70) 37 6 rfl rfl rfl ?_
  refine v_aload_n (pc' := 71) 38 0 rfl rfl rfl rfl ?_
  refine v_iload_n (pc' := 72) 39 1 rfl rfl rfl rfl ?_
  refine v_iload (pc' := 74) 40 7 rfl rfl rfl ?_
  refine v_cV (Y2 := Y_X0_swing) (As := [.int v1, .int v9]) (b := p0) (pc' := 77) (c1 := 0) (s1 := 0) 41 rfl rfl mf_X0_swing rfl rfl ml_X0_91 mi_X0_swing se_X0_swing (ci := 0) rfl (bn0l hp0) (lay_lt (bn0l hp0) (by decide)) rfl (Nat.le_of_ble_eq_true rfl) ⟨Nat.le_of_ble_eq_true rfl, Nat.le_of_ble_eq_true rfl⟩ rfl rfl (ok_X0_swing p0 v1 v9 I L hp0 h) ?_ ?_
  · intro e9 u9 hx9
    exact hx9.elim
  intro v9 u9 hv9
  obtain ⟨r84, rfl, rfl, h⟩ := hv9
  refine ⟨fun q => absurd q (Nat.lt_irrefl _), ?_⟩
  show V G Y_X0_dearWave 77 _ (.int r84 :: _) _ _ _ _ _
  refine v_isub (pc' := 78) 42 rfl rfl ?_
  refine v_iload (pc' := 80) 43 5 rfl rfl rfl ?_
  refine v_icmp_lt (tgt := 87) (pc' := 83) 44 rfl rfl (by decide) (fun hc => ?_) (fun hc => ?_)
  · replace h := h.1 hc
    refine V.sub [0, 1, 2, 3, 4, 5, 6] rfl ?_
    exact b_X0_dearWave_87 p0 v1 v2 v4 v6 v7 v8 I L hp0 Q R31 hR31 h
  replace h := h.2 hc
  refine v_iload (pc' := 85) 45 7 rfl rfl rfl ?_
  refine v_istore (ls' := [(6, .int v9), (0, .ref p0), (1, .int v1), (2, .long v2), (4, .long v4), (7, .int v7), (8, .int v8), (9, .int v9)]) (pc' := 87) 46 rfl rfl (by decide) rfl ?_
  refine V.sub [1, 2, 3, 4, 0, 5, 6] rfl ?_
  exact b_X0_dearWave_87 p0 v1 v2 v4 v9 v7 v8 I L hp0 Q R31 hR31 h
set_option maxHeartbeats 4000000 in
set_option maxRecDepth 100000 in
theorem d_X0_dearWave_31 {G : GT} {b d t : Nat} (p0 : Nat) (v1 : Int32) (v2 : Int64) (I : TI) (L : TL) (hp0 : bnOK p0) (Q : Int64 → Prop) (R31 : Int64 → Int32 → Int32 → Int32 → Prop)  (hR31 : ∀ (v4 : Int64) (v6 : Int32) (v7 : Int32) (v8 : Int32), R31 v4 v6 v7 v8 → V G Y_X0_dearWave 31 [(0, .ref p0), (1, .int v1), (2, .long v2), (4, .long v4), (6, .int v6), (7, .int v7), (8, .int v8)] [] (I, L, RT b d t, 457) 0 0 (fun v9 u9 => ∃ (r9 : Int64), v9 = some (.long r9) ∧ u9 = (I, L, RT b d t, 457) ∧ Q r9) (fun _ _ => False)) (v4 : Int64) (v6 : Int32) (v7 : Int32) (v8 : Int32)  (h : D_X0_dearWave_31 p0 v1 v2 I L Q R31 v4 v6 v7 v8) : V G Y_X0_dearWave 31 [(0, .ref p0), (1, .int v1), (2, .long v2), (4, .long v4), (6, .int v6), (7, .int v7), (8, .int v8)] [] (I, L, RT b d t, 457) 0 0 (fun v9 u9 => ∃ (r9 : Int64), v9 = some (.long r9) ∧ u9 = (I, L, RT b d t, 457) ∧ Q r9) (fun _ _ => False) := by
  unfold D_X0_dearWave_31 at h
  refine v_iload (pc' := 33) 19 6 rfl rfl rfl ?_
  refine v_aload_n (pc' := 34) 20 0 rfl rfl rfl rfl ?_
  refine v_getR (t := (p0 + 1)) (pc' := 37) 21 rfl rfl pf_X0_12 (bn0l hp0) (lay_lt (bn0l hp0) (by decide)) (rt_bn_0 hp0) ?_
  refine v_getI (pc' := 40) 22 rfl rfl pf_X0_88 (bn1l hp0) (lay_lt (bn1l hp0) (by decide)) ?_
  refine v_icmp_gt (tgt := 104) (pc' := 43) 23 rfl rfl (by decide) (fun hc => ?_) (fun hc => ?_)
  · replace h := h.1 hc
    refine v_lload (pc' := 106) 56 3 rfl rfl rfl ?_
    exact v_lret 57 rfl rfl (by decide) (by decide) ⟨_, rfl, rfl, h⟩
  replace h := h.2 hc
  refine v_lload_n (pc' := 44) 24 2 rfl rfl rfl rfl ?_
  refine v_iload (pc' := 46) 25 6 rfl rfl rfl ?_
  refine v_cNS (Y2 := Y_X8_bitOf) (As := [.long v2, .int v8]) (pc' := 49) (c1 := 0) (s1 := 0) 26 rfl rfl mf_X8_bitOf rfl rfl nt_X0_80 ms_X8_bitOf rfl (Nat.le_of_ble_eq_true rfl) ⟨Nat.le_of_ble_eq_true rfl, Nat.le_of_ble_eq_true rfl⟩ rfl rfl (ok_X8_bitOf v2 v8 I L h) ?_ ?_
  · intro e9 u9 hx9
    exact hx9.elim
  intro v9 u9 hv9
  obtain ⟨r85, rfl, rfl, h⟩ := hv9
  refine ⟨fun q => absurd q (Nat.lt_irrefl _), ?_⟩
  show V G Y_X0_dearWave 49 _ (.int r85 :: _) _ _ _ _ _
  refine v_istore (ls' := [(9, .int r85), (0, .ref p0), (1, .int v1), (2, .long v2), (4, .long v4), (6, .int v6), (7, .int v7), (8, .int v8)]) (pc' := 51) 27 rfl rfl (by decide) rfl ?_
  refine v_iload (pc' := 53) 28 0 rfl rfl rfl ?_
  refine v_lload_n (pc' := 54) 29 3 rfl rfl rfl rfl ?_
  refine v_iload (pc' := 56) 30 7 rfl rfl rfl ?_
  refine v_iconst (v := 1) (pc' := 57) 31 rfl rfl (by decide) ?_
  refine v_isub (pc' := 58) 32 rfl rfl ?_
  refine v_cNS (Y2 := Y_X8_bitOf) (As := [.long v2, .int (v8 - 1)]) (pc' := 61) (c1 := 0) (s1 := 0) 33 rfl rfl mf_X8_bitOf rfl rfl nt_X0_80 ms_X8_bitOf rfl (Nat.le_of_ble_eq_true rfl) ⟨Nat.le_of_ble_eq_true rfl, Nat.le_of_ble_eq_true rfl⟩ rfl rfl (ok_X8_bitOf v2 (v8 - 1) I L h) ?_ ?_
  · intro e9 u9 hx9
    exact hx9.elim
  intro v9 u9 hv9
  obtain ⟨r86, rfl, rfl, h⟩ := hv9
  refine ⟨fun q => absurd q (Nat.lt_irrefl _), ?_⟩
  show V G Y_X0_dearWave 61 _ (.int r86 :: _) _ _ _ _ _
  refine v_icmp_eq (tgt := 68) (pc' := 64) 34 rfl rfl (by decide) (fun hc => ?_) (fun hc => ?_)
  · replace h := h.1 hc
    refine V.sub [1, 2, 3, 4, 5, 6, 7, 0] rfl ?_
    exact b_X0_dearWave_68 p0 v1 v2 v4 v6 v7 v8 r85 I L hp0 Q R31 hR31 h
  replace h := h.2 hc
  refine v_iload (pc' := 66) 35 7 rfl rfl rfl ?_
  refine v_istore (ls' := [(7, .int v8), (9, .int r85), (0, .ref p0), (1, .int v1), (2, .long v2), (4, .long v4), (6, .int v6), (8, .int v8)]) (pc' := 68) 36 rfl rfl (by decide) rfl ?_
  refine V.sub [2, 3, 4, 5, 6, 0, 7, 1] rfl ?_
  exact b_X0_dearWave_68 p0 v1 v2 v4 v6 v8 v8 r85 I L hp0 Q R31 hR31 h
theorem l_X0_dearWave_31 {G : GT} {b d t : Nat} (p0 : Nat) (v1 : Int32) (v2 : Int64) (I : TI) (L : TL) (hp0 : bnOK p0) (Q : Int64 → Prop)  : ∀ (n9 : Nat) (v4 : Int64) (v6 : Int32) (v7 : Int32) (v8 : Int32), L_X0_dearWave_31 p0 v1 v2 I L Q n9 v4 v6 v7 v8 → V G Y_X0_dearWave 31 [(0, .ref p0), (1, .int v1), (2, .long v2), (4, .long v4), (6, .int v6), (7, .int v7), (8, .int v8)] [] (I, L, RT b d t, 457) 0 0 (fun v9 u9 => ∃ (r9 : Int64), v9 = some (.long r9) ∧ u9 = (I, L, RT b d t, 457) ∧ Q r9) (fun _ _ => False)
  | 0, _, _, _, _, h => h.elim
  | n9 + 1, v4, v6, v7, v8, h => d_X0_dearWave_31 p0 v1 v2 I L hp0 Q _ (l_X0_dearWave_31 p0 v1 v2 I L hp0 Q n9) v4 v6 v7 v8 h
set_option maxHeartbeats 4000000 in
set_option maxRecDepth 100000 in
theorem ok_X0_dearWave {G : GT} {b d t : Nat} (p0 : Nat) (p1 : Int32) (I : TI) (L : TL) (hp0 : bnOK p0) {Q : Int64 → Prop} (h : W_X0_dearWave p0 p1 I L Q) : MW G Y_X0_dearWave [.ref p0, .int p1] (I, L, RT b d t, 457) (fun v9 u9 => ∃ (r9 : Int64), v9 = some (.long r9) ∧ u9 = (I, L, RT b d t, 457) ∧ Q r9) (fun _ _ => False) := by
  unfold W_X0_dearWave at h
  refine MW.intro rfl (by decide) is_X0_dearWave (Nat.le_of_ble_eq_true rfl) ?_
  show V G Y_X0_dearWave 0 [(0, .ref p0), (1, .int p1)] [] (I, L, RT b d t, 457) 0 0 _ _
  refine v_aload_n (pc' := 1) 0 0 rfl rfl rfl rfl ?_
  refine v_getR (t := (p0 + 1)) (pc' := 4) 1 rfl rfl pf_X0_12 (bn0l hp0) (lay_lt (bn0l hp0) (by decide)) (rt_bn_0 hp0) ?_
  refine v_iload_n (pc' := 5) 2 1 rfl rfl rfl rfl ?_
  refine v_aload_n (pc' := 6) 3 0 rfl rfl rfl rfl ?_
  refine v_getR (t := (p0 + 39)) (pc' := 9) 4 rfl rfl pf_X0_32 (bn0l hp0) (lay_lt (bn0l hp0) (by decide)) (rt_bn_4 hp0) ?_
  refine v_cV (Y2 := Y_X2_idealOf) (As := [.int p1, .ref (p0 + 39)]) (b := (p0 + 1)) (pc' := 12) (c1 := 0) (s1 := 0) 5 rfl rfl mf_X2_idealOf rfl rfl ml_X0_73 mi_X2_idealOf se_X2_idealOf (ci := 1) rfl (bn1l hp0) (lay_lt (bn1l hp0) (by decide)) rfl (Nat.le_of_ble_eq_true rfl) ⟨Nat.le_of_ble_eq_true rfl, Nat.le_of_ble_eq_true rfl⟩ rfl rfl (ok_X2_idealOf (p0 + 1) (p0 + 39) p1 I L (bn_ck hp0) (bn39l hp0) (bn39n hp0) h) ?_ ?_
  · intro e9 u9 hx9
    exact hx9.elim
  intro v9 u9 hv9
  obtain ⟨r87, rfl, rfl, h⟩ := hv9
  refine ⟨fun q => absurd q (Nat.lt_irrefl _), ?_⟩
  show V G Y_X0_dearWave 12 _ (.long r87 :: _) _ _ _ _ _
  refine v_lstore_n (ls' := [(2, .long r87), (0, .ref p0), (1, .int p1)]) (pc' := 13) 6 rfl rfl rfl (by decide) rfl ?_
  refine v_lload_n (pc' := 14) 7 0 rfl rfl rfl rfl ?_
  refine v_lconst (v := 1) (pc' := 15) 8 rfl rfl (by decide) ?_
  refine v_land (pc' := 16) 9 rfl rfl ?_
  refine v_lstore (ls' := [(4, .long (r87 &&& 1)), (2, .long r87), (0, .ref p0), (1, .int p1)]) (pc' := 18) 10 rfl rfl (by decide) rfl ?_
  refine v_lload_n (pc' := 19) 11 1 rfl rfl rfl rfl ?_
  refine v_iconst (v := 0) (pc' := 20) 12 rfl rfl (by decide) ?_
  refine v_cNS (Y2 := Y_X8_bitOf) (As := [.long r87, .int 0]) (pc' := 23) (c1 := 0) (s1 := 0) 13 rfl rfl mf_X8_bitOf rfl rfl nt_X0_80 ms_X8_bitOf rfl (Nat.le_of_ble_eq_true rfl) ⟨Nat.le_of_ble_eq_true rfl, Nat.le_of_ble_eq_true rfl⟩ rfl rfl (ok_X8_bitOf r87 (0 : Int32) I L h) ?_ ?_
  · intro e9 u9 hx9
    exact hx9.elim
  intro v9 u9 hv9
  obtain ⟨r88, rfl, rfl, h⟩ := hv9
  refine ⟨fun q => absurd q (Nat.lt_irrefl _), ?_⟩
  show V G Y_X0_dearWave 23 _ (.int r88 :: _) _ _ _ _ _
  refine v_istore (ls' := [(6, .int r88), (4, .long (r87 &&& 1)), (2, .long r87), (0, .ref p0), (1, .int p1)]) (pc' := 25) 14 rfl rfl (by decide) rfl ?_
  refine v_iconst (v := 0) (pc' := 26) 15 rfl rfl (by decide) ?_
  refine v_istore (ls' := [(7, .int 0), (6, .int r88), (4, .long (r87 &&& 1)), (2, .long r87), (0, .ref p0), (1, .int p1)]) (pc' := 28) 16 rfl rfl (by decide) rfl ?_
  refine v_iconst (v := 1) (pc' := 29) 17 rfl rfl (by decide) ?_
  refine v_istore (ls' := [(8, .int 1), (7, .int 0), (6, .int r88), (4, .long (r87 &&& 1)), (2, .long r87), (0, .ref p0), (1, .int p1)]) (pc' := 31) 18 rfl rfl (by decide) rfl ?_
  refine V.sub [5, 6, 4, 3, 2, 1, 0] rfl ?_
  obtain ⟨n89, h⟩ := h
  exact l_X0_dearWave_31 p0 p1 r87 I L hp0 Q n89 (r87 &&& 1) r88 (0 : Int32) (1 : Int32) h
set_option maxHeartbeats 4000000 in
set_option maxRecDepth 100000 in
theorem b_X0_longestPath_39 {G : GT} {b d t : Nat} (p0 : Nat) (v1 : Int32) (s0 : Int32) (s1 : Int32) (I : TI) (L : TL) (hp0 : bnOK p0) (Q : Int32 → Prop)  (h : B_X0_longestPath_39 p0 v1 s0 s1 I L Q) : V G Y_X0_longestPath 39 [(0, .ref p0), (1, .int v1)] [.int s1, .int s0] (I, L, RT b d t, 457) 0 0 (fun v9 u9 => ∃ (r9 : Int32), v9 = some (.int r9) ∧ u9 = (I, L, RT b d t, 457) ∧ Q r9) (fun _ _ => False) := by
  unfold B_X0_longestPath_39 at h
  refine v_mmax (pc' := 42) 23 rfl rfl mm_X0_101 (Nat.le_of_ble_eq_true rfl) (by decide) (by decide) ⟨Nat.le_of_ble_eq_true rfl, Nat.le_of_ble_eq_true rfl⟩ ?_
  refine v_istore_n (ls' := [(3, .int (mxI s0 s1)), (0, .ref p0), (1, .int v1)]) (pc' := 43) 24 rfl rfl rfl (by decide) rfl ?_
  refine v_iload_n (pc' := 44) 25 0 rfl rfl rfl rfl ?_
  refine v_aload_n (pc' := 45) 26 1 rfl rfl rfl rfl ?_
  refine v_iload_n (pc' := 46) 27 2 rfl rfl rfl rfl ?_
  refine v_iconst (v := 0) (pc' := 47) 28 rfl rfl (by decide) ?_
  refine v_cV (Y2 := Y_X0_swing) (As := [.int v1, .int 0]) (b := p0) (pc' := 50) (c1 := 0) (s1 := 0) 29 rfl rfl mf_X0_swing rfl rfl ml_X0_91 mi_X0_swing se_X0_swing (ci := 0) rfl (bn0l hp0) (lay_lt (bn0l hp0) (by decide)) rfl (Nat.le_of_ble_eq_true rfl) ⟨Nat.le_of_ble_eq_true rfl, Nat.le_of_ble_eq_true rfl⟩ rfl rfl (ok_X0_swing p0 v1 (0 : Int32) I L hp0 h) ?_ ?_
  · intro e9 u9 hx9
    exact hx9.elim
  intro v9 u9 hv9
  obtain ⟨r102, rfl, rfl, h⟩ := hv9
  refine ⟨fun q => absurd q (Nat.lt_irrefl _), ?_⟩
  show V G Y_X0_longestPath 50 _ (.int r102 :: _) _ _ _ _ _
  refine v_aload_n (pc' := 51) 30 1 rfl rfl rfl rfl ?_
  refine v_iload_n (pc' := 52) 31 2 rfl rfl rfl rfl ?_
  refine v_iconst (v := 1) (pc' := 53) 32 rfl rfl (by decide) ?_
  refine v_cV (Y2 := Y_X0_swing) (As := [.int v1, .int 1]) (b := p0) (pc' := 56) (c1 := 0) (s1 := 0) 33 rfl rfl mf_X0_swing rfl rfl ml_X0_91 mi_X0_swing se_X0_swing (ci := 0) rfl (bn0l hp0) (lay_lt (bn0l hp0) (by decide)) rfl (Nat.le_of_ble_eq_true rfl) ⟨Nat.le_of_ble_eq_true rfl, Nat.le_of_ble_eq_true rfl⟩ rfl rfl (ok_X0_swing p0 v1 (1 : Int32) I L hp0 h) ?_ ?_
  · intro e9 u9 hx9
    exact hx9.elim
  intro v9 u9 hv9
  obtain ⟨r103, rfl, rfl, h⟩ := hv9
  refine ⟨fun q => absurd q (Nat.lt_irrefl _), ?_⟩
  show V G Y_X0_longestPath 56 _ (.int r103 :: _) _ _ _ _ _
  refine v_mmax (pc' := 59) 34 rfl rfl mm_X0_101 (Nat.le_of_ble_eq_true rfl) (by decide) (by decide) ⟨Nat.le_of_ble_eq_true rfl, Nat.le_of_ble_eq_true rfl⟩ ?_
  refine v_iadd (pc' := 60) 35 rfl rfl ?_
  exact v_iret 36 rfl rfl (by decide) (by decide) ⟨_, rfl, rfl, h⟩
set_option maxHeartbeats 4000000 in
set_option maxRecDepth 100000 in
theorem ok_X0_longestPath {G : GT} {b d t : Nat} (p0 : Nat) (p1 : Int32) (I : TI) (L : TL) (hp0 : bnOK p0) {Q : Int32 → Prop} (h : W_X0_longestPath p0 p1 I L Q) : MW G Y_X0_longestPath [.ref p0, .int p1] (I, L, RT b d t, 457) (fun v9 u9 => ∃ (r9 : Int32), v9 = some (.int r9) ∧ u9 = (I, L, RT b d t, 457) ∧ Q r9) (fun _ _ => False) := by
  unfold W_X0_longestPath at h
  refine MW.intro rfl (by decide) is_X0_longestPath (Nat.le_of_ble_eq_true rfl) ?_
  show V G Y_X0_longestPath 0 [(0, .ref p0), (1, .int p1)] [] (I, L, RT b d t, 457) 0 0 _ _
  refine v_aload_n (pc' := 1) 0 0 rfl rfl rfl rfl ?_
  refine v_getR (t := (p0 + 1)) (pc' := 4) 1 rfl rfl pf_X0_12 (bn0l hp0) (lay_lt (bn0l hp0) (by decide)) (rt_bn_0 hp0) ?_
  refine v_getR (t := (p0 + 4)) (pc' := 7) 2 rfl rfl pf_X0_95 (bn1l hp0) (lay_lt (bn1l hp0) (by decide)) (rt_ck_2 (bn_ck hp0)) ?_
  refine v_iload_n (pc' := 8) 3 1 rfl rfl rfl rfl ?_
  obtain ⟨hi104, h⟩ := h
  refine v_iald (i := p1) (j := p1.toNatClampNeg) (pc' := 9) 4 rfl rfl (bn4l hp0) (bn4n hp0) (lay_lt (bn4l hp0) (by decide)) hi104 rfl ?_
  refine nm_I (e := (I (p0 + 4) (p1.toNatClampNeg))) (fun x105 hx105 => ?_)
  replace h := h x105 hx105
  refine v_istore_n (ls' := [(2, .int x105), (0, .ref p0), (1, .int p1)]) (pc' := 10) 5 rfl rfl rfl (by decide) rfl ?_
  refine v_aload_n (pc' := 11) 6 1 rfl rfl rfl rfl ?_
  refine v_getR (t := (p0 + 41)) (pc' := 14) 7 rfl rfl pf_X0_38 (bn0l hp0) (lay_lt (bn0l hp0) (by decide)) (rt_bn_6 hp0) ?_
  refine v_aload_n (pc' := 15) 8 1 rfl rfl rfl rfl ?_
  refine v_getR (t := (p0 + 1)) (pc' := 18) 9 rfl rfl pf_X0_12 (bn0l hp0) (lay_lt (bn0l hp0) (by decide)) (rt_bn_0 hp0) ?_
  refine v_getR (t := (p0 + 3)) (pc' := 21) 10 rfl rfl pf_X0_98 (bn1l hp0) (lay_lt (bn1l hp0) (by decide)) (rt_ck_1 (bn_ck hp0)) ?_
  refine v_iload_n (pc' := 22) 11 2 rfl rfl rfl rfl ?_
  obtain ⟨hi106, h⟩ := h
  refine v_iald (i := p1) (j := p1.toNatClampNeg) (pc' := 23) 12 rfl rfl (bn3l hp0) (bn3n hp0) (lay_lt (bn3l hp0) (by decide)) hi106 rfl ?_
  obtain ⟨hi107, h⟩ := h
  refine v_iald (i := (I (p0 + 3) (p1.toNatClampNeg))) (j := (I (p0 + 3) (p1.toNatClampNeg)).toNatClampNeg) (pc' := 24) 13 rfl rfl (bn41l hp0) (bn41n hp0) (lay_lt (bn41l hp0) (by decide)) hi107 rfl ?_
  refine v_iload_n (pc' := 25) 14 0 rfl rfl rfl rfl ?_
  refine v_iconst (v := -1) (pc' := 26) 15 rfl rfl (by decide) ?_
  refine v_icmp_ne (tgt := 33) (pc' := 29) 16 rfl rfl (by decide) (fun hc => ?_) (fun hc => ?_)
  · replace h := h.1 hc
    refine v_aload_n (pc' := 34) 19 1 rfl rfl rfl rfl ?_
    refine v_getR (t := (p0 + 41)) (pc' := 37) 20 rfl rfl pf_X0_38 (bn0l hp0) (lay_lt (bn0l hp0) (by decide)) (rt_bn_6 hp0) ?_
    refine v_iload_n (pc' := 38) 21 0 rfl rfl rfl rfl ?_
    obtain ⟨hi108, h⟩ := h
    refine v_iald (i := x105) (j := x105.toNatClampNeg) (pc' := 39) 22 rfl rfl (bn41l hp0) (bn41n hp0) (lay_lt (bn41l hp0) (by decide)) hi108 rfl ?_
    refine V.sub [1, 2] rfl ?_
    exact b_X0_longestPath_39 p0 p1 (I (p0 + 41) ((I (p0 + 3) (p1.toNatClampNeg)).toNatClampNeg)) (I (p0 + 41) (x105.toNatClampNeg)) I L hp0 Q h
  replace h := h.2 hc
  refine v_iconst (v := 0) (pc' := 30) 17 rfl rfl (by decide) ?_
  refine v_goto (tgt := 39) 18 rfl (by decide) ?_
  refine V.sub [1, 2] rfl ?_
  exact b_X0_longestPath_39 p0 p1 (I (p0 + 41) ((I (p0 + 3) (p1.toNatClampNeg)).toNatClampNeg)) (0 : Int32) I L hp0 Q h
set_option maxHeartbeats 4000000 in
set_option maxRecDepth 100000 in
theorem b_X0_showInto_99 {G : GT} {b d t : Nat} (p0 : Nat) (p1 : Nat) (v2 : Int32) (v3 : Int64) (v5 : Int32) (v6 : Int64) (s0 : Int64) (I : TI) (L : TL) (hp0 : bnOK p0) (hp1 : LAY p1 = 21) (hp1n : LEN p1 = 16) (Q : TL → Prop) (R44 : Int32 → TL → Prop) (hR44 : ∀ (v5 : Int32) (L : TL), R44 v5 L → V G Y_X0_showInto 44 [(0, .ref p0), (1, .ref p1), (2, .int v2), (3, .long v3), (5, .int v5)] [] (I, L, RT b d t, 457) 0 0 (fun v9 u9 => ∃ (L9 : TL), v9 = none ∧ u9 = (I, L9, RT b d t, 457) ∧ Q L9) (fun _ _ => False)) (h : B_X0_showInto_99 p0 p1 v2 v3 v5 v6 s0 I L Q R44) : V G Y_X0_showInto 99 [(0, .ref p0), (1, .ref p1), (2, .int v2), (3, .long v3), (5, .int v5), (6, .long v6)] [.long s0] (I, L, RT b d t, 457) 0 0 (fun v9 u9 => ∃ (L9 : TL), v9 = none ∧ u9 = (I, L9, RT b d t, 457) ∧ Q L9) (fun _ _ => False) := by
  unfold B_X0_showInto_99 at h
  refine v_lstore (ls' := [(8, .long s0), (0, .ref p0), (1, .ref p1), (2, .int v2), (3, .long v3), (5, .int v5), (6, .long v6)]) (pc' := 101) 48 rfl rfl (by decide) rfl ?_
  refine v_aload_n (pc' := 102) 49 1 rfl rfl rfl rfl ?_
  refine v_iload (pc' := 104) 50 5 rfl rfl rfl ?_
  refine v_aload_n (pc' := 105) 51 2 rfl rfl rfl rfl ?_
  refine v_cV (Y2 := Y_X0_lateWave) (As := [.int v5, .ref p1]) (b := p0) (pc' := 108) (c1 := 0) (s1 := 0) 52 rfl rfl mf_X0_lateWave rfl rfl ml_X0_57 mi_X0_lateWave se_X0_lateWave (ci := 0) rfl (bn0l hp0) (lay_lt (bn0l hp0) (by decide)) rfl (Nat.le_of_ble_eq_true rfl) ⟨Nat.le_of_ble_eq_true rfl, Nat.le_of_ble_eq_true rfl⟩ rfl rfl (ok_X0_lateWave p0 p1 v5 I L hp0 hp1 hp1n h) ?_ ?_
  · intro e9 u9 hx9
    exact hx9.elim
  intro v9 u9 hv9
  obtain ⟨r127, rfl, rfl, h⟩ := hv9
  refine ⟨fun q => absurd q (Nat.lt_irrefl _), ?_⟩
  show V G Y_X0_showInto 108 _ (.long r127 :: _) _ _ _ _ _
  refine v_lload (pc' := 110) 53 6 rfl rfl rfl ?_
  refine v_ldc2 (v := -1) (pc' := 113) 54 rfl rfl kl_X0_112 ?_
  refine v_lxor (pc' := 114) 55 rfl rfl ?_
  refine v_land (pc' := 115) 56 rfl rfl ?_
  refine v_aload_n (pc' := 116) 57 1 rfl rfl rfl rfl ?_
  refine v_getR (t := (p0 + 6)) (pc' := 119) 58 rfl rfl pf_X0_21 (bn0l hp0) (lay_lt (bn0l hp0) (by decide)) (rt_bn_1 hp0) ?_
  refine v_getR (t := (p0 + 14)) (pc' := 122) 59 rfl rfl pf_X0_114 (bn6l hp0) (lay_lt (bn6l hp0) (by decide)) (rt_st_4 (bn_st hp0)) ?_
  refine v_iload (pc' := 124) 60 5 rfl rfl rfl ?_
  obtain ⟨hi128, h⟩ := h
  refine v_lald (i := v5) (j := v5.toNatClampNeg) (pc' := 125) 61 rfl rfl (bn14l hp0) (bn14n hp0) (lay_lt (bn14l hp0) (by decide)) hi128 rfl ?_
  refine v_lor (pc' := 126) 62 rfl rfl ?_
  refine nm_J (e := ((r127 &&& (v6 ^^^ (-1))) ||| (L (p0 + 14) (v5.toNatClampNeg)))) (fun x129 hx129 => ?_)
  replace h := h x129 hx129
  refine v_lstore (ls' := [(10, .long x129), (8, .long s0), (0, .ref p0), (1, .ref p1), (2, .int v2), (3, .long v3), (5, .int v5), (6, .long v6)]) (pc' := 128) 63 rfl rfl (by decide) rfl ?_
  refine v_aload_n (pc' := 129) 64 3 rfl rfl rfl rfl ?_
  refine v_iload (pc' := 131) 65 6 rfl rfl rfl ?_
  refine v_lload (pc' := 133) 66 0 rfl rfl rfl ?_
  refine v_lload (pc' := 135) 67 1 rfl rfl rfl ?_
  refine v_ldc2 (v := -1) (pc' := 138) 68 rfl rfl kl_X0_112 ?_
  refine v_lxor (pc' := 139) 69 rfl rfl ?_
  refine v_land (pc' := 140) 70 rfl rfl ?_
  refine v_aload_n (pc' := 141) 71 2 rfl rfl rfl rfl ?_
  refine v_getR (t := (p0 + 39)) (pc' := 144) 72 rfl rfl pf_X0_32 (bn0l hp0) (lay_lt (bn0l hp0) (by decide)) (rt_bn_4 hp0) ?_
  refine v_iload (pc' := 146) 73 6 rfl rfl rfl ?_
  obtain ⟨hi130, h⟩ := h
  refine v_lald (i := v5) (j := v5.toNatClampNeg) (pc' := 147) 74 rfl rfl (bn39l hp0) (bn39n hp0) (lay_lt (bn39l hp0) (by decide)) hi130 rfl ?_
  refine v_lload (pc' := 149) 75 1 rfl rfl rfl ?_
  refine v_land (pc' := 150) 76 rfl rfl ?_
  refine v_lor (pc' := 151) 77 rfl rfl ?_
  obtain ⟨hi131, h⟩ := h
  refine v_last (i := v5) (j := v5.toNatClampNeg) (pc' := 152) 78 rfl rfl hp1 hp1n (lay_lt hp1 (by decide)) hi131 rfl ?_
  refine nm_N (e := (up2 L p1 (v5.toNatClampNeg) ((x129 &&& (s0 ^^^ (-1))) ||| ((L (p0 + 39) (v5.toNatClampNeg)) &&& s0)))) (fun L132 hL132 => ?_)
  replace h := h L132 hL132
  refine v_iinc (v := (v5 + 1)) (ls' := [(5, .int (v5 + 1)), (10, .long x129), (8, .long s0), (0, .ref p0), (1, .ref p1), (2, .int v2), (3, .long v3), (6, .long v6)]) (pc' := 155) 79 6 rfl rfl rfl rfl (by decide) rfl ?_
  refine v_goto (tgt := 44) 80 rfl (by decide) ?_
  refine V.sub [3, 4, 5, 6, 0] rfl ?_
  exact hR44 (v5 + 1) L132 h
set_option maxHeartbeats 4000000 in
set_option maxRecDepth 100000 in
theorem d_X0_showInto_44 {G : GT} {b d t : Nat} (p0 : Nat) (p1 : Nat) (v2 : Int32) (v3 : Int64) (I : TI) (hp0 : bnOK p0) (hp1 : LAY p1 = 21) (hp1n : LEN p1 = 16) (Q : TL → Prop) (R44 : Int32 → TL → Prop)  (hR44 : ∀ (v5 : Int32) (L : TL), R44 v5 L → V G Y_X0_showInto 44 [(0, .ref p0), (1, .ref p1), (2, .int v2), (3, .long v3), (5, .int v5)] [] (I, L, RT b d t, 457) 0 0 (fun v9 u9 => ∃ (L9 : TL), v9 = none ∧ u9 = (I, L9, RT b d t, 457) ∧ Q L9) (fun _ _ => False)) (v5 : Int32) (L : TL)  (h : D_X0_showInto_44 p0 p1 v2 v3 I Q R44 v5 L) : V G Y_X0_showInto 44 [(0, .ref p0), (1, .ref p1), (2, .int v2), (3, .long v3), (5, .int v5)] [] (I, L, RT b d t, 457) 0 0 (fun v9 u9 => ∃ (L9 : TL), v9 = none ∧ u9 = (I, L9, RT b d t, 457) ∧ Q L9) (fun _ _ => False) := by
  unfold D_X0_showInto_44 at h
  refine v_iload (pc' := 46) 21 4 rfl rfl rfl ?_
  refine v_aload_n (pc' := 47) 22 0 rfl rfl rfl rfl ?_
  refine v_getR (t := (p0 + 1)) (pc' := 50) 23 rfl rfl pf_X0_12 (bn0l hp0) (lay_lt (bn0l hp0) (by decide)) (rt_bn_0 hp0) ?_
  refine v_cV (Y2 := Y_X2_nets) (As := []) (b := (p0 + 1)) (pc' := 53) (c1 := 0) (s1 := 0) 24 rfl rfl mf_X2_nets rfl rfl ml_X0_53 mi_X2_nets se_X2_nets (ci := 1) rfl (bn1l hp0) (lay_lt (bn1l hp0) (by decide)) rfl (Nat.le_of_ble_eq_true rfl) ⟨Nat.le_of_ble_eq_true rfl, Nat.le_of_ble_eq_true rfl⟩ rfl rfl (ok_X2_nets (p0 + 1) I L (bn_ck hp0) h) ?_ ?_
  · intro e9 u9 hx9
    exact hx9.elim
  intro v9 u9 hv9
  obtain ⟨r133, rfl, rfl, h⟩ := hv9
  refine ⟨fun q => absurd q (Nat.lt_irrefl _), ?_⟩
  show V G Y_X0_showInto 53 _ (.int r133 :: _) _ _ _ _ _
  refine v_icmp_ge (tgt := 158) (pc' := 56) 25 rfl rfl (by decide) (fun hc => ?_) (fun hc => ?_)
  · replace h := h.1 hc
    exact v_vret 81 rfl rfl (by decide) (by decide) ⟨_, rfl, rfl, h⟩
  replace h := h.2 hc
  refine v_aload_n (pc' := 57) 26 0 rfl rfl rfl rfl ?_
  refine v_getR (t := (p0 + 6)) (pc' := 60) 27 rfl rfl pf_X0_21 (bn0l hp0) (lay_lt (bn0l hp0) (by decide)) (rt_bn_1 hp0) ?_
  refine v_getR (t := (p0 + 13)) (pc' := 63) 28 rfl rfl pf_X0_106 (bn6l hp0) (lay_lt (bn6l hp0) (by decide)) (rt_st_3 (bn_st hp0)) ?_
  refine v_iload (pc' := 65) 29 4 rfl rfl rfl ?_
  obtain ⟨hi134, h⟩ := h
  refine v_lald (i := v5) (j := v5.toNatClampNeg) (pc' := 66) 30 rfl rfl (bn13l hp0) (bn13n hp0) (lay_lt (bn13l hp0) (by decide)) hi134 rfl ?_
  refine nm_J (e := (L (p0 + 13) (v5.toNatClampNeg))) (fun x135 hx135 => ?_)
  replace h := h x135 hx135
  refine v_lstore (ls' := [(6, .long x135), (0, .ref p0), (1, .ref p1), (2, .int v2), (3, .long v3), (5, .int v5)]) (pc' := 68) 31 rfl rfl (by decide) rfl ?_
  refine v_iload (pc' := 70) 32 5 rfl rfl rfl ?_
  refine v_iload_n (pc' := 71) 33 3 rfl rfl rfl rfl ?_
  refine v_icmp_ne (tgt := 89) (pc' := 74) 34 rfl rfl (by decide) (fun hc => ?_) (fun hc => ?_)
  · replace h := h.1 hc
    refine v_aload_n (pc' := 90) 43 1 rfl rfl rfl rfl ?_
    refine v_getR (t := (p0 + 6)) (pc' := 93) 44 rfl rfl pf_X0_21 (bn0l hp0) (lay_lt (bn0l hp0) (by decide)) (rt_bn_1 hp0) ?_
    refine v_getR (t := (p0 + 12)) (pc' := 96) 45 rfl rfl pf_X0_109 (bn6l hp0) (lay_lt (bn6l hp0) (by decide)) (rt_st_2 (bn_st hp0)) ?_
    refine v_iload (pc' := 98) 46 5 rfl rfl rfl ?_
    obtain ⟨hi136, h⟩ := h
    refine v_lald (i := v5) (j := v5.toNatClampNeg) (pc' := 99) 47 rfl rfl (bn12l hp0) (bn12n hp0) (lay_lt (bn12l hp0) (by decide)) hi136 rfl ?_
    refine V.sub [1, 2, 3, 4, 5, 0] rfl ?_
    exact b_X0_showInto_99 p0 p1 v2 v3 v5 x135 (L (p0 + 12) (v5.toNatClampNeg)) I L hp0 hp1 hp1n Q R44 hR44 h
  replace h := h.2 hc
  refine v_aload_n (pc' := 75) 35 1 rfl rfl rfl rfl ?_
  refine v_getR (t := (p0 + 6)) (pc' := 78) 36 rfl rfl pf_X0_21 (bn0l hp0) (lay_lt (bn0l hp0) (by decide)) (rt_bn_1 hp0) ?_
  refine v_getR (t := (p0 + 12)) (pc' := 81) 37 rfl rfl pf_X0_109 (bn6l hp0) (lay_lt (bn6l hp0) (by decide)) (rt_st_2 (bn_st hp0)) ?_
  refine v_iload (pc' := 83) 38 5 rfl rfl rfl ?_
  obtain ⟨hi137, h⟩ := h
  refine v_lald (i := v5) (j := v5.toNatClampNeg) (pc' := 84) 39 rfl rfl (bn12l hp0) (bn12n hp0) (lay_lt (bn12l hp0) (by decide)) hi137 rfl ?_
  refine v_lload_n (pc' := 85) 40 4 rfl rfl rfl rfl ?_
  refine v_lor (pc' := 86) 41 rfl rfl ?_
  refine v_goto (tgt := 99) 42 rfl (by decide) ?_
  refine V.sub [1, 2, 3, 4, 5, 0] rfl ?_
  exact b_X0_showInto_99 p0 p1 v2 v3 v5 x135 ((L (p0 + 12) (v5.toNatClampNeg)) ||| v3) I L hp0 hp1 hp1n Q R44 hR44 h
theorem l_X0_showInto_44 {G : GT} {b d t : Nat} (p0 : Nat) (p1 : Nat) (v2 : Int32) (v3 : Int64) (I : TI) (hp0 : bnOK p0) (hp1 : LAY p1 = 21) (hp1n : LEN p1 = 16) (Q : TL → Prop)  : ∀ (n9 : Nat) (v5 : Int32) (L : TL), L_X0_showInto_44 p0 p1 v2 v3 I Q n9 v5 L → V G Y_X0_showInto 44 [(0, .ref p0), (1, .ref p1), (2, .int v2), (3, .long v3), (5, .int v5)] [] (I, L, RT b d t, 457) 0 0 (fun v9 u9 => ∃ (L9 : TL), v9 = none ∧ u9 = (I, L9, RT b d t, 457) ∧ Q L9) (fun _ _ => False)
  | 0, _, _, h => h.elim
  | n9 + 1, v5, L, h => d_X0_showInto_44 p0 p1 v2 v3 I hp0 hp1 hp1n Q _ (l_X0_showInto_44 p0 p1 v2 v3 I hp0 hp1 hp1n Q n9) v5 L h
set_option maxHeartbeats 4000000 in
set_option maxRecDepth 100000 in
theorem d_X0_showInto_3 {G : GT} {b d t : Nat} (p0 : Nat) (p1 : Nat) (v2 : Int32) (v3 : Int64) (I : TI) (hp0 : bnOK p0) (hp1 : LAY p1 = 21) (hp1n : LEN p1 = 16) (Q : TL → Prop) (R3 : Int32 → TL → Prop)  (hR3 : ∀ (v5 : Int32) (L : TL), R3 v5 L → V G Y_X0_showInto 3 [(0, .ref p0), (1, .ref p1), (2, .int v2), (3, .long v3), (5, .int v5)] [] (I, L, RT b d t, 457) 0 0 (fun v9 u9 => ∃ (L9 : TL), v9 = none ∧ u9 = (I, L9, RT b d t, 457) ∧ Q L9) (fun _ _ => False)) (v5 : Int32) (L : TL)  (h : D_X0_showInto_3 p0 p1 v2 v3 I Q R3 v5 L) : V G Y_X0_showInto 3 [(0, .ref p0), (1, .ref p1), (2, .int v2), (3, .long v3), (5, .int v5)] [] (I, L, RT b d t, 457) 0 0 (fun v9 u9 => ∃ (L9 : TL), v9 = none ∧ u9 = (I, L9, RT b d t, 457) ∧ Q L9) (fun _ _ => False) := by
  unfold D_X0_showInto_3 at h
  refine v_iload (pc' := 5) 2 4 rfl rfl rfl ?_
  refine v_aload_n (pc' := 6) 3 0 rfl rfl rfl rfl ?_
  refine v_getR (t := (p0 + 1)) (pc' := 9) 4 rfl rfl pf_X0_12 (bn0l hp0) (lay_lt (bn0l hp0) (by decide)) (rt_bn_0 hp0) ?_
  refine v_getI (pc' := 12) 5 rfl rfl pf_X0_46 (bn1l hp0) (lay_lt (bn1l hp0) (by decide)) ?_
  refine v_icmp_ge (tgt := 35) (pc' := 15) 6 rfl rfl (by decide) (fun hc => ?_) (fun hc => ?_)
  · replace h := h.1 hc
    refine v_aload_n (pc' := 36) 17 0 rfl rfl rfl rfl ?_
    refine v_getR (t := (p0 + 1)) (pc' := 39) 18 rfl rfl pf_X0_12 (bn0l hp0) (lay_lt (bn0l hp0) (by decide)) (rt_bn_0 hp0) ?_
    refine v_getI (pc' := 42) 19 rfl rfl pf_X0_46 (bn1l hp0) (lay_lt (bn1l hp0) (by decide)) ?_
    refine v_istore (ls' := [(5, .int (I (p0 + 1) 4)), (0, .ref p0), (1, .ref p1), (2, .int v2), (3, .long v3)]) (pc' := 44) 20 rfl rfl (by decide) rfl ?_
    refine V.sub [1, 2, 3, 4, 0] rfl ?_
    obtain ⟨n138, h⟩ := h
    exact l_X0_showInto_44 p0 p1 v2 v3 I hp0 hp1 hp1n Q n138 (I (p0 + 1) 4) L h
  replace h := h.2 hc
  refine v_aload_n (pc' := 16) 7 1 rfl rfl rfl rfl ?_
  refine v_iload (pc' := 18) 8 4 rfl rfl rfl ?_
  refine v_aload_n (pc' := 19) 9 0 rfl rfl rfl rfl ?_
  refine v_getR (t := (p0 + 6)) (pc' := 22) 10 rfl rfl pf_X0_21 (bn0l hp0) (lay_lt (bn0l hp0) (by decide)) (rt_bn_1 hp0) ?_
  refine v_getR (t := (p0 + 11)) (pc' := 25) 11 rfl rfl pf_X0_50 (bn6l hp0) (lay_lt (bn6l hp0) (by decide)) (rt_st_1 (bn_st hp0)) ?_
  refine v_iload (pc' := 27) 12 4 rfl rfl rfl ?_
  obtain ⟨hi139, h⟩ := h
  refine v_lald (i := v5) (j := v5.toNatClampNeg) (pc' := 28) 13 rfl rfl (bn11l hp0) (bn11n hp0) (lay_lt (bn11l hp0) (by decide)) hi139 rfl ?_
  obtain ⟨hi140, h⟩ := h
  refine v_last (i := v5) (j := v5.toNatClampNeg) (pc' := 29) 14 rfl rfl hp1 hp1n (lay_lt hp1 (by decide)) hi140 rfl ?_
  refine nm_N (e := (up2 L p1 (v5.toNatClampNeg) (L (p0 + 11) (v5.toNatClampNeg)))) (fun L141 hL141 => ?_)
  replace h := h L141 hL141
  refine v_iinc (v := (v5 + 1)) (ls' := [(5, .int (v5 + 1)), (0, .ref p0), (1, .ref p1), (2, .int v2), (3, .long v3)]) (pc' := 32) 15 4 rfl rfl rfl rfl (by decide) rfl ?_
  refine v_goto (tgt := 3) 16 rfl (by decide) ?_
  refine V.sub [1, 2, 3, 4, 0] rfl ?_
  exact hR3 (v5 + 1) L141 h
theorem l_X0_showInto_3 {G : GT} {b d t : Nat} (p0 : Nat) (p1 : Nat) (v2 : Int32) (v3 : Int64) (I : TI) (hp0 : bnOK p0) (hp1 : LAY p1 = 21) (hp1n : LEN p1 = 16) (Q : TL → Prop)  : ∀ (n9 : Nat) (v5 : Int32) (L : TL), L_X0_showInto_3 p0 p1 v2 v3 I Q n9 v5 L → V G Y_X0_showInto 3 [(0, .ref p0), (1, .ref p1), (2, .int v2), (3, .long v3), (5, .int v5)] [] (I, L, RT b d t, 457) 0 0 (fun v9 u9 => ∃ (L9 : TL), v9 = none ∧ u9 = (I, L9, RT b d t, 457) ∧ Q L9) (fun _ _ => False)
  | 0, _, _, h => h.elim
  | n9 + 1, v5, L, h => d_X0_showInto_3 p0 p1 v2 v3 I hp0 hp1 hp1n Q _ (l_X0_showInto_3 p0 p1 v2 v3 I hp0 hp1 hp1n Q n9) v5 L h
set_option maxHeartbeats 4000000 in
set_option maxRecDepth 100000 in
theorem ok_X0_showInto {G : GT} {b d t : Nat} (p0 : Nat) (p1 : Nat) (p2 : Int32) (p3 : Int64) (I : TI) (L : TL) (hp0 : bnOK p0) (hp1 : LAY p1 = 21) (hp1n : LEN p1 = 16) {Q : TL → Prop} (h : W_X0_showInto p0 p1 p2 p3 I L Q) : MW G Y_X0_showInto [.ref p0, .ref p1, .int p2, .long p3] (I, L, RT b d t, 457) (fun v9 u9 => ∃ (L9 : TL), v9 = none ∧ u9 = (I, L9, RT b d t, 457) ∧ Q L9) (fun _ _ => False) := by
  unfold W_X0_showInto at h
  refine MW.intro rfl (by decide) is_X0_showInto (Nat.le_of_ble_eq_true rfl) ?_
  show V G Y_X0_showInto 0 [(0, .ref p0), (1, .ref p1), (2, .int p2), (3, .long p3)] [] (I, L, RT b d t, 457) 0 0 _ _
  refine v_iconst (v := 0) (pc' := 1) 0 rfl rfl (by decide) ?_
  refine v_istore (ls' := [(5, .int 0), (0, .ref p0), (1, .ref p1), (2, .int p2), (3, .long p3)]) (pc' := 3) 1 rfl rfl (by decide) rfl ?_
  refine V.sub [1, 2, 3, 4, 0] rfl ?_
  obtain ⟨n142, h⟩ := h
  exact l_X0_showInto_3 p0 p1 p2 p3 I hp0 hp1 hp1n Q n142 (0 : Int32) L h
set_option maxHeartbeats 4000000 in
set_option maxRecDepth 100000 in
theorem d_X0_refresh_64 {G : GT} {b d t : Nat} (p0 : Nat) (hp0 : bnOK p0) (Q : TI → TL → Prop) (R64 : Int32 → TI → TL → Prop)  (hR64 : ∀ (v1 : Int32) (I : TI) (L : TL), R64 v1 I L → V G Y_X0_refresh 64 [(0, .ref p0), (1, .int v1)] [] (I, L, RT b d t, 457) 0 0 (fun v9 u9 => ∃ (I9 : TI) (L9 : TL), v9 = none ∧ u9 = (I9, L9, RT b d t, 457) ∧ Q I9 L9) (fun _ _ => False)) (v1 : Int32) (I : TI) (L : TL)  (h : D_X0_refresh_64 p0 Q R64 v1 I L) : V G Y_X0_refresh 64 [(0, .ref p0), (1, .int v1)] [] (I, L, RT b d t, 457) 0 0 (fun v9 u9 => ∃ (I9 : TI) (L9 : TL), v9 = none ∧ u9 = (I9, L9, RT b d t, 457) ∧ Q I9 L9) (fun _ _ => False) := by
  unfold D_X0_refresh_64 at h
  refine v_iload_n (pc' := 65) 36 1 rfl rfl rfl rfl ?_
  refine v_aload_n (pc' := 66) 37 0 rfl rfl rfl rfl ?_
  refine v_getR (t := (p0 + 1)) (pc' := 69) 38 rfl rfl pf_X0_12 (bn0l hp0) (lay_lt (bn0l hp0) (by decide)) (rt_bn_0 hp0) ?_
  refine v_cV (Y2 := Y_X2_nets) (As := []) (b := (p0 + 1)) (pc' := 72) (c1 := 0) (s1 := 0) 39 rfl rfl mf_X2_nets rfl rfl ml_X0_53 mi_X2_nets se_X2_nets (ci := 1) rfl (bn1l hp0) (lay_lt (bn1l hp0) (by decide)) rfl (Nat.le_of_ble_eq_true rfl) ⟨Nat.le_of_ble_eq_true rfl, Nat.le_of_ble_eq_true rfl⟩ rfl rfl (ok_X2_nets (p0 + 1) I L (bn_ck hp0) h) ?_ ?_
  · intro e9 u9 hx9
    exact hx9.elim
  intro v9 u9 hv9
  obtain ⟨r161, rfl, rfl, h⟩ := hv9
  refine ⟨fun q => absurd q (Nat.lt_irrefl _), ?_⟩
  show V G Y_X0_refresh 72 _ (.int r161 :: _) _ _ _ _ _
  refine v_icmp_ge (tgt := 118) (pc' := 75) 40 rfl rfl (by decide) (fun hc => ?_) (fun hc => ?_)
  · replace h := h.1 hc
    refine v_aload_n (pc' := 119) 66 0 rfl rfl rfl rfl ?_
    refine v_aload_n (pc' := 120) 67 0 rfl rfl rfl rfl ?_
    refine v_getR (t := (p0 + 37)) (pc' := 123) 68 rfl rfl pf_X0_25 (bn0l hp0) (lay_lt (bn0l hp0) (by decide)) (rt_bn_2 hp0) ?_
    refine v_iconst (v := -1) (pc' := 124) 69 rfl rfl (by decide) ?_
    refine v_lconst (v := 0) (pc' := 125) 70 rfl rfl (by decide) ?_
    refine v_cV (Y2 := Y_X0_showInto) (As := [.ref (p0 + 37), .int (-1), .long 0]) (b := p0) (pc' := 128) (c1 := 0) (s1 := 0) 71 rfl rfl mf_X0_showInto rfl rfl ml_X0_69 mi_X0_showInto se_X0_showInto (ci := 0) rfl (bn0l hp0) (lay_lt (bn0l hp0) (by decide)) rfl (Nat.le_of_ble_eq_true rfl) ⟨Nat.le_of_ble_eq_true rfl, Nat.le_of_ble_eq_true rfl⟩ rfl rfl (ok_X0_showInto p0 (p0 + 37) ((-1) : Int32) (0 : Int64) I L hp0 (bn37l hp0) (bn37n hp0) h) ?_ ?_
    · intro e9 u9 hx9
      exact hx9.elim
    intro v9 u9 hv9
    obtain ⟨L162, rfl, rfl, h⟩ := hv9
    refine ⟨fun q => absurd q (Nat.lt_irrefl _), ?_⟩
    show V G Y_X0_refresh 128 _ _ _ _ _ _ _
    exact v_vret 72 rfl rfl (by decide) (by decide) ⟨_, _, rfl, rfl, h⟩
  replace h := h.2 hc
  refine v_aload_n (pc' := 76) 41 0 rfl rfl rfl rfl ?_
  refine v_getR (t := (p0 + 38)) (pc' := 79) 42 rfl rfl pf_X0_29 (bn0l hp0) (lay_lt (bn0l hp0) (by decide)) (rt_bn_3 hp0) ?_
  refine v_iload_n (pc' := 80) 43 1 rfl rfl rfl rfl ?_
  refine v_aload_n (pc' := 81) 44 0 rfl rfl rfl rfl ?_
  refine v_iload_n (pc' := 82) 45 1 rfl rfl rfl rfl ?_
  refine v_aload_n (pc' := 83) 46 0 rfl rfl rfl rfl ?_
  refine v_getR (t := (p0 + 38)) (pc' := 86) 47 rfl rfl pf_X0_29 (bn0l hp0) (lay_lt (bn0l hp0) (by decide)) (rt_bn_3 hp0) ?_
  refine v_cV (Y2 := Y_X0_lateWave) (As := [.int v1, .ref (p0 + 38)]) (b := p0) (pc' := 89) (c1 := 0) (s1 := 0) 48 rfl rfl mf_X0_lateWave rfl rfl ml_X0_57 mi_X0_lateWave se_X0_lateWave (ci := 0) rfl (bn0l hp0) (lay_lt (bn0l hp0) (by decide)) rfl (Nat.le_of_ble_eq_true rfl) ⟨Nat.le_of_ble_eq_true rfl, Nat.le_of_ble_eq_true rfl⟩ rfl rfl (ok_X0_lateWave p0 (p0 + 38) v1 I L hp0 (bn38l hp0) (bn38n hp0) h) ?_ ?_
  · intro e9 u9 hx9
    exact hx9.elim
  intro v9 u9 hv9
  obtain ⟨r163, rfl, rfl, h⟩ := hv9
  refine ⟨fun q => absurd q (Nat.lt_irrefl _), ?_⟩
  show V G Y_X0_refresh 89 _ (.long r163 :: _) _ _ _ _ _
  obtain ⟨hi164, h⟩ := h
  refine v_last (i := v1) (j := v1.toNatClampNeg) (pc' := 90) 49 rfl rfl (bn38l hp0) (bn38n hp0) (lay_lt (bn38l hp0) (by decide)) hi164 rfl ?_
  refine v_aload_n (pc' := 91) 50 0 rfl rfl rfl rfl ?_
  refine v_getR (t := (p0 + 39)) (pc' := 94) 51 rfl rfl pf_X0_32 (bn0l hp0) (lay_lt (bn0l hp0) (by decide)) (rt_bn_4 hp0) ?_
  refine v_iload_n (pc' := 95) 52 1 rfl rfl rfl rfl ?_
  refine v_aload_n (pc' := 96) 53 0 rfl rfl rfl rfl ?_
  refine v_iload_n (pc' := 97) 54 1 rfl rfl rfl rfl ?_
  refine v_cV (Y2 := Y_X0_dearWave) (As := [.int v1]) (b := p0) (pc' := 100) (c1 := 0) (s1 := 0) 55 rfl rfl mf_X0_dearWave rfl rfl ml_X0_61 mi_X0_dearWave se_X0_dearWave (ci := 0) rfl (bn0l hp0) (lay_lt (bn0l hp0) (by decide)) rfl (Nat.le_of_ble_eq_true rfl) ⟨Nat.le_of_ble_eq_true rfl, Nat.le_of_ble_eq_true rfl⟩ rfl rfl (ok_X0_dearWave p0 v1 I (up2 L (p0 + 38) (v1.toNatClampNeg) r163) hp0 h) ?_ ?_
  · intro e9 u9 hx9
    exact hx9.elim
  intro v9 u9 hv9
  obtain ⟨r165, rfl, rfl, h⟩ := hv9
  refine ⟨fun q => absurd q (Nat.lt_irrefl _), ?_⟩
  show V G Y_X0_refresh 100 _ (.long r165 :: _) _ _ _ _ _
  obtain ⟨hi166, h⟩ := h
  refine v_last (i := v1) (j := v1.toNatClampNeg) (pc' := 101) 56 rfl rfl (bn39l hp0) (bn39n hp0) (lay_lt (bn39l hp0) (by decide)) hi166 rfl ?_
  refine nm_N (e := (up2 (up2 L (p0 + 38) (v1.toNatClampNeg) r163) (p0 + 39) (v1.toNatClampNeg) r165)) (fun L167 hL167 => ?_)
  replace h := h L167 hL167
  refine v_aload_n (pc' := 102) 57 0 rfl rfl rfl rfl ?_
  refine v_getR (t := (p0 + 41)) (pc' := 105) 58 rfl rfl pf_X0_38 (bn0l hp0) (lay_lt (bn0l hp0) (by decide)) (rt_bn_6 hp0) ?_
  refine v_iload_n (pc' := 106) 59 1 rfl rfl rfl rfl ?_
  refine v_aload_n (pc' := 107) 60 0 rfl rfl rfl rfl ?_
  refine v_iload_n (pc' := 108) 61 1 rfl rfl rfl rfl ?_
  refine v_cV (Y2 := Y_X0_longestPath) (As := [.int v1]) (b := p0) (pc' := 111) (c1 := 0) (s1 := 0) 62 rfl rfl mf_X0_longestPath rfl rfl ml_X0_65 mi_X0_longestPath se_X0_longestPath (ci := 0) rfl (bn0l hp0) (lay_lt (bn0l hp0) (by decide)) rfl (Nat.le_of_ble_eq_true rfl) ⟨Nat.le_of_ble_eq_true rfl, Nat.le_of_ble_eq_true rfl⟩ rfl rfl (ok_X0_longestPath p0 v1 I L167 hp0 h) ?_ ?_
  · intro e9 u9 hx9
    exact hx9.elim
  intro v9 u9 hv9
  obtain ⟨r168, rfl, rfl, h⟩ := hv9
  refine ⟨fun q => absurd q (Nat.lt_irrefl _), ?_⟩
  show V G Y_X0_refresh 111 _ (.int r168 :: _) _ _ _ _ _
  obtain ⟨hi169, h⟩ := h
  refine v_iast (i := v1) (j := v1.toNatClampNeg) (pc' := 112) 63 rfl rfl (bn41l hp0) (bn41n hp0) (lay_lt (bn41l hp0) (by decide)) hi169 rfl ?_
  refine v_iinc (v := (v1 + 1)) (ls' := [(1, .int (v1 + 1)), (0, .ref p0)]) (pc' := 115) 64 1 rfl rfl rfl rfl (by decide) rfl ?_
  refine v_goto (tgt := 64) 65 rfl (by decide) ?_
  refine V.sub [1, 0] rfl ?_
  exact hR64 (v1 + 1) (up2 I (p0 + 41) (v1.toNatClampNeg) r168) L167 h
theorem l_X0_refresh_64 {G : GT} {b d t : Nat} (p0 : Nat) (hp0 : bnOK p0) (Q : TI → TL → Prop)  : ∀ (n9 : Nat) (v1 : Int32) (I : TI) (L : TL), L_X0_refresh_64 p0 Q n9 v1 I L → V G Y_X0_refresh 64 [(0, .ref p0), (1, .int v1)] [] (I, L, RT b d t, 457) 0 0 (fun v9 u9 => ∃ (I9 : TI) (L9 : TL), v9 = none ∧ u9 = (I9, L9, RT b d t, 457) ∧ Q I9 L9) (fun _ _ => False)
  | 0, _, _, _, h => h.elim
  | n9 + 1, v1, I, L, h => d_X0_refresh_64 p0 hp0 Q _ (l_X0_refresh_64 p0 hp0 Q n9) v1 I L h
set_option maxHeartbeats 4000000 in
set_option maxRecDepth 100000 in
theorem d_X0_refresh_2 {G : GT} {b d t : Nat} (p0 : Nat) (hp0 : bnOK p0) (Q : TI → TL → Prop) (R2 : Int32 → TI → TL → Prop)  (hR2 : ∀ (v1 : Int32) (I : TI) (L : TL), R2 v1 I L → V G Y_X0_refresh 2 [(0, .ref p0), (1, .int v1)] [] (I, L, RT b d t, 457) 0 0 (fun v9 u9 => ∃ (I9 : TI) (L9 : TL), v9 = none ∧ u9 = (I9, L9, RT b d t, 457) ∧ Q I9 L9) (fun _ _ => False)) (v1 : Int32) (I : TI) (L : TL)  (h : D_X0_refresh_2 p0 Q R2 v1 I L) : V G Y_X0_refresh 2 [(0, .ref p0), (1, .int v1)] [] (I, L, RT b d t, 457) 0 0 (fun v9 u9 => ∃ (I9 : TI) (L9 : TL), v9 = none ∧ u9 = (I9, L9, RT b d t, 457) ∧ Q I9 L9) (fun _ _ => False) := by
  unfold D_X0_refresh_2 at h
  refine v_iload_n (pc' := 3) 2 1 rfl rfl rfl rfl ?_
  refine v_aload_n (pc' := 4) 3 0 rfl rfl rfl rfl ?_
  refine v_getR (t := (p0 + 1)) (pc' := 7) 4 rfl rfl pf_X0_12 (bn0l hp0) (lay_lt (bn0l hp0) (by decide)) (rt_bn_0 hp0) ?_
  refine v_getI (pc' := 10) 5 rfl rfl pf_X0_46 (bn1l hp0) (lay_lt (bn1l hp0) (by decide)) ?_
  refine v_icmp_ge (tgt := 56) (pc' := 13) 6 rfl rfl (by decide) (fun hc => ?_) (fun hc => ?_)
  · replace h := h.1 hc
    refine v_aload_n (pc' := 57) 32 0 rfl rfl rfl rfl ?_
    refine v_getR (t := (p0 + 1)) (pc' := 60) 33 rfl rfl pf_X0_12 (bn0l hp0) (lay_lt (bn0l hp0) (by decide)) (rt_bn_0 hp0) ?_
    refine v_getI (pc' := 63) 34 rfl rfl pf_X0_46 (bn1l hp0) (lay_lt (bn1l hp0) (by decide)) ?_
    refine v_istore_n (ls' := [(1, .int (I (p0 + 1) 4)), (0, .ref p0)]) (pc' := 64) 35 rfl rfl rfl (by decide) rfl ?_
    refine V.sub [1, 0] rfl ?_
    obtain ⟨n170, h⟩ := h
    exact l_X0_refresh_64 p0 hp0 Q n170 (I (p0 + 1) 4) I L h
  replace h := h.2 hc
  refine v_aload_n (pc' := 14) 7 0 rfl rfl rfl rfl ?_
  refine v_getR (t := (p0 + 38)) (pc' := 17) 8 rfl rfl pf_X0_29 (bn0l hp0) (lay_lt (bn0l hp0) (by decide)) (rt_bn_3 hp0) ?_
  refine v_iload_n (pc' := 18) 9 1 rfl rfl rfl rfl ?_
  refine v_aload_n (pc' := 19) 10 0 rfl rfl rfl rfl ?_
  refine v_getR (t := (p0 + 6)) (pc' := 22) 11 rfl rfl pf_X0_21 (bn0l hp0) (lay_lt (bn0l hp0) (by decide)) (rt_bn_1 hp0) ?_
  refine v_getR (t := (p0 + 11)) (pc' := 25) 12 rfl rfl pf_X0_50 (bn6l hp0) (lay_lt (bn6l hp0) (by decide)) (rt_st_1 (bn_st hp0)) ?_
  refine v_iload_n (pc' := 26) 13 1 rfl rfl rfl rfl ?_
  obtain ⟨hi171, h⟩ := h
  refine v_lald (i := v1) (j := v1.toNatClampNeg) (pc' := 27) 14 rfl rfl (bn11l hp0) (bn11n hp0) (lay_lt (bn11l hp0) (by decide)) hi171 rfl ?_
  obtain ⟨hi172, h⟩ := h
  refine v_last (i := v1) (j := v1.toNatClampNeg) (pc' := 28) 15 rfl rfl (bn38l hp0) (bn38n hp0) (lay_lt (bn38l hp0) (by decide)) hi172 rfl ?_
  refine nm_N (e := (up2 L (p0 + 38) (v1.toNatClampNeg) (L (p0 + 11) (v1.toNatClampNeg)))) (fun L173 hL173 => ?_)
  replace h := h L173 hL173
  refine v_aload_n (pc' := 29) 16 0 rfl rfl rfl rfl ?_
  refine v_getR (t := (p0 + 39)) (pc' := 32) 17 rfl rfl pf_X0_32 (bn0l hp0) (lay_lt (bn0l hp0) (by decide)) (rt_bn_4 hp0) ?_
  refine v_iload_n (pc' := 33) 18 1 rfl rfl rfl rfl ?_
  refine v_aload_n (pc' := 34) 19 0 rfl rfl rfl rfl ?_
  refine v_getR (t := (p0 + 6)) (pc' := 37) 20 rfl rfl pf_X0_21 (bn0l hp0) (lay_lt (bn0l hp0) (by decide)) (rt_bn_1 hp0) ?_
  refine v_getR (t := (p0 + 11)) (pc' := 40) 21 rfl rfl pf_X0_50 (bn6l hp0) (lay_lt (bn6l hp0) (by decide)) (rt_st_1 (bn_st hp0)) ?_
  refine v_iload_n (pc' := 41) 22 1 rfl rfl rfl rfl ?_
  obtain ⟨hi174, h⟩ := h
  refine v_lald (i := v1) (j := v1.toNatClampNeg) (pc' := 42) 23 rfl rfl (bn11l hp0) (bn11n hp0) (lay_lt (bn11l hp0) (by decide)) hi174 rfl ?_
  obtain ⟨hi175, h⟩ := h
  refine v_last (i := v1) (j := v1.toNatClampNeg) (pc' := 43) 24 rfl rfl (bn39l hp0) (bn39n hp0) (lay_lt (bn39l hp0) (by decide)) hi175 rfl ?_
  refine nm_N (e := (up2 L173 (p0 + 39) (v1.toNatClampNeg) (L173 (p0 + 11) (v1.toNatClampNeg)))) (fun L176 hL176 => ?_)
  replace h := h L176 hL176
  refine v_aload_n (pc' := 44) 25 0 rfl rfl rfl rfl ?_
  refine v_getR (t := (p0 + 41)) (pc' := 47) 26 rfl rfl pf_X0_38 (bn0l hp0) (lay_lt (bn0l hp0) (by decide)) (rt_bn_6 hp0) ?_
  refine v_iload_n (pc' := 48) 27 1 rfl rfl rfl rfl ?_
  refine v_iconst (v := 0) (pc' := 49) 28 rfl rfl (by decide) ?_
  obtain ⟨hi177, h⟩ := h
  refine v_iast (i := v1) (j := v1.toNatClampNeg) (pc' := 50) 29 rfl rfl (bn41l hp0) (bn41n hp0) (lay_lt (bn41l hp0) (by decide)) hi177 rfl ?_
  refine v_iinc (v := (v1 + 1)) (ls' := [(1, .int (v1 + 1)), (0, .ref p0)]) (pc' := 53) 30 1 rfl rfl rfl rfl (by decide) rfl ?_
  refine v_goto (tgt := 2) 31 rfl (by decide) ?_
  refine V.sub [1, 0] rfl ?_
  exact hR2 (v1 + 1) (up2 I (p0 + 41) (v1.toNatClampNeg) 0) L176 h
theorem l_X0_refresh_2 {G : GT} {b d t : Nat} (p0 : Nat) (hp0 : bnOK p0) (Q : TI → TL → Prop)  : ∀ (n9 : Nat) (v1 : Int32) (I : TI) (L : TL), L_X0_refresh_2 p0 Q n9 v1 I L → V G Y_X0_refresh 2 [(0, .ref p0), (1, .int v1)] [] (I, L, RT b d t, 457) 0 0 (fun v9 u9 => ∃ (I9 : TI) (L9 : TL), v9 = none ∧ u9 = (I9, L9, RT b d t, 457) ∧ Q I9 L9) (fun _ _ => False)
  | 0, _, _, _, h => h.elim
  | n9 + 1, v1, I, L, h => d_X0_refresh_2 p0 hp0 Q _ (l_X0_refresh_2 p0 hp0 Q n9) v1 I L h
set_option maxHeartbeats 4000000 in
set_option maxRecDepth 100000 in
theorem ok_X0_refresh {G : GT} {b d t : Nat} (p0 : Nat) (I : TI) (L : TL) (hp0 : bnOK p0) {Q : TI → TL → Prop} (h : W_X0_refresh p0 I L Q) : MW G Y_X0_refresh [.ref p0] (I, L, RT b d t, 457) (fun v9 u9 => ∃ (I9 : TI) (L9 : TL), v9 = none ∧ u9 = (I9, L9, RT b d t, 457) ∧ Q I9 L9) (fun _ _ => False) := by
  unfold W_X0_refresh at h
  refine MW.intro rfl (by decide) is_X0_refresh (Nat.le_of_ble_eq_true rfl) ?_
  show V G Y_X0_refresh 0 [(0, .ref p0)] [] (I, L, RT b d t, 457) 0 0 _ _
  refine v_iconst (v := 0) (pc' := 1) 0 rfl rfl (by decide) ?_
  refine v_istore_n (ls' := [(1, .int 0), (0, .ref p0)]) (pc' := 2) 1 rfl rfl rfl (by decide) rfl ?_
  refine V.sub [1, 0] rfl ?_
  obtain ⟨n178, h⟩ := h
  exact l_X0_refresh_2 p0 hp0 Q n178 (0 : Int32) I L h
set_option maxHeartbeats 4000000 in
set_option maxRecDepth 100000 in
theorem ok_J6_bitCount_0f7a4 {G : GT} {b d t : Nat} (p0 : Int32) (I : TI) (L : TL)  {Q : Int32 → Prop} (h : W_J6_bitCount_0f7a4 p0 I L Q) : MW G Y_J6_bitCount_0f7a4 [.int p0] (I, L, RT b d t, 457) (fun v9 u9 => ∃ (r9 : Int32), v9 = some (.int r9) ∧ u9 = (I, L, RT b d t, 457) ∧ Q r9) (fun _ _ => False) := by
  unfold W_J6_bitCount_0f7a4 at h
  refine MW.intro rfl (by decide) is_J6_bitCount_0f7a4 (Nat.le_of_ble_eq_true rfl) ?_
  show V G Y_J6_bitCount_0f7a4 0 [(0, .int p0)] [] (I, L, RT b d t, 457) 0 0 _ _
  refine v_iload_n (pc' := 1) 0 0 rfl rfl rfl rfl ?_
  refine v_iload_n (pc' := 2) 1 0 rfl rfl rfl rfl ?_
  refine v_iconst (v := 1) (pc' := 3) 2 rfl rfl (by decide) ?_
  refine v_iushr (pc' := 4) 3 rfl rfl ?_
  refine v_ldc_w (v := 1431655765) (pc' := 7) 4 rfl rfl ki_J6_265 ?_
  refine v_iand (pc' := 8) 5 rfl rfl ?_
  refine v_isub (pc' := 9) 6 rfl rfl ?_
  refine nm_I (e := (p0 - ((ushI p0 (1 : Int32)) &&& 1431655765))) (fun x179 hx179 => ?_)
  replace h := h x179 hx179
  refine v_istore_n (ls' := [(0, .int x179)]) (pc' := 10) 7 rfl rfl rfl (by decide) rfl ?_
  refine v_iload_n (pc' := 11) 8 0 rfl rfl rfl rfl ?_
  refine v_ldc_w (v := 858993459) (pc' := 14) 9 rfl rfl ki_J6_266 ?_
  refine v_iand (pc' := 15) 10 rfl rfl ?_
  refine v_iload_n (pc' := 16) 11 0 rfl rfl rfl rfl ?_
  refine v_iconst (v := 2) (pc' := 17) 12 rfl rfl (by decide) ?_
  refine v_iushr (pc' := 18) 13 rfl rfl ?_
  refine v_ldc_w (v := 858993459) (pc' := 21) 14 rfl rfl ki_J6_266 ?_
  refine v_iand (pc' := 22) 15 rfl rfl ?_
  refine v_iadd (pc' := 23) 16 rfl rfl ?_
  refine nm_I (e := ((x179 &&& 858993459) + ((ushI x179 (2 : Int32)) &&& 858993459))) (fun x180 hx180 => ?_)
  replace h := h x180 hx180
  refine v_istore_n (ls' := [(0, .int x180)]) (pc' := 24) 17 rfl rfl rfl (by decide) rfl ?_
  refine v_iload_n (pc' := 25) 18 0 rfl rfl rfl rfl ?_
  refine v_iload_n (pc' := 26) 19 0 rfl rfl rfl rfl ?_
  refine v_iconst (v := 4) (pc' := 27) 20 rfl rfl (by decide) ?_
  refine v_iushr (pc' := 28) 21 rfl rfl ?_
  refine v_iadd (pc' := 29) 22 rfl rfl ?_
  refine v_ldc_w (v := 252645135) (pc' := 32) 23 rfl rfl ki_J6_267 ?_
  refine v_iand (pc' := 33) 24 rfl rfl ?_
  refine nm_I (e := ((x180 + (ushI x180 (4 : Int32))) &&& 252645135)) (fun x181 hx181 => ?_)
  replace h := h x181 hx181
  refine v_istore_n (ls' := [(0, .int x181)]) (pc' := 34) 25 rfl rfl rfl (by decide) rfl ?_
  refine v_iload_n (pc' := 35) 26 0 rfl rfl rfl rfl ?_
  refine v_iload_n (pc' := 36) 27 0 rfl rfl rfl rfl ?_
  refine v_bipush (v := 8) (pc' := 38) 28 rfl rfl (by decide) ?_
  refine v_iushr (pc' := 39) 29 rfl rfl ?_
  refine v_iadd (pc' := 40) 30 rfl rfl ?_
  refine nm_I (e := (x181 + (ushI x181 (8 : Int32)))) (fun x182 hx182 => ?_)
  replace h := h x182 hx182
  refine v_istore_n (ls' := [(0, .int x182)]) (pc' := 41) 31 rfl rfl rfl (by decide) rfl ?_
  refine v_iload_n (pc' := 42) 32 0 rfl rfl rfl rfl ?_
  refine v_iload_n (pc' := 43) 33 0 rfl rfl rfl rfl ?_
  refine v_bipush (v := 16) (pc' := 45) 34 rfl rfl (by decide) ?_
  refine v_iushr (pc' := 46) 35 rfl rfl ?_
  refine v_iadd (pc' := 47) 36 rfl rfl ?_
  refine nm_I (e := (x182 + (ushI x182 (16 : Int32)))) (fun x183 hx183 => ?_)
  replace h := h x183 hx183
  refine v_istore_n (ls' := [(0, .int x183)]) (pc' := 48) 37 rfl rfl rfl (by decide) rfl ?_
  refine v_iload_n (pc' := 49) 38 0 rfl rfl rfl rfl ?_
  refine v_bipush (v := 63) (pc' := 51) 39 rfl rfl (by decide) ?_
  refine v_iand (pc' := 52) 40 rfl rfl ?_
  exact v_iret 41 rfl rfl (by decide) (by decide) ⟨_, rfl, rfl, h⟩
set_option maxHeartbeats 4000000 in
set_option maxRecDepth 100000 in
theorem ok_X2_cone {G : GT} {b d t : Nat} (p0 : Nat) (p1 : Int32) (I : TI) (L : TL) (hp0 : ckOK p0) {Q : Int32 → Prop} (h : W_X2_cone p0 p1 I L Q) : MW G Y_X2_cone [.ref p0, .int p1] (I, L, RT b d t, 457) (fun v9 u9 => ∃ (r9 : Int32), v9 = some (.int r9) ∧ u9 = (I, L, RT b d t, 457) ∧ Q r9) (fun _ _ => False) := by
  unfold W_X2_cone at h
  refine MW.intro rfl (by decide) is_X2_cone (Nat.le_of_ble_eq_true rfl) ?_
  show V G Y_X2_cone 0 [(0, .ref p0), (1, .int p1)] [] (I, L, RT b d t, 457) 0 0 _ _
  refine v_aload_n (pc' := 1) 0 0 rfl rfl rfl rfl ?_
  refine v_getR (t := (p0 + 4)) (pc' := 4) 1 rfl rfl pf_X2_21 (ck0l hp0) (lay_lt (ck0l hp0) (by decide)) (rt_ck_3 hp0) ?_
  refine v_iload_n (pc' := 5) 2 1 rfl rfl rfl rfl ?_
  obtain ⟨hi186, h⟩ := h
  refine v_iald (i := p1) (j := p1.toNatClampNeg) (pc' := 6) 3 rfl rfl (ck4l hp0) (ck4n hp0) (lay_lt (ck4l hp0) (by decide)) hi186 rfl ?_
  refine v_cS (Y2 := Y_J6_bitCount_0f7a4) (As := [.int (I (p0 + 4) (p1.toNatClampNeg))]) (pc' := 9) (c1 := 0) (s1 := 0) 4 rfl rfl mf_J6_bitCount_0f7a4 rfl rfl ml_X2_44 ms_J6_bitCount_0f7a4 rfl (Nat.le_of_ble_eq_true rfl) ⟨Nat.le_of_ble_eq_true rfl, Nat.le_of_ble_eq_true rfl⟩ rfl rfl (ok_J6_bitCount_0f7a4 (I (p0 + 4) (p1.toNatClampNeg)) I L h) ?_ ?_
  · intro e9 u9 hx9
    exact hx9.elim
  intro v9 u9 hv9
  obtain ⟨r187, rfl, rfl, h⟩ := hv9
  refine ⟨fun q => absurd q (Nat.lt_irrefl _), ?_⟩
  show V G Y_X2_cone 9 _ (.int r187 :: _) _ _ _ _ _
  exact v_iret 5 rfl rfl (by decide) (by decide) ⟨_, rfl, rfl, h⟩
set_option maxHeartbeats 4000000 in
set_option maxRecDepth 100000 in
theorem ok_X0_price {G : GT} {b d t : Nat} (p0 : Nat) (p1 : Int32) (p2 : Int32) (p3 : Int32) (I : TI) (L : TL) (hp0 : bnOK p0) {Q : Int32 → Prop} (h : W_X0_price p0 p1 p2 p3 I L Q) : MW G Y_X0_price [.ref p0, .int p1, .int p2, .int p3] (I, L, RT b d t, 457) (fun v9 u9 => ∃ (r9 : Int32), v9 = some (.int r9) ∧ u9 = (I, L, RT b d t, 457) ∧ Q r9) (fun _ _ => False) := by
  unfold W_X0_price at h
  refine MW.intro rfl (by decide) is_X0_price (Nat.le_of_ble_eq_true rfl) ?_
  show V G Y_X0_price 0 [(0, .ref p0), (1, .int p1), (2, .int p2), (3, .int p3)] [] (I, L, RT b d t, 457) 0 0 _ _
  refine v_aload_n (pc' := 1) 0 0 rfl rfl rfl rfl ?_
  refine v_getR (t := (p0 + 1)) (pc' := 4) 1 rfl rfl pf_X0_12 (bn0l hp0) (lay_lt (bn0l hp0) (by decide)) (rt_bn_0 hp0) ?_
  refine v_getI (pc' := 7) 2 rfl rfl pf_X0_126 (bn1l hp0) (lay_lt (bn1l hp0) (by decide)) ?_
  refine v_iload_n (pc' := 8) 3 3 rfl rfl rfl rfl ?_
  refine v_iload_n (pc' := 9) 4 2 rfl rfl rfl rfl ?_
  refine v_isub (pc' := 10) 5 rfl rfl ?_
  refine v_iconst (v := 1) (pc' := 11) 6 rfl rfl (by decide) ?_
  refine v_iadd (pc' := 12) 7 rfl rfl ?_
  refine v_imul (pc' := 13) 8 rfl rfl ?_
  refine v_aload_n (pc' := 14) 9 0 rfl rfl rfl rfl ?_
  refine v_getR (t := (p0 + 1)) (pc' := 17) 10 rfl rfl pf_X0_12 (bn0l hp0) (lay_lt (bn0l hp0) (by decide)) (rt_bn_0 hp0) ?_
  refine v_iload_n (pc' := 18) 11 1 rfl rfl rfl rfl ?_
  refine v_cV (Y2 := Y_X2_cone) (As := [.int p1]) (b := (p0 + 1)) (pc' := 21) (c1 := 0) (s1 := 0) 12 rfl rfl mf_X2_cone rfl rfl ml_X0_129 mi_X2_cone se_X2_cone (ci := 1) rfl (bn1l hp0) (lay_lt (bn1l hp0) (by decide)) rfl (Nat.le_of_ble_eq_true rfl) ⟨Nat.le_of_ble_eq_true rfl, Nat.le_of_ble_eq_true rfl⟩ rfl rfl (ok_X2_cone (p0 + 1) p1 I L (bn_ck hp0) h) ?_ ?_
  · intro e9 u9 hx9
    exact hx9.elim
  intro v9 u9 hv9
  obtain ⟨r189, rfl, rfl, h⟩ := hv9
  refine ⟨fun q => absurd q (Nat.lt_irrefl _), ?_⟩
  show V G Y_X0_price 21 _ (.int r189 :: _) _ _ _ _ _
  refine v_imul (pc' := 22) 13 rfl rfl ?_
  exact v_iret 14 rfl rfl (by decide) (by decide) ⟨_, rfl, rfl, h⟩
set_option maxHeartbeats 4000000 in
set_option maxRecDepth 100000 in
theorem b_X0_pulseStarts_132 {G : GT} {b d t : Nat} (p0 : Nat) (v2 : Int64) (v4 : Int64) (v6 : Int64) (v8 : Int32) (v9 : Int32) (I : TI) (L : TL) (hp0 : bnOK p0) (Q : Int64 → Prop) (R41 : Int64 → Int32 → Int32 → Prop) (hR41 : ∀ (v6 : Int64) (v8 : Int32) (v9 : Int32), R41 v6 v8 v9 → V G Y_X0_pulseStarts 41 [(0, .ref p0), (2, .long v2), (4, .long v4), (6, .long v6), (8, .int v8), (9, .int v9)] [] (I, L, RT b d t, 457) 0 0 (fun v9 u9 => ∃ (r9 : Int64), v9 = some (.long r9) ∧ u9 = (I, L, RT b d t, 457) ∧ Q r9) (fun _ _ => False)) (h : B_X0_pulseStarts_132 p0 v2 v4 v6 v8 v9 I L Q R41) : V G Y_X0_pulseStarts 132 [(0, .ref p0), (2, .long v2), (4, .long v4), (6, .long v6), (8, .int v8), (9, .int v9)] [] (I, L, RT b d t, 457) 0 0 (fun v9 u9 => ∃ (r9 : Int64), v9 = some (.long r9) ∧ u9 = (I, L, RT b d t, 457) ∧ Q r9) (fun _ _ => False) := by
  unfold B_X0_pulseStarts_132 at h
  refine v_iinc (v := (v9 + 1)) (ls' := [(9, .int (v9 + 1)), (0, .ref p0), (2, .long v2), (4, .long v4), (6, .long v6), (8, .int v8)]) (pc' := 135) 72 5 rfl rfl rfl rfl (by decide) rfl ?_
  refine v_goto (tgt := 41) 73 rfl (by decide) ?_
  refine V.sub [1, 2, 3, 4, 5, 0] rfl ?_
  exact hR41 v6 v8 (v9 + 1) h
set_option maxHeartbeats 4000000 in
set_option maxRecDepth 100000 in
theorem b_X0_pulseStarts_128 {G : GT} {b d t : Nat} (p0 : Nat) (v2 : Int64) (v4 : Int64) (v6 : Int64) (v9 : Int32) (I : TI) (L : TL) (hp0 : bnOK p0) (Q : Int64 → Prop) (R41 : Int64 → Int32 → Int32 → Prop) (hR41 : ∀ (v6 : Int64) (v8 : Int32) (v9 : Int32), R41 v6 v8 v9 → V G Y_X0_pulseStarts 41 [(0, .ref p0), (2, .long v2), (4, .long v4), (6, .long v6), (8, .int v8), (9, .int v9)] [] (I, L, RT b d t, 457) 0 0 (fun v9 u9 => ∃ (r9 : Int64), v9 = some (.long r9) ∧ u9 = (I, L, RT b d t, 457) ∧ Q r9) (fun _ _ => False)) (h : B_X0_pulseStarts_128 p0 v2 v4 v6 v9 I L Q R41) : V G Y_X0_pulseStarts 128 [(0, .ref p0), (2, .long v2), (4, .long v4), (6, .long v6), (9, .int v9)] [] (I, L, RT b d t, 457) 0 0 (fun v9 u9 => ∃ (r9 : Int64), v9 = some (.long r9) ∧ u9 = (I, L, RT b d t, 457) ∧ Q r9) (fun _ _ => False) := by
  unfold B_X0_pulseStarts_128 at h
  refine v_iload (pc' := 130) 70 4 rfl rfl rfl ?_
  refine v_istore (ls' := [(8, .int v9), (0, .ref p0), (2, .long v2), (4, .long v4), (6, .long v6), (9, .int v9)]) (pc' := 132) 71 rfl rfl (by decide) rfl ?_
  refine V.sub [1, 2, 3, 4, 0, 5] rfl ?_
  exact b_X0_pulseStarts_132 p0 v2 v4 v6 v9 v9 I L hp0 Q R41 hR41 h
set_option maxHeartbeats 4000000 in
set_option maxRecDepth 100000 in
theorem b_X0_pulseStarts_95 {G : GT} {b d t : Nat} (p0 : Nat) (v2 : Int64) (v4 : Int64) (v6 : Int64) (v8 : Int32) (v9 : Int32) (s0 : Int32) (I : TI) (L : TL) (hp0 : bnOK p0) (Q : Int64 → Prop) (R41 : Int64 → Int32 → Int32 → Prop) (hR41 : ∀ (v6 : Int64) (v8 : Int32) (v9 : Int32), R41 v6 v8 v9 → V G Y_X0_pulseStarts 41 [(0, .ref p0), (2, .long v2), (4, .long v4), (6, .long v6), (8, .int v8), (9, .int v9)] [] (I, L, RT b d t, 457) 0 0 (fun v9 u9 => ∃ (r9 : Int64), v9 = some (.long r9) ∧ u9 = (I, L, RT b d t, 457) ∧ Q r9) (fun _ _ => False)) (h : B_X0_pulseStarts_95 p0 v2 v4 v6 v8 v9 s0 I L Q R41) : V G Y_X0_pulseStarts 95 [(0, .ref p0), (2, .long v2), (4, .long v4), (6, .long v6), (8, .int v8), (9, .int v9)] [.int s0] (I, L, RT b d t, 457) 0 0 (fun v9 u9 => ∃ (r9 : Int64), v9 = some (.long r9) ∧ u9 = (I, L, RT b d t, 457) ∧ Q r9) (fun _ _ => False) := by
  unfold B_X0_pulseStarts_95 at h
  refine v_istore (ls' := [(10, .int s0), (0, .ref p0), (2, .long v2), (4, .long v4), (6, .long v6), (8, .int v8), (9, .int v9)]) (pc' := 97) 51 rfl rfl (by decide) rfl ?_
  refine v_iload (pc' := 99) 52 0 rfl rfl rfl ?_
  refine v_if_eq (tgt := 128) (pc' := 102) 53 rfl rfl (by decide) (fun hc => ?_) (fun hc => ?_)
  · replace h := h.1 hc
    refine V.sub [1, 2, 3, 4, 6] rfl ?_
    exact b_X0_pulseStarts_128 p0 v2 v4 v6 v9 I L hp0 Q R41 hR41 h
  replace h := h.2 hc
  refine v_iload (pc' := 104) 54 5 rfl rfl rfl ?_
  refine v_iload (pc' := 106) 55 6 rfl rfl rfl ?_
  refine v_iconst (v := 1) (pc' := 107) 56 rfl rfl (by decide) ?_
  refine v_isub (pc' := 108) 57 rfl rfl ?_
  refine v_cNS (Y2 := Y_X8_window) (As := [.int v8, .int (v9 - 1)]) (pc' := 111) (c1 := 0) (s1 := 0) 58 rfl rfl mf_X8_window rfl rfl nt_X0_84 ms_X8_window rfl (Nat.le_of_ble_eq_true rfl) ⟨Nat.le_of_ble_eq_true rfl, Nat.le_of_ble_eq_true rfl⟩ rfl rfl (ok_X8_window v8 (v9 - 1) I L h) ?_ ?_
  · intro e9 u9 hx9
    exact hx9.elim
  intro v9 u9 hv9
  obtain ⟨r207, rfl, rfl, h⟩ := hv9
  refine ⟨fun q => absurd q (Nat.lt_irrefl _), ?_⟩
  show V G Y_X0_pulseStarts 111 _ (.long r207 :: _) _ _ _ _ _
  refine v_lload (pc' := 113) 59 3 rfl rfl rfl ?_
  refine v_land (pc' := 114) 60 rfl rfl ?_
  refine v_lconst (v := 0) (pc' := 115) 61 rfl rfl (by decide) ?_
  refine v_lc_eq (tgt := 128) (pc' := 119) 62 63 rfl rfl rfl (by decide) (fun hc => ?_) (fun hc => ?_)
  · replace h := h.1 hc
    refine V.sub [1, 2, 3, 4, 6] rfl ?_
    exact b_X0_pulseStarts_128 p0 v2 v4 v6 v9 I L hp0 Q R41 hR41 h
  replace h := h.2 hc
  refine v_lload (pc' := 121) 64 4 rfl rfl rfl ?_
  refine v_lconst (v := 1) (pc' := 122) 65 rfl rfl (by decide) ?_
  refine v_iload (pc' := 124) 66 5 rfl rfl rfl ?_
  refine v_lshl (pc' := 125) 67 rfl rfl ?_
  refine v_lor (pc' := 126) 68 rfl rfl ?_
  refine nm_J (e := (v6 ||| (shlL (1 : Int64) v8))) (fun x208 hx208 => ?_)
  replace h := h x208 hx208
  refine v_lstore (ls' := [(6, .long x208), (10, .int s0), (0, .ref p0), (2, .long v2), (4, .long v4), (8, .int v8), (9, .int v9)]) (pc' := 128) 69 rfl rfl (by decide) rfl ?_
  refine V.sub [2, 3, 4, 0, 6] rfl ?_
  exact b_X0_pulseStarts_128 p0 v2 v4 x208 v9 I L hp0 Q R41 hR41 h
set_option maxHeartbeats 4000000 in
set_option maxRecDepth 100000 in
theorem b_X0_pulseStarts_94 {G : GT} {b d t : Nat} (p0 : Nat) (v2 : Int64) (v4 : Int64) (v6 : Int64) (v8 : Int32) (v9 : Int32) (I : TI) (L : TL) (hp0 : bnOK p0) (Q : Int64 → Prop) (R41 : Int64 → Int32 → Int32 → Prop) (hR41 : ∀ (v6 : Int64) (v8 : Int32) (v9 : Int32), R41 v6 v8 v9 → V G Y_X0_pulseStarts 41 [(0, .ref p0), (2, .long v2), (4, .long v4), (6, .long v6), (8, .int v8), (9, .int v9)] [] (I, L, RT b d t, 457) 0 0 (fun v9 u9 => ∃ (r9 : Int64), v9 = some (.long r9) ∧ u9 = (I, L, RT b d t, 457) ∧ Q r9) (fun _ _ => False)) (h : B_X0_pulseStarts_94 p0 v2 v4 v6 v8 v9 I L Q R41) : V G Y_X0_pulseStarts 94 [(0, .ref p0), (2, .long v2), (4, .long v4), (6, .long v6), (8, .int v8), (9, .int v9)] [] (I, L, RT b d t, 457) 0 0 (fun v9 u9 => ∃ (r9 : Int64), v9 = some (.long r9) ∧ u9 = (I, L, RT b d t, 457) ∧ Q r9) (fun _ _ => False) := by
  unfold B_X0_pulseStarts_94 at h
  refine v_iconst (v := 0) (pc' := 95) 50 rfl rfl (by decide) ?_
  exact b_X0_pulseStarts_95 p0 v2 v4 v6 v8 v9 (0 : Int32) I L hp0 Q R41 hR41 h
set_option maxHeartbeats 4000000 in
set_option maxRecDepth 100000 in
theorem d_X0_pulseStarts_41 {G : GT} {b d t : Nat} (p0 : Nat) (v2 : Int64) (v4 : Int64) (I : TI) (L : TL) (hp0 : bnOK p0) (Q : Int64 → Prop) (R41 : Int64 → Int32 → Int32 → Prop)  (hR41 : ∀ (v6 : Int64) (v8 : Int32) (v9 : Int32), R41 v6 v8 v9 → V G Y_X0_pulseStarts 41 [(0, .ref p0), (2, .long v2), (4, .long v4), (6, .long v6), (8, .int v8), (9, .int v9)] [] (I, L, RT b d t, 457) 0 0 (fun v9 u9 => ∃ (r9 : Int64), v9 = some (.long r9) ∧ u9 = (I, L, RT b d t, 457) ∧ Q r9) (fun _ _ => False)) (v6 : Int64) (v8 : Int32) (v9 : Int32)  (h : D_X0_pulseStarts_41 p0 v2 v4 I L Q R41 v6 v8 v9) : V G Y_X0_pulseStarts 41 [(0, .ref p0), (2, .long v2), (4, .long v4), (6, .long v6), (8, .int v8), (9, .int v9)] [] (I, L, RT b d t, 457) 0 0 (fun v9 u9 => ∃ (r9 : Int64), v9 = some (.long r9) ∧ u9 = (I, L, RT b d t, 457) ∧ Q r9) (fun _ _ => False) := by
  unfold D_X0_pulseStarts_41 at h
  refine v_iload (pc' := 43) 25 5 rfl rfl rfl ?_
  refine v_aload_n (pc' := 44) 26 0 rfl rfl rfl rfl ?_
  refine v_getR (t := (p0 + 1)) (pc' := 47) 27 rfl rfl pf_X0_12 (bn0l hp0) (lay_lt (bn0l hp0) (by decide)) (rt_bn_0 hp0) ?_
  refine v_getI (pc' := 50) 28 rfl rfl pf_X0_88 (bn1l hp0) (lay_lt (bn1l hp0) (by decide)) ?_
  refine v_icmp_gt (tgt := 138) (pc' := 53) 29 rfl rfl (by decide) (fun hc => ?_) (fun hc => ?_)
  · replace h := h.1 hc
    refine v_lload (pc' := 140) 74 3 rfl rfl rfl ?_
    exact v_lret 75 rfl rfl (by decide) (by decide) ⟨_, rfl, rfl, h⟩
  replace h := h.2 hc
  refine v_lload_n (pc' := 54) 30 1 rfl rfl rfl rfl ?_
  refine v_iload (pc' := 56) 31 5 rfl rfl rfl ?_
  refine v_cNS (Y2 := Y_X8_bitOf) (As := [.long v2, .int v9]) (pc' := 59) (c1 := 0) (s1 := 0) 32 rfl rfl mf_X8_bitOf rfl rfl nt_X0_80 ms_X8_bitOf rfl (Nat.le_of_ble_eq_true rfl) ⟨Nat.le_of_ble_eq_true rfl, Nat.le_of_ble_eq_true rfl⟩ rfl rfl (ok_X8_bitOf v2 v9 I L h) ?_ ?_
  · intro e9 u9 hx9
    exact hx9.elim
  intro v9 u9 hv9
  obtain ⟨r209, rfl, rfl, h⟩ := hv9
  refine ⟨fun q => absurd q (Nat.lt_irrefl _), ?_⟩
  show V G Y_X0_pulseStarts 59 _ (.int r209 :: _) _ _ _ _ _
  refine v_lload_n (pc' := 60) 33 1 rfl rfl rfl rfl ?_
  refine v_iload (pc' := 62) 34 5 rfl rfl rfl ?_
  refine v_iconst (v := 1) (pc' := 63) 35 rfl rfl (by decide) ?_
  refine v_isub (pc' := 64) 36 rfl rfl ?_
  refine v_cNS (Y2 := Y_X8_bitOf) (As := [.long v2, .int (v9 - 1)]) (pc' := 67) (c1 := 0) (s1 := 0) 37 rfl rfl mf_X8_bitOf rfl rfl nt_X0_80 ms_X8_bitOf rfl (Nat.le_of_ble_eq_true rfl) ⟨Nat.le_of_ble_eq_true rfl, Nat.le_of_ble_eq_true rfl⟩ rfl rfl (ok_X8_bitOf v2 (v9 - 1) I L h) ?_ ?_
  · intro e9 u9 hx9
    exact hx9.elim
  intro v9 u9 hv9
  obtain ⟨r210, rfl, rfl, h⟩ := hv9
  refine ⟨fun q => absurd q (Nat.lt_irrefl _), ?_⟩
  show V G Y_X0_pulseStarts 67 _ (.int r210 :: _) _ _ _ _ _
  refine v_icmp_eq (tgt := 132) (pc' := 70) 38 rfl rfl (by decide) (fun hc => ?_) (fun hc => ?_)
  · replace h := h.1 hc
    exact b_X0_pulseStarts_132 p0 v2 v4 v6 v8 v9 I L hp0 Q R41 hR41 h
  replace h := h.2 hc
  refine v_iload (pc' := 72) 39 4 rfl rfl rfl ?_
  refine v_if_le (tgt := 94) (pc' := 75) 40 rfl rfl (by decide) (fun hc => ?_) (fun hc => ?_)
  · replace h := h.1 hc
    exact b_X0_pulseStarts_94 p0 v2 v4 v6 v8 v9 I L hp0 Q R41 hR41 h
  replace h := h.2 hc
  refine v_iload (pc' := 77) 41 5 rfl rfl rfl ?_
  refine v_iload (pc' := 79) 42 4 rfl rfl rfl ?_
  refine v_isub (pc' := 80) 43 rfl rfl ?_
  refine v_aload_n (pc' := 81) 44 0 rfl rfl rfl rfl ?_
  refine v_getR (t := (p0 + 6)) (pc' := 84) 45 rfl rfl pf_X0_21 (bn0l hp0) (lay_lt (bn0l hp0) (by decide)) (rt_bn_1 hp0) ?_
  refine v_getI (pc' := 87) 46 rfl rfl pf_X0_136 (bn6l hp0) (lay_lt (bn6l hp0) (by decide)) ?_
  refine v_icmp_gt (tgt := 94) (pc' := 90) 47 rfl rfl (by decide) (fun hc => ?_) (fun hc => ?_)
  · replace h := h.1 hc
    exact b_X0_pulseStarts_94 p0 v2 v4 v6 v8 v9 I L hp0 Q R41 hR41 h
  replace h := h.2 hc
  refine v_iconst (v := 1) (pc' := 91) 48 rfl rfl (by decide) ?_
  refine v_goto (tgt := 95) 49 rfl (by decide) ?_
  exact b_X0_pulseStarts_95 p0 v2 v4 v6 v8 v9 (1 : Int32) I L hp0 Q R41 hR41 h
theorem l_X0_pulseStarts_41 {G : GT} {b d t : Nat} (p0 : Nat) (v2 : Int64) (v4 : Int64) (I : TI) (L : TL) (hp0 : bnOK p0) (Q : Int64 → Prop)  : ∀ (n9 : Nat) (v6 : Int64) (v8 : Int32) (v9 : Int32), L_X0_pulseStarts_41 p0 v2 v4 I L Q n9 v6 v8 v9 → V G Y_X0_pulseStarts 41 [(0, .ref p0), (2, .long v2), (4, .long v4), (6, .long v6), (8, .int v8), (9, .int v9)] [] (I, L, RT b d t, 457) 0 0 (fun v9 u9 => ∃ (r9 : Int64), v9 = some (.long r9) ∧ u9 = (I, L, RT b d t, 457) ∧ Q r9) (fun _ _ => False)
  | 0, _, _, _, h => h.elim
  | n9 + 1, v6, v8, v9, h => d_X0_pulseStarts_41 p0 v2 v4 I L hp0 Q _ (l_X0_pulseStarts_41 p0 v2 v4 I L hp0 Q n9) v6 v8 v9 h
set_option maxHeartbeats 4000000 in
set_option maxRecDepth 100000 in
theorem ok_X0_pulseStarts {G : GT} {b d t : Nat} (p0 : Nat) (p1 : Int32) (I : TI) (L : TL) (hp0 : bnOK p0) {Q : Int64 → Prop} (h : W_X0_pulseStarts p0 p1 I L Q) : MW G Y_X0_pulseStarts [.ref p0, .int p1] (I, L, RT b d t, 457) (fun v9 u9 => ∃ (r9 : Int64), v9 = some (.long r9) ∧ u9 = (I, L, RT b d t, 457) ∧ Q r9) (fun _ _ => False) := by
  unfold W_X0_pulseStarts at h
  refine MW.intro rfl (by decide) is_X0_pulseStarts (Nat.le_of_ble_eq_true rfl) ?_
  show V G Y_X0_pulseStarts 0 [(0, .ref p0), (1, .int p1)] [] (I, L, RT b d t, 457) 0 0 _ _
  refine v_aload_n (pc' := 1) 0 0 rfl rfl rfl rfl ?_
  refine v_getR (t := (p0 + 37)) (pc' := 4) 1 rfl rfl pf_X0_25 (bn0l hp0) (lay_lt (bn0l hp0) (by decide)) (rt_bn_2 hp0) ?_
  refine v_iload_n (pc' := 5) 2 1 rfl rfl rfl rfl ?_
  obtain ⟨hi211, h⟩ := h
  refine v_lald (i := p1) (j := p1.toNatClampNeg) (pc' := 6) 3 rfl rfl (bn37l hp0) (bn37n hp0) (lay_lt (bn37l hp0) (by decide)) hi211 rfl ?_
  refine nm_J (e := (L (p0 + 37) (p1.toNatClampNeg))) (fun x212 hx212 => ?_)
  replace h := h x212 hx212
  refine v_lstore_n (ls' := [(2, .long x212), (0, .ref p0), (1, .int p1)]) (pc' := 7) 4 rfl rfl rfl (by decide) rfl ?_
  refine v_aload_n (pc' := 8) 5 1 rfl rfl rfl rfl ?_
  refine v_getR (t := (p0 + 6)) (pc' := 11) 6 rfl rfl pf_X0_21 (bn0l hp0) (lay_lt (bn0l hp0) (by decide)) (rt_bn_1 hp0) ?_
  refine v_getR (t := (p0 + 13)) (pc' := 14) 7 rfl rfl pf_X0_106 (bn6l hp0) (lay_lt (bn6l hp0) (by decide)) (rt_st_3 (bn_st hp0)) ?_
  refine v_iload_n (pc' := 15) 8 2 rfl rfl rfl rfl ?_
  obtain ⟨hi213, h⟩ := h
  refine v_lald (i := p1) (j := p1.toNatClampNeg) (pc' := 16) 9 rfl rfl (bn13l hp0) (bn13n hp0) (lay_lt (bn13l hp0) (by decide)) hi213 rfl ?_
  refine v_aload_n (pc' := 17) 10 1 rfl rfl rfl rfl ?_
  refine v_getR (t := (p0 + 6)) (pc' := 20) 11 rfl rfl pf_X0_21 (bn0l hp0) (lay_lt (bn0l hp0) (by decide)) (rt_bn_1 hp0) ?_
  refine v_getR (t := (p0 + 12)) (pc' := 23) 12 rfl rfl pf_X0_109 (bn6l hp0) (lay_lt (bn6l hp0) (by decide)) (rt_st_2 (bn_st hp0)) ?_
  refine v_iload_n (pc' := 24) 13 2 rfl rfl rfl rfl ?_
  obtain ⟨hi214, h⟩ := h
  refine v_lald (i := p1) (j := p1.toNatClampNeg) (pc' := 25) 14 rfl rfl (bn12l hp0) (bn12n hp0) (lay_lt (bn12l hp0) (by decide)) hi214 rfl ?_
  refine v_lor (pc' := 26) 15 rfl rfl ?_
  refine v_ldc2 (v := -1) (pc' := 29) 16 rfl rfl kl_X0_112 ?_
  refine v_lxor (pc' := 30) 17 rfl rfl ?_
  refine nm_J (e := (((L (p0 + 13) (p1.toNatClampNeg)) ||| (L (p0 + 12) (p1.toNatClampNeg))) ^^^ (-1))) (fun x215 hx215 => ?_)
  replace h := h x215 hx215
  refine v_lstore (ls' := [(4, .long x215), (2, .long x212), (0, .ref p0), (1, .int p1)]) (pc' := 32) 18 rfl rfl (by decide) rfl ?_
  refine v_lconst (v := 0) (pc' := 33) 19 rfl rfl (by decide) ?_
  refine v_lstore (ls' := [(6, .long 0), (4, .long x215), (2, .long x212), (0, .ref p0), (1, .int p1)]) (pc' := 35) 20 rfl rfl (by decide) rfl ?_
  refine v_iconst (v := 0) (pc' := 36) 21 rfl rfl (by decide) ?_
  refine v_istore (ls' := [(8, .int 0), (6, .long 0), (4, .long x215), (2, .long x212), (0, .ref p0), (1, .int p1)]) (pc' := 38) 22 rfl rfl (by decide) rfl ?_
  refine v_iconst (v := 1) (pc' := 39) 23 rfl rfl (by decide) ?_
  refine v_istore (ls' := [(9, .int 1), (8, .int 0), (6, .long 0), (4, .long x215), (2, .long x212), (0, .ref p0), (1, .int p1)]) (pc' := 41) 24 rfl rfl (by decide) rfl ?_
  refine V.sub [5, 4, 3, 2, 1, 0] rfl ?_
  obtain ⟨n216, h⟩ := h
  exact l_X0_pulseStarts_41 p0 x212 x215 I L hp0 Q n216 (0 : Int64) (0 : Int32) (1 : Int32) h
set_option maxHeartbeats 4000000 in
set_option maxRecDepth 100000 in
theorem ok_J13_bitCount_95d88 {G : GT} {b d t : Nat} (p0 : Int64) (I : TI) (L : TL)  {Q : Int32 → Prop} (h : W_J13_bitCount_95d88 p0 I L Q) : MW G Y_J13_bitCount_95d88 [.long p0] (I, L, RT b d t, 457) (fun v9 u9 => ∃ (r9 : Int32), v9 = some (.int r9) ∧ u9 = (I, L, RT b d t, 457) ∧ Q r9) (fun _ _ => False) := by
  unfold W_J13_bitCount_95d88 at h
  refine MW.intro rfl (by decide) is_J13_bitCount_95d88 (Nat.le_of_ble_eq_true rfl) ?_
  show V G Y_J13_bitCount_95d88 0 [(0, .long p0)] [] (I, L, RT b d t, 457) 0 0 _ _
  refine v_lload_n (pc' := 1) 0 0 rfl rfl rfl rfl ?_
  refine v_lload_n (pc' := 2) 1 0 rfl rfl rfl rfl ?_
  refine v_iconst (v := 1) (pc' := 3) 2 rfl rfl (by decide) ?_
  refine v_lushr (pc' := 4) 3 rfl rfl ?_
  refine v_ldc2 (v := 6148914691236517205) (pc' := 7) 4 rfl rfl kl_J13_314 ?_
  refine v_land (pc' := 8) 5 rfl rfl ?_
  refine v_lsub (pc' := 9) 6 rfl rfl ?_
  refine nm_J (e := (p0 - ((ushL p0 (1 : Int32)) &&& 6148914691236517205))) (fun x217 hx217 => ?_)
  replace h := h x217 hx217
  refine v_lstore_n (ls' := [(0, .long x217)]) (pc' := 10) 7 rfl rfl rfl (by decide) rfl ?_
  refine v_lload_n (pc' := 11) 8 0 rfl rfl rfl rfl ?_
  refine v_ldc2 (v := 3689348814741910323) (pc' := 14) 9 rfl rfl kl_J13_316 ?_
  refine v_land (pc' := 15) 10 rfl rfl ?_
  refine v_lload_n (pc' := 16) 11 0 rfl rfl rfl rfl ?_
  refine v_iconst (v := 2) (pc' := 17) 12 rfl rfl (by decide) ?_
  refine v_lushr (pc' := 18) 13 rfl rfl ?_
  refine v_ldc2 (v := 3689348814741910323) (pc' := 21) 14 rfl rfl kl_J13_316 ?_
  refine v_land (pc' := 22) 15 rfl rfl ?_
  refine v_ladd (pc' := 23) 16 rfl rfl ?_
  refine nm_J (e := ((x217 &&& 3689348814741910323) + ((ushL x217 (2 : Int32)) &&& 3689348814741910323))) (fun x218 hx218 => ?_)
  replace h := h x218 hx218
  refine v_lstore_n (ls' := [(0, .long x218)]) (pc' := 24) 17 rfl rfl rfl (by decide) rfl ?_
  refine v_lload_n (pc' := 25) 18 0 rfl rfl rfl rfl ?_
  refine v_lload_n (pc' := 26) 19 0 rfl rfl rfl rfl ?_
  refine v_iconst (v := 4) (pc' := 27) 20 rfl rfl (by decide) ?_
  refine v_lushr (pc' := 28) 21 rfl rfl ?_
  refine v_ladd (pc' := 29) 22 rfl rfl ?_
  refine v_ldc2 (v := 1085102592571150095) (pc' := 32) 23 rfl rfl kl_J13_318 ?_
  refine v_land (pc' := 33) 24 rfl rfl ?_
  refine nm_J (e := ((x218 + (ushL x218 (4 : Int32))) &&& 1085102592571150095)) (fun x219 hx219 => ?_)
  replace h := h x219 hx219
  refine v_lstore_n (ls' := [(0, .long x219)]) (pc' := 34) 25 rfl rfl rfl (by decide) rfl ?_
  refine v_lload_n (pc' := 35) 26 0 rfl rfl rfl rfl ?_
  refine v_lload_n (pc' := 36) 27 0 rfl rfl rfl rfl ?_
  refine v_bipush (v := 8) (pc' := 38) 28 rfl rfl (by decide) ?_
  refine v_lushr (pc' := 39) 29 rfl rfl ?_
  refine v_ladd (pc' := 40) 30 rfl rfl ?_
  refine nm_J (e := (x219 + (ushL x219 (8 : Int32)))) (fun x220 hx220 => ?_)
  replace h := h x220 hx220
  refine v_lstore_n (ls' := [(0, .long x220)]) (pc' := 41) 31 rfl rfl rfl (by decide) rfl ?_
  refine v_lload_n (pc' := 42) 32 0 rfl rfl rfl rfl ?_
  refine v_lload_n (pc' := 43) 33 0 rfl rfl rfl rfl ?_
  refine v_bipush (v := 16) (pc' := 45) 34 rfl rfl (by decide) ?_
  refine v_lushr (pc' := 46) 35 rfl rfl ?_
  refine v_ladd (pc' := 47) 36 rfl rfl ?_
  refine nm_J (e := (x220 + (ushL x220 (16 : Int32)))) (fun x221 hx221 => ?_)
  replace h := h x221 hx221
  refine v_lstore_n (ls' := [(0, .long x221)]) (pc' := 48) 37 rfl rfl rfl (by decide) rfl ?_
  refine v_lload_n (pc' := 49) 38 0 rfl rfl rfl rfl ?_
  refine v_lload_n (pc' := 50) 39 0 rfl rfl rfl rfl ?_
  refine v_bipush (v := 32) (pc' := 52) 40 rfl rfl (by decide) ?_
  refine v_lushr (pc' := 53) 41 rfl rfl ?_
  refine v_ladd (pc' := 54) 42 rfl rfl ?_
  refine nm_J (e := (x221 + (ushL x221 (32 : Int32)))) (fun x222 hx222 => ?_)
  replace h := h x222 hx222
  refine v_lstore_n (ls' := [(0, .long x222)]) (pc' := 55) 43 rfl rfl rfl (by decide) rfl ?_
  refine v_lload_n (pc' := 56) 44 0 rfl rfl rfl rfl ?_
  refine v_l2i (pc' := 57) 45 rfl rfl ?_
  refine v_bipush (v := 127) (pc' := 59) 46 rfl rfl (by decide) ?_
  refine v_iand (pc' := 60) 47 rfl rfl ?_
  exact v_iret 48 rfl rfl (by decide) (by decide) ⟨_, rfl, rfl, h⟩
set_option maxHeartbeats 4000000 in
set_option maxRecDepth 100000 in
theorem ok_X0_pulses {G : GT} {b d t : Nat} (p0 : Nat) (p1 : Int32) (I : TI) (L : TL) (hp0 : bnOK p0) {Q : Int32 → Prop} (h : W_X0_pulses p0 p1 I L Q) : MW G Y_X0_pulses [.ref p0, .int p1] (I, L, RT b d t, 457) (fun v9 u9 => ∃ (r9 : Int32), v9 = some (.int r9) ∧ u9 = (I, L, RT b d t, 457) ∧ Q r9) (fun _ _ => False) := by
  unfold W_X0_pulses at h
  refine MW.intro rfl (by decide) is_X0_pulses (Nat.le_of_ble_eq_true rfl) ?_
  show V G Y_X0_pulses 0 [(0, .ref p0), (1, .int p1)] [] (I, L, RT b d t, 457) 0 0 _ _
  refine v_aload_n (pc' := 1) 0 0 rfl rfl rfl rfl ?_
  refine v_iload_n (pc' := 2) 1 1 rfl rfl rfl rfl ?_
  refine v_cV (Y2 := Y_X0_pulseStarts) (As := [.int p1]) (b := p0) (pc' := 5) (c1 := 0) (s1 := 0) 2 rfl rfl mf_X0_pulseStarts rfl rfl ml_X0_139 mi_X0_pulseStarts se_X0_pulseStarts (ci := 0) rfl (bn0l hp0) (lay_lt (bn0l hp0) (by decide)) rfl (Nat.le_of_ble_eq_true rfl) ⟨Nat.le_of_ble_eq_true rfl, Nat.le_of_ble_eq_true rfl⟩ rfl rfl (ok_X0_pulseStarts p0 p1 I L hp0 h) ?_ ?_
  · intro e9 u9 hx9
    exact hx9.elim
  intro v9 u9 hv9
  obtain ⟨r225, rfl, rfl, h⟩ := hv9
  refine ⟨fun q => absurd q (Nat.lt_irrefl _), ?_⟩
  show V G Y_X0_pulses 5 _ (.long r225 :: _) _ _ _ _ _
  refine v_cS (Y2 := Y_J13_bitCount_95d88) (As := [.long r225]) (pc' := 8) (c1 := 0) (s1 := 0) 3 rfl rfl mf_J13_bitCount_95d88 rfl rfl ml_X0_117 ms_J13_bitCount_95d88 rfl (Nat.le_of_ble_eq_true rfl) ⟨Nat.le_of_ble_eq_true rfl, Nat.le_of_ble_eq_true rfl⟩ rfl rfl (ok_J13_bitCount_95d88 r225 I L h) ?_ ?_
  · intro e9 u9 hx9
    exact hx9.elim
  intro v9 u9 hv9
  obtain ⟨r226, rfl, rfl, h⟩ := hv9
  refine ⟨fun q => absurd q (Nat.lt_irrefl _), ?_⟩
  show V G Y_X0_pulses 8 _ (.int r226 :: _) _ _ _ _ _
  exact v_iret 4 rfl rfl (by decide) (by decide) ⟨_, rfl, rfl, h⟩
set_option maxHeartbeats 4000000 in
set_option maxRecDepth 100000 in
theorem b_X0_pulseStart_46 {G : GT} {b d t : Nat} (p0 : Nat) (v2 : Int32) (v3 : Int64) (v5 : Int32) (v6 : Int32) (I : TI) (L : TL) (hp0 : bnOK p0) (Q : Int32 → Prop) (R12 : Int32 → Int32 → Prop) (hR12 : ∀ (v5 : Int32) (v6 : Int32), R12 v5 v6 → V G Y_X0_pulseStart 12 [(0, .ref p0), (2, .int v2), (3, .long v3), (5, .int v5), (6, .int v6)] [] (I, L, RT b d t, 457) 0 0 (fun v9 u9 => ∃ (r9 : Int32), v9 = some (.int r9) ∧ u9 = (I, L, RT b d t, 457) ∧ Q r9) (fun _ _ => False)) (h : B_X0_pulseStart_46 p0 v2 v3 v5 v6 I L Q R12) : V G Y_X0_pulseStart 46 [(0, .ref p0), (2, .int v2), (3, .long v3), (5, .int v5), (6, .int v6)] [] (I, L, RT b d t, 457) 0 0 (fun v9 u9 => ∃ (r9 : Int32), v9 = some (.int r9) ∧ u9 = (I, L, RT b d t, 457) ∧ Q r9) (fun _ _ => False) := by
  unfold B_X0_pulseStart_46 at h
  refine v_iinc (v := (v6 + 1)) (ls' := [(6, .int (v6 + 1)), (0, .ref p0), (2, .int v2), (3, .long v3), (5, .int v5)]) (pc' := 49) 24 4 rfl rfl rfl rfl (by decide) rfl ?_
  refine v_goto (tgt := 12) 25 rfl (by decide) ?_
  refine V.sub [1, 2, 3, 4, 0] rfl ?_
  exact hR12 v5 (v6 + 1) h
set_option maxHeartbeats 4000000 in
set_option maxRecDepth 100000 in
theorem d_X0_pulseStart_12 {G : GT} {b d t : Nat} (p0 : Nat) (v2 : Int32) (v3 : Int64) (I : TI) (L : TL) (hp0 : bnOK p0) (Q : Int32 → Prop) (R12 : Int32 → Int32 → Prop)  (hR12 : ∀ (v5 : Int32) (v6 : Int32), R12 v5 v6 → V G Y_X0_pulseStart 12 [(0, .ref p0), (2, .int v2), (3, .long v3), (5, .int v5), (6, .int v6)] [] (I, L, RT b d t, 457) 0 0 (fun v9 u9 => ∃ (r9 : Int32), v9 = some (.int r9) ∧ u9 = (I, L, RT b d t, 457) ∧ Q r9) (fun _ _ => False)) (v5 : Int32) (v6 : Int32)  (h : D_X0_pulseStart_12 p0 v2 v3 I L Q R12 v5 v6) : V G Y_X0_pulseStart 12 [(0, .ref p0), (2, .int v2), (3, .long v3), (5, .int v5), (6, .int v6)] [] (I, L, RT b d t, 457) 0 0 (fun v9 u9 => ∃ (r9 : Int32), v9 = some (.int r9) ∧ u9 = (I, L, RT b d t, 457) ∧ Q r9) (fun _ _ => False) := by
  unfold D_X0_pulseStart_12 at h
  refine v_iload (pc' := 14) 8 4 rfl rfl rfl ?_
  refine v_aload_n (pc' := 15) 9 0 rfl rfl rfl rfl ?_
  refine v_getR (t := (p0 + 1)) (pc' := 18) 10 rfl rfl pf_X0_12 (bn0l hp0) (lay_lt (bn0l hp0) (by decide)) (rt_bn_0 hp0) ?_
  refine v_getI (pc' := 21) 11 rfl rfl pf_X0_88 (bn1l hp0) (lay_lt (bn1l hp0) (by decide)) ?_
  refine v_icmp_ge (tgt := 52) (pc' := 24) 12 rfl rfl (by decide) (fun hc => ?_) (fun hc => ?_)
  · replace h := h.1 hc
    refine v_iconst (v := -1) (pc' := 53) 26 rfl rfl (by decide) ?_
    exact v_iret 27 rfl rfl (by decide) (by decide) ⟨_, rfl, rfl, h⟩
  replace h := h.2 hc
  refine v_lload_n (pc' := 25) 13 2 rfl rfl rfl rfl ?_
  refine v_iload (pc' := 27) 14 4 rfl rfl rfl ?_
  refine v_cNS (Y2 := Y_X8_bitOf) (As := [.long v3, .int v6]) (pc' := 30) (c1 := 0) (s1 := 0) 15 rfl rfl mf_X8_bitOf rfl rfl nt_X0_80 ms_X8_bitOf rfl (Nat.le_of_ble_eq_true rfl) ⟨Nat.le_of_ble_eq_true rfl, Nat.le_of_ble_eq_true rfl⟩ rfl rfl (ok_X8_bitOf v3 v6 I L h) ?_ ?_
  · intro e9 u9 hx9
    exact hx9.elim
  intro v9 u9 hv9
  obtain ⟨r231, rfl, rfl, h⟩ := hv9
  refine ⟨fun q => absurd q (Nat.lt_irrefl _), ?_⟩
  show V G Y_X0_pulseStart 30 _ (.int r231 :: _) _ _ _ _ _
  refine v_iconst (v := 1) (pc' := 31) 16 rfl rfl (by decide) ?_
  refine v_icmp_ne (tgt := 46) (pc' := 34) 17 rfl rfl (by decide) (fun hc => ?_) (fun hc => ?_)
  · replace h := h.1 hc
    exact b_X0_pulseStart_46 p0 v2 v3 v5 v6 I L hp0 Q R12 hR12 h
  replace h := h.2 hc
  refine v_iload (pc' := 36) 18 3 rfl rfl rfl ?_
  refine v_iload_n (pc' := 37) 19 1 rfl rfl rfl rfl ?_
  refine v_icmp_ne (tgt := 43) (pc' := 40) 20 rfl rfl (by decide) (fun hc => ?_) (fun hc => ?_)
  · replace h := h.1 hc
    refine v_iinc (v := (v5 + 1)) (ls' := [(5, .int (v5 + 1)), (0, .ref p0), (2, .int v2), (3, .long v3), (6, .int v6)]) (pc' := 46) 23 3 rfl rfl rfl rfl (by decide) rfl ?_
    refine V.sub [1, 2, 3, 0, 4] rfl ?_
    exact b_X0_pulseStart_46 p0 v2 v3 (v5 + 1) v6 I L hp0 Q R12 hR12 h
  replace h := h.2 hc
  refine v_iload (pc' := 42) 21 4 rfl rfl rfl ?_
  exact v_iret 22 rfl rfl (by decide) (by decide) ⟨_, rfl, rfl, h⟩
theorem l_X0_pulseStart_12 {G : GT} {b d t : Nat} (p0 : Nat) (v2 : Int32) (v3 : Int64) (I : TI) (L : TL) (hp0 : bnOK p0) (Q : Int32 → Prop)  : ∀ (n9 : Nat) (v5 : Int32) (v6 : Int32), L_X0_pulseStart_12 p0 v2 v3 I L Q n9 v5 v6 → V G Y_X0_pulseStart 12 [(0, .ref p0), (2, .int v2), (3, .long v3), (5, .int v5), (6, .int v6)] [] (I, L, RT b d t, 457) 0 0 (fun v9 u9 => ∃ (r9 : Int32), v9 = some (.int r9) ∧ u9 = (I, L, RT b d t, 457) ∧ Q r9) (fun _ _ => False)
  | 0, _, _, h => h.elim
  | n9 + 1, v5, v6, h => d_X0_pulseStart_12 p0 v2 v3 I L hp0 Q _ (l_X0_pulseStart_12 p0 v2 v3 I L hp0 Q n9) v5 v6 h
set_option maxHeartbeats 4000000 in
set_option maxRecDepth 100000 in
theorem ok_X0_pulseStart {G : GT} {b d t : Nat} (p0 : Nat) (p1 : Int32) (p2 : Int32) (I : TI) (L : TL) (hp0 : bnOK p0) {Q : Int32 → Prop} (h : W_X0_pulseStart p0 p1 p2 I L Q) : MW G Y_X0_pulseStart [.ref p0, .int p1, .int p2] (I, L, RT b d t, 457) (fun v9 u9 => ∃ (r9 : Int32), v9 = some (.int r9) ∧ u9 = (I, L, RT b d t, 457) ∧ Q r9) (fun _ _ => False) := by
  unfold W_X0_pulseStart at h
  refine MW.intro rfl (by decide) is_X0_pulseStart (Nat.le_of_ble_eq_true rfl) ?_
  show V G Y_X0_pulseStart 0 [(0, .ref p0), (1, .int p1), (2, .int p2)] [] (I, L, RT b d t, 457) 0 0 _ _
  refine v_aload_n (pc' := 1) 0 0 rfl rfl rfl rfl ?_
  refine v_iload_n (pc' := 2) 1 1 rfl rfl rfl rfl ?_
  refine v_cV (Y2 := Y_X0_pulseStarts) (As := [.int p1]) (b := p0) (pc' := 5) (c1 := 0) (s1 := 0) 2 rfl rfl mf_X0_pulseStarts rfl rfl ml_X0_139 mi_X0_pulseStarts se_X0_pulseStarts (ci := 0) rfl (bn0l hp0) (lay_lt (bn0l hp0) (by decide)) rfl (Nat.le_of_ble_eq_true rfl) ⟨Nat.le_of_ble_eq_true rfl, Nat.le_of_ble_eq_true rfl⟩ rfl rfl (ok_X0_pulseStarts p0 p1 I L hp0 h) ?_ ?_
  · intro e9 u9 hx9
    exact hx9.elim
  intro v9 u9 hv9
  obtain ⟨r232, rfl, rfl, h⟩ := hv9
  refine ⟨fun q => absurd q (Nat.lt_irrefl _), ?_⟩
  show V G Y_X0_pulseStart 5 _ (.long r232 :: _) _ _ _ _ _
  refine v_lstore_n (ls' := [(3, .long r232), (0, .ref p0), (1, .int p1), (2, .int p2)]) (pc' := 6) 3 rfl rfl rfl (by decide) rfl ?_
  refine v_iconst (v := 0) (pc' := 7) 4 rfl rfl (by decide) ?_
  refine v_istore (ls' := [(5, .int 0), (3, .long r232), (0, .ref p0), (1, .int p1), (2, .int p2)]) (pc' := 9) 5 rfl rfl (by decide) rfl ?_
  refine v_iconst (v := 1) (pc' := 10) 6 rfl rfl (by decide) ?_
  refine v_istore (ls' := [(6, .int 1), (5, .int 0), (3, .long r232), (0, .ref p0), (1, .int p1), (2, .int p2)]) (pc' := 12) 7 rfl rfl (by decide) rfl ?_
  refine V.sub [3, 5, 2, 1, 0] rfl ?_
  obtain ⟨n233, h⟩ := h
  exact l_X0_pulseStart_12 p0 p2 r232 I L hp0 Q n233 (0 : Int32) (1 : Int32) h
set_option maxHeartbeats 4000000 in
set_option maxRecDepth 100000 in
theorem d_X0_runEnd_2 {G : GT} {b d t : Nat} (p0 : Nat) (v1 : Int32) (v2 : Int32) (I : TI) (L : TL) (hp0 : bnOK p0) (Q : Int32 → Prop) (R2 : Int32 → Prop)  (hR2 : ∀ (v3 : Int32), R2 v3 → V G Y_X0_runEnd 2 [(0, .ref p0), (1, .int v1), (2, .int v2), (3, .int v3)] [] (I, L, RT b d t, 457) 0 0 (fun v9 u9 => ∃ (r9 : Int32), v9 = some (.int r9) ∧ u9 = (I, L, RT b d t, 457) ∧ Q r9) (fun _ _ => False)) (v3 : Int32)  (h : D_X0_runEnd_2 p0 v1 v2 I L Q R2 v3) : V G Y_X0_runEnd 2 [(0, .ref p0), (1, .int v1), (2, .int v2), (3, .int v3)] [] (I, L, RT b d t, 457) 0 0 (fun v9 u9 => ∃ (r9 : Int32), v9 = some (.int r9) ∧ u9 = (I, L, RT b d t, 457) ∧ Q r9) (fun _ _ => False) := by
  unfold D_X0_runEnd_2 at h
  refine v_iload_n (pc' := 3) 2 3 rfl rfl rfl rfl ?_
  refine v_aload_n (pc' := 4) 3 0 rfl rfl rfl rfl ?_
  refine v_getR (t := (p0 + 1)) (pc' := 7) 4 rfl rfl pf_X0_12 (bn0l hp0) (lay_lt (bn0l hp0) (by decide)) (rt_bn_0 hp0) ?_
  refine v_getI (pc' := 10) 5 rfl rfl pf_X0_88 (bn1l hp0) (lay_lt (bn1l hp0) (by decide)) ?_
  refine v_icmp_ge (tgt := 44) (pc' := 13) 6 rfl rfl (by decide) (fun hc => ?_) (fun hc => ?_)
  · replace h := h.1 hc
    refine v_iload_n (pc' := 45) 24 3 rfl rfl rfl rfl ?_
    exact v_iret 25 rfl rfl (by decide) (by decide) ⟨_, rfl, rfl, h⟩
  replace h := h.2 hc
  refine v_aload_n (pc' := 14) 7 0 rfl rfl rfl rfl ?_
  refine v_getR (t := (p0 + 37)) (pc' := 17) 8 rfl rfl pf_X0_25 (bn0l hp0) (lay_lt (bn0l hp0) (by decide)) (rt_bn_2 hp0) ?_
  refine v_iload_n (pc' := 18) 9 1 rfl rfl rfl rfl ?_
  obtain ⟨hi242, h⟩ := h
  refine v_lald (i := v1) (j := v1.toNatClampNeg) (pc' := 19) 10 rfl rfl (bn37l hp0) (bn37n hp0) (lay_lt (bn37l hp0) (by decide)) hi242 rfl ?_
  refine v_iload_n (pc' := 20) 11 3 rfl rfl rfl rfl ?_
  refine v_iconst (v := 1) (pc' := 21) 12 rfl rfl (by decide) ?_
  refine v_iadd (pc' := 22) 13 rfl rfl ?_
  refine v_cNS (Y2 := Y_X8_bitOf) (As := [.long (L (p0 + 37) (v1.toNatClampNeg)), .int (v3 + 1)]) (pc' := 25) (c1 := 0) (s1 := 0) 14 rfl rfl mf_X8_bitOf rfl rfl nt_X0_80 ms_X8_bitOf rfl (Nat.le_of_ble_eq_true rfl) ⟨Nat.le_of_ble_eq_true rfl, Nat.le_of_ble_eq_true rfl⟩ rfl rfl (ok_X8_bitOf (L (p0 + 37) (v1.toNatClampNeg)) (v3 + 1) I L h) ?_ ?_
  · intro e9 u9 hx9
    exact hx9.elim
  intro v9 u9 hv9
  obtain ⟨r243, rfl, rfl, h⟩ := hv9
  refine ⟨fun q => absurd q (Nat.lt_irrefl _), ?_⟩
  show V G Y_X0_runEnd 25 _ (.int r243 :: _) _ _ _ _ _
  refine v_aload_n (pc' := 26) 15 0 rfl rfl rfl rfl ?_
  refine v_getR (t := (p0 + 37)) (pc' := 29) 16 rfl rfl pf_X0_25 (bn0l hp0) (lay_lt (bn0l hp0) (by decide)) (rt_bn_2 hp0) ?_
  refine v_iload_n (pc' := 30) 17 1 rfl rfl rfl rfl ?_
  obtain ⟨hi244, h⟩ := h
  refine v_lald (i := v1) (j := v1.toNatClampNeg) (pc' := 31) 18 rfl rfl (bn37l hp0) (bn37n hp0) (lay_lt (bn37l hp0) (by decide)) hi244 rfl ?_
  refine v_iload_n (pc' := 32) 19 2 rfl rfl rfl rfl ?_
  refine v_cNS (Y2 := Y_X8_bitOf) (As := [.long (L (p0 + 37) (v1.toNatClampNeg)), .int v2]) (pc' := 35) (c1 := 0) (s1 := 0) 20 rfl rfl mf_X8_bitOf rfl rfl nt_X0_80 ms_X8_bitOf rfl (Nat.le_of_ble_eq_true rfl) ⟨Nat.le_of_ble_eq_true rfl, Nat.le_of_ble_eq_true rfl⟩ rfl rfl (ok_X8_bitOf (L (p0 + 37) (v1.toNatClampNeg)) v2 I L h) ?_ ?_
  · intro e9 u9 hx9
    exact hx9.elim
  intro v9 u9 hv9
  obtain ⟨r245, rfl, rfl, h⟩ := hv9
  refine ⟨fun q => absurd q (Nat.lt_irrefl _), ?_⟩
  show V G Y_X0_runEnd 35 _ (.int r245 :: _) _ _ _ _ _
  refine v_icmp_ne (tgt := 44) (pc' := 38) 21 rfl rfl (by decide) (fun hc => ?_) (fun hc => ?_)
  · replace h := h.1 hc
    refine v_iload_n (pc' := 45) 24 3 rfl rfl rfl rfl ?_
    exact v_iret 25 rfl rfl (by decide) (by decide) ⟨_, rfl, rfl, h⟩
  replace h := h.2 hc
  refine v_iinc (v := (v3 + 1)) (ls' := [(3, .int (v3 + 1)), (0, .ref p0), (1, .int v1), (2, .int v2)]) (pc' := 41) 22 3 rfl rfl rfl rfl (by decide) rfl ?_
  refine v_goto (tgt := 2) 23 rfl (by decide) ?_
  refine V.sub [1, 2, 3, 0] rfl ?_
  exact hR2 (v3 + 1) h
theorem l_X0_runEnd_2 {G : GT} {b d t : Nat} (p0 : Nat) (v1 : Int32) (v2 : Int32) (I : TI) (L : TL) (hp0 : bnOK p0) (Q : Int32 → Prop)  : ∀ (n9 : Nat) (v3 : Int32), L_X0_runEnd_2 p0 v1 v2 I L Q n9 v3 → V G Y_X0_runEnd 2 [(0, .ref p0), (1, .int v1), (2, .int v2), (3, .int v3)] [] (I, L, RT b d t, 457) 0 0 (fun v9 u9 => ∃ (r9 : Int32), v9 = some (.int r9) ∧ u9 = (I, L, RT b d t, 457) ∧ Q r9) (fun _ _ => False)
  | 0, _, h => h.elim
  | n9 + 1, v3, h => d_X0_runEnd_2 p0 v1 v2 I L hp0 Q _ (l_X0_runEnd_2 p0 v1 v2 I L hp0 Q n9) v3 h
set_option maxHeartbeats 4000000 in
set_option maxRecDepth 100000 in
theorem ok_X0_runEnd {G : GT} {b d t : Nat} (p0 : Nat) (p1 : Int32) (p2 : Int32) (I : TI) (L : TL) (hp0 : bnOK p0) {Q : Int32 → Prop} (h : W_X0_runEnd p0 p1 p2 I L Q) : MW G Y_X0_runEnd [.ref p0, .int p1, .int p2] (I, L, RT b d t, 457) (fun v9 u9 => ∃ (r9 : Int32), v9 = some (.int r9) ∧ u9 = (I, L, RT b d t, 457) ∧ Q r9) (fun _ _ => False) := by
  unfold W_X0_runEnd at h
  refine MW.intro rfl (by decide) is_X0_runEnd (Nat.le_of_ble_eq_true rfl) ?_
  show V G Y_X0_runEnd 0 [(0, .ref p0), (1, .int p1), (2, .int p2)] [] (I, L, RT b d t, 457) 0 0 _ _
  refine v_iload_n (pc' := 1) 0 2 rfl rfl rfl rfl ?_
  refine v_istore_n (ls' := [(3, .int p2), (0, .ref p0), (1, .int p1), (2, .int p2)]) (pc' := 2) 1 rfl rfl rfl (by decide) rfl ?_
  refine V.sub [1, 2, 3, 0] rfl ?_
  obtain ⟨n246, h⟩ := h
  exact l_X0_runEnd_2 p0 p1 p2 I L hp0 Q n246 p2 h
set_option maxHeartbeats 4000000 in
set_option maxRecDepth 100000 in
theorem ok_X0_cheapVerdict {G : GT} {b d t : Nat} (p0 : Nat) (p1 : Int32) (p2 : Int32) (p3 : Int32) (I : TI) (L : TL) (hp0 : bnOK p0) {Q : Int32 → Prop} (h : W_X0_cheapVerdict p0 p1 p2 p3 I L Q) : MW G Y_X0_cheapVerdict [.ref p0, .int p1, .int p2, .int p3] (I, L, RT b d t, 457) (fun v9 u9 => ∃ (r9 : Int32), v9 = some (.int r9) ∧ u9 = (I, L, RT b d t, 457) ∧ Q r9) (fun _ _ => False) := by
  unfold W_X0_cheapVerdict at h
  refine MW.intro rfl (by decide) is_X0_cheapVerdict (Nat.le_of_ble_eq_true rfl) ?_
  show V G Y_X0_cheapVerdict 0 [(0, .ref p0), (1, .int p1), (2, .int p2), (3, .int p3)] [] (I, L, RT b d t, 457) 0 0 _ _
  refine v_iload_n (pc' := 1) 0 2 rfl rfl rfl rfl ?_
  refine v_aload_n (pc' := 2) 1 0 rfl rfl rfl rfl ?_
  refine v_iload_n (pc' := 3) 2 1 rfl rfl rfl rfl ?_
  refine v_iload_n (pc' := 4) 3 3 rfl rfl rfl rfl ?_
  refine v_cV (Y2 := Y_X0_swing) (As := [.int p1, .int p3]) (b := p0) (pc' := 7) (c1 := 0) (s1 := 0) 4 rfl rfl mf_X0_swing rfl rfl ml_X0_91 mi_X0_swing se_X0_swing (ci := 0) rfl (bn0l hp0) (lay_lt (bn0l hp0) (by decide)) rfl (Nat.le_of_ble_eq_true rfl) ⟨Nat.le_of_ble_eq_true rfl, Nat.le_of_ble_eq_true rfl⟩ rfl rfl (ok_X0_swing p0 p1 p3 I L hp0 h) ?_ ?_
  · intro e9 u9 hx9
    exact hx9.elim
  intro v9 u9 hv9
  obtain ⟨r248, rfl, rfl, h⟩ := hv9
  refine ⟨fun q => absurd q (Nat.lt_irrefl _), ?_⟩
  show V G Y_X0_cheapVerdict 7 _ (.int r248 :: _) _ _ _ _ _
  refine v_icmp_le (tgt := 14) (pc' := 10) 5 rfl rfl (by decide) (fun hc => ?_) (fun hc => ?_)
  · replace h := h.1 hc
    refine v_iconst (v := 0) (pc' := 15) 8 rfl rfl (by decide) ?_
    exact v_iret 9 rfl rfl (by decide) (by decide) ⟨_, rfl, rfl, h⟩
  replace h := h.2 hc
  refine v_iconst (v := 1) (pc' := 11) 6 rfl rfl (by decide) ?_
  refine v_goto (tgt := 15) 7 rfl (by decide) ?_
  exact v_iret 9 rfl rfl (by decide) (by decide) ⟨_, rfl, rfl, h⟩
set_option maxHeartbeats 4000000 in
set_option maxRecDepth 100000 in
theorem b_X0_dearVerdict_33 {G : GT} {b d t : Nat} (p0 : Nat) (p1 : Nat) (s0 : Int64) (I : TI) (L : TL) (hp0 : bnOK p0) (hp1 : LAY p1 = 2) (Q : Int32 → Prop)  (h : B_X0_dearVerdict_33 p0 p1 s0 I L Q) : V G Y_X0_dearVerdict 33 [(1, .ref p1)] [.long s0] (I, L, RT b d t, 457) 0 0 (fun v9 u9 => ∃ (r9 : Int32), v9 = some (.int r9) ∧ u9 = (I, L, RT b d t, 457) ∧ Q r9) (fun _ _ => False) := by
  unfold B_X0_dearVerdict_33 at h
  refine v_lstore_n (ls' := [(2, .long s0), (1, .ref p1)]) (pc' := 34) 17 rfl rfl rfl (by decide) rfl ?_
  refine v_lload_n (pc' := 35) 18 0 rfl rfl rfl rfl ?_
  refine v_aload_n (pc' := 36) 19 1 rfl rfl rfl rfl ?_
  refine v_getI (pc' := 39) 20 rfl rfl pf_X0_150 hp1 (lay_lt hp1 (by decide)) ?_
  refine v_aload_n (pc' := 40) 21 1 rfl rfl rfl rfl ?_
  refine v_getI (pc' := 43) 22 rfl rfl pf_X0_153 hp1 (lay_lt hp1 (by decide)) ?_
  refine v_cNS (Y2 := Y_X8_window) (As := [.int (I p1 1), .int (I p1 2)]) (pc' := 46) (c1 := 0) (s1 := 0) 23 rfl rfl mf_X8_window rfl rfl nt_X0_84 ms_X8_window rfl (Nat.le_of_ble_eq_true rfl) ⟨Nat.le_of_ble_eq_true rfl, Nat.le_of_ble_eq_true rfl⟩ rfl rfl (ok_X8_window (I p1 1) (I p1 2) I L h) ?_ ?_
  · intro e9 u9 hx9
    exact hx9.elim
  intro v9 u9 hv9
  obtain ⟨r255, rfl, rfl, h⟩ := hv9
  refine ⟨fun q => absurd q (Nat.lt_irrefl _), ?_⟩
  show V G Y_X0_dearVerdict 46 _ (.long r255 :: _) _ _ _ _ _
  refine v_land (pc' := 47) 24 rfl rfl ?_
  refine v_lconst (v := 0) (pc' := 48) 25 rfl rfl (by decide) ?_
  refine v_lc_eq (tgt := 56) (pc' := 52) 26 27 rfl rfl rfl (by decide) (fun hc => ?_) (fun hc => ?_)
  · replace h := h.1 hc
    refine v_iconst (v := 0) (pc' := 57) 30 rfl rfl (by decide) ?_
    exact v_iret 31 rfl rfl (by decide) (by decide) ⟨_, rfl, rfl, h⟩
  replace h := h.2 hc
  refine v_iconst (v := 1) (pc' := 53) 28 rfl rfl (by decide) ?_
  refine v_goto (tgt := 57) 29 rfl (by decide) ?_
  exact v_iret 31 rfl rfl (by decide) (by decide) ⟨_, rfl, rfl, h⟩
set_option maxHeartbeats 4000000 in
set_option maxRecDepth 100000 in
theorem ok_X0_dearVerdict {G : GT} {b d t : Nat} (p0 : Nat) (p1 : Nat) (I : TI) (L : TL) (hp0 : bnOK p0) (hp1 : LAY p1 = 2) {Q : Int32 → Prop} (h : W_X0_dearVerdict p0 p1 I L Q) : MW G Y_X0_dearVerdict [.ref p0, .ref p1] (I, L, RT b d t, 457) (fun v9 u9 => ∃ (r9 : Int32), v9 = some (.int r9) ∧ u9 = (I, L, RT b d t, 457) ∧ Q r9) (fun _ _ => False) := by
  unfold W_X0_dearVerdict at h
  refine MW.intro rfl (by decide) is_X0_dearVerdict (Nat.le_of_ble_eq_true rfl) ?_
  show V G Y_X0_dearVerdict 0 [(0, .ref p0), (1, .ref p1)] [] (I, L, RT b d t, 457) 0 0 _ _
  refine v_aload_n (pc' := 1) 0 1 rfl rfl rfl rfl ?_
  refine v_getI (pc' := 4) 1 rfl rfl pf_X0_142 hp1 (lay_lt hp1 (by decide)) ?_
  refine v_iconst (v := 1) (pc' := 5) 2 rfl rfl (by decide) ?_
  refine v_icmp_ne (tgt := 20) (pc' := 8) 3 rfl rfl (by decide) (fun hc => ?_) (fun hc => ?_)
  · replace h := h.1 hc
    refine v_aload_n (pc' := 21) 10 0 rfl rfl rfl rfl ?_
    refine v_getR (t := (p0 + 39)) (pc' := 24) 11 rfl rfl pf_X0_32 (bn0l hp0) (lay_lt (bn0l hp0) (by decide)) (rt_bn_4 hp0) ?_
    refine v_aload_n (pc' := 25) 12 1 rfl rfl rfl rfl ?_
    refine v_getI (pc' := 28) 13 rfl rfl pf_X0_147 hp1 (lay_lt hp1 (by decide)) ?_
    obtain ⟨hi256, h⟩ := h
    refine v_lald (i := (I p1 0)) (j := (I p1 0).toNatClampNeg) (pc' := 29) 14 rfl rfl (bn39l hp0) (bn39n hp0) (lay_lt (bn39l hp0) (by decide)) hi256 rfl ?_
    refine v_ldc2 (v := -1) (pc' := 32) 15 rfl rfl kl_X0_112 ?_
    refine v_lxor (pc' := 33) 16 rfl rfl ?_
    refine V.sub [1] rfl ?_
    exact b_X0_dearVerdict_33 p0 p1 ((L (p0 + 39) ((I p1 0).toNatClampNeg)) ^^^ (-1)) I L hp0 hp1 Q h
  replace h := h.2 hc
  refine v_aload_n (pc' := 9) 4 0 rfl rfl rfl rfl ?_
  refine v_getR (t := (p0 + 39)) (pc' := 12) 5 rfl rfl pf_X0_32 (bn0l hp0) (lay_lt (bn0l hp0) (by decide)) (rt_bn_4 hp0) ?_
  refine v_aload_n (pc' := 13) 6 1 rfl rfl rfl rfl ?_
  refine v_getI (pc' := 16) 7 rfl rfl pf_X0_147 hp1 (lay_lt hp1 (by decide)) ?_
  obtain ⟨hi257, h⟩ := h
  refine v_lald (i := (I p1 0)) (j := (I p1 0).toNatClampNeg) (pc' := 17) 8 rfl rfl (bn39l hp0) (bn39n hp0) (lay_lt (bn39l hp0) (by decide)) hi257 rfl ?_
  refine v_goto (tgt := 33) 9 rfl (by decide) ?_
  refine V.sub [1] rfl ?_
  exact b_X0_dearVerdict_33 p0 p1 (L (p0 + 39) ((I p1 0).toNatClampNeg)) I L hp0 hp1 Q h
set_option maxHeartbeats 4000000 in
set_option maxRecDepth 100000 in
theorem ok_X0_settle {G : GT} {b d t : Nat} (p0 : Nat) (p1 : Int32) (p2 : Int32) (p3 : Int32) (I : TI) (L : TL) (hp0 : bnOK p0) {Q : Int32 → TI → TL → Prop} (h : W_X0_settle p0 p1 p2 p3 I L Q) : MW G Y_X0_settle [.ref p0, .int p1, .int p2, .int p3] (I, L, RT b d t, 457) (fun v9 u9 => ∃ (r9 : Int32) (I9 : TI) (L9 : TL), v9 = some (.int r9) ∧ u9 = (I9, L9, RT b d t, 457) ∧ Q r9 I9 L9) (fun _ _ => False) := by
  unfold W_X0_settle at h
  refine MW.intro rfl (by decide) is_X0_settle (Nat.le_of_ble_eq_true rfl) ?_
  show V G Y_X0_settle 0 [(0, .ref p0), (1, .int p1), (2, .int p2), (3, .int p3)] [] (I, L, RT b d t, 457) 0 0 _ _
  refine v_iload_n (pc' := 1) 0 2 rfl rfl rfl rfl ?_
  refine v_iload_n (pc' := 2) 1 3 rfl rfl rfl rfl ?_
  refine v_cNS (Y2 := Y_X8_window) (As := [.int p2, .int p3]) (pc' := 5) (c1 := 0) (s1 := 0) 2 rfl rfl mf_X8_window rfl rfl nt_X0_84 ms_X8_window rfl (Nat.le_of_ble_eq_true rfl) ⟨Nat.le_of_ble_eq_true rfl, Nat.le_of_ble_eq_true rfl⟩ rfl rfl (ok_X8_window p2 p3 I L h) ?_ ?_
  · intro e9 u9 hx9
    exact hx9.elim
  intro v9 u9 hv9
  obtain ⟨r265, rfl, rfl, h⟩ := hv9
  refine ⟨fun q => absurd q (Nat.lt_irrefl _), ?_⟩
  show V G Y_X0_settle 5 _ (.long r265 :: _) _ _ _ _ _
  refine v_aload_n (pc' := 6) 3 0 rfl rfl rfl rfl ?_
  refine v_getR (t := (p0 + 6)) (pc' := 9) 4 rfl rfl pf_X0_21 (bn0l hp0) (lay_lt (bn0l hp0) (by decide)) (rt_bn_1 hp0) ?_
  refine v_getR (t := (p0 + 12)) (pc' := 12) 5 rfl rfl pf_X0_109 (bn6l hp0) (lay_lt (bn6l hp0) (by decide)) (rt_st_2 (bn_st hp0)) ?_
  refine v_iload_n (pc' := 13) 6 1 rfl rfl rfl rfl ?_
  obtain ⟨hi266, h⟩ := h
  refine v_lald (i := p1) (j := p1.toNatClampNeg) (pc' := 14) 7 rfl rfl (bn12l hp0) (bn12n hp0) (lay_lt (bn12l hp0) (by decide)) hi266 rfl ?_
  refine v_ldc2 (v := -1) (pc' := 17) 8 rfl rfl kl_X0_112 ?_
  refine v_lxor (pc' := 18) 9 rfl rfl ?_
  refine v_land (pc' := 19) 10 rfl rfl ?_
  refine nm_J (e := (r265 &&& ((L (p0 + 12) (p1.toNatClampNeg)) ^^^ (-1)))) (fun x267 hx267 => ?_)
  replace h := h x267 hx267
  refine v_lstore (ls' := [(4, .long x267), (0, .ref p0), (1, .int p1), (2, .int p2), (3, .int p3)]) (pc' := 21) 11 rfl rfl (by decide) rfl ?_
  refine v_aload_n (pc' := 22) 12 1 rfl rfl rfl rfl ?_
  refine v_getR (t := (p0 + 6)) (pc' := 25) 13 rfl rfl pf_X0_21 (bn0l hp0) (lay_lt (bn0l hp0) (by decide)) (rt_bn_1 hp0) ?_
  refine v_getR (t := (p0 + 12)) (pc' := 28) 14 rfl rfl pf_X0_109 (bn6l hp0) (lay_lt (bn6l hp0) (by decide)) (rt_st_2 (bn_st hp0)) ?_
  refine v_iload_n (pc' := 29) 15 2 rfl rfl rfl rfl ?_
  refine v_dup2 (pc' := 30) 16 rfl rfl rfl rfl ?_
  obtain ⟨hi268, h⟩ := h
  refine v_lald (i := p1) (j := p1.toNatClampNeg) (pc' := 31) 17 rfl rfl (bn12l hp0) (bn12n hp0) (lay_lt (bn12l hp0) (by decide)) hi268 rfl ?_
  refine v_lload (pc' := 33) 18 0 rfl rfl rfl ?_
  refine v_lor (pc' := 34) 19 rfl rfl ?_
  obtain ⟨hi269, h⟩ := h
  refine v_last (i := p1) (j := p1.toNatClampNeg) (pc' := 35) 20 rfl rfl (bn12l hp0) (bn12n hp0) (lay_lt (bn12l hp0) (by decide)) hi269 rfl ?_
  refine nm_N (e := (up2 L (p0 + 12) (p1.toNatClampNeg) ((L (p0 + 12) (p1.toNatClampNeg)) ||| x267))) (fun L270 hL270 => ?_)
  replace h := h L270 hL270
  refine v_aload_n (pc' := 36) 21 1 rfl rfl rfl rfl ?_
  refine v_cV (Y2 := Y_X0_refresh) (As := []) (b := p0) (pc' := 39) (c1 := 0) (s1 := 0) 22 rfl rfl mf_X0_refresh rfl rfl ml_X0_156 mi_X0_refresh se_X0_refresh (ci := 0) rfl (bn0l hp0) (lay_lt (bn0l hp0) (by decide)) rfl (Nat.le_of_ble_eq_true rfl) ⟨Nat.le_of_ble_eq_true rfl, Nat.le_of_ble_eq_true rfl⟩ rfl rfl (ok_X0_refresh p0 I L270 hp0 h) ?_ ?_
  · intro e9 u9 hx9
    exact hx9.elim
  intro v9 u9 hv9
  obtain ⟨I271, L272, rfl, rfl, h⟩ := hv9
  refine ⟨fun q => absurd q (Nat.lt_irrefl _), ?_⟩
  show V G Y_X0_settle 39 _ _ _ _ _ _ _
  refine v_lload (pc' := 41) 23 0 rfl rfl rfl ?_
  refine v_cS (Y2 := Y_J13_bitCount_95d88) (As := [.long x267]) (pc' := 44) (c1 := 0) (s1 := 0) 24 rfl rfl mf_J13_bitCount_95d88 rfl rfl ml_X0_117 ms_J13_bitCount_95d88 rfl (Nat.le_of_ble_eq_true rfl) ⟨Nat.le_of_ble_eq_true rfl, Nat.le_of_ble_eq_true rfl⟩ rfl rfl (ok_J13_bitCount_95d88 x267 I271 L272 h) ?_ ?_
  · intro e9 u9 hx9
    exact hx9.elim
  intro v9 u9 hv9
  obtain ⟨r273, rfl, rfl, h⟩ := hv9
  refine ⟨fun q => absurd q (Nat.lt_irrefl _), ?_⟩
  show V G Y_X0_settle 44 _ (.int r273 :: _) _ _ _ _ _
  exact v_iret 25 rfl rfl (by decide) (by decide) ⟨_, _, _, rfl, rfl, h⟩
set_option maxHeartbeats 4000000 in
set_option maxRecDepth 100000 in
theorem b_X0_rule_139 {G : GT} {b d t : Nat} (p0 : Nat) (p1 : Nat) (v5 : Int64) (s1 : Int32) (s2 : Int64) (I : TI) (L : TL) (hp0 : bnOK p0) (hp1 : LAY p1 = 2) (Q : Int32 → TI → TL → Prop)  (h : B_X0_rule_139 p0 p1 v5 s1 s2 I L Q) : V G Y_X0_rule 139 [(0, .ref p0), (5, .long v5)] [.long s2, .int s1, .ref (p0 + 14)] (I, L, RT b d t, 457) 0 0 (fun v9 u9 => ∃ (r9 : Int32) (I9 : TI) (L9 : TL), v9 = some (.int r9) ∧ u9 = (I9, L9, RT b d t, 457) ∧ Q r9 I9 L9) (fun _ _ => False) := by
  unfold B_X0_rule_139 at h
  obtain ⟨hi298, h⟩ := h
  refine v_last (i := s1) (j := s1.toNatClampNeg) (pc' := 140) 78 rfl rfl (bn14l hp0) (bn14n hp0) (lay_lt (bn14l hp0) (by decide)) hi298 rfl ?_
  refine v_aload_n (pc' := 141) 79 0 rfl rfl rfl rfl ?_
  refine v_cV (Y2 := Y_X0_refresh) (As := []) (b := p0) (pc' := 144) (c1 := 0) (s1 := 0) 80 rfl rfl mf_X0_refresh rfl rfl ml_X0_156 mi_X0_refresh se_X0_refresh (ci := 0) rfl (bn0l hp0) (lay_lt (bn0l hp0) (by decide)) rfl (Nat.le_of_ble_eq_true rfl) ⟨Nat.le_of_ble_eq_true rfl, Nat.le_of_ble_eq_true rfl⟩ rfl rfl (ok_X0_refresh p0 I (up2 L (p0 + 14) (s1.toNatClampNeg) s2) hp0 h) ?_ ?_
  · intro e9 u9 hx9
    exact hx9.elim
  intro v9 u9 hv9
  obtain ⟨I299, L300, rfl, rfl, h⟩ := hv9
  refine ⟨fun q => absurd q (Nat.lt_irrefl _), ?_⟩
  show V G Y_X0_rule 144 _ _ _ _ _ _ _
  refine v_lload (pc' := 146) 81 1 rfl rfl rfl ?_
  refine v_cS (Y2 := Y_J13_bitCount_95d88) (As := [.long v5]) (pc' := 149) (c1 := 0) (s1 := 0) 82 rfl rfl mf_J13_bitCount_95d88 rfl rfl ml_X0_117 ms_J13_bitCount_95d88 rfl (Nat.le_of_ble_eq_true rfl) ⟨Nat.le_of_ble_eq_true rfl, Nat.le_of_ble_eq_true rfl⟩ rfl rfl (ok_J13_bitCount_95d88 v5 I299 L300 h) ?_ ?_
  · intro e9 u9 hx9
    exact hx9.elim
  intro v9 u9 hv9
  obtain ⟨r301, rfl, rfl, h⟩ := hv9
  refine ⟨fun q => absurd q (Nat.lt_irrefl _), ?_⟩
  show V G Y_X0_rule 149 _ (.int r301 :: _) _ _ _ _ _
  exact v_iret 83 rfl rfl (by decide) (by decide) ⟨_, _, _, rfl, rfl, h⟩
set_option maxHeartbeats 4000000 in
set_option maxRecDepth 100000 in
theorem b_X0_rule_82 {G : GT} {b d t : Nat} (p0 : Nat) (p1 : Nat) (v2 : Int32) (v3 : Int64) (v5 : Int64) (s0 : Int32) (I : TI) (L : TL) (hp0 : bnOK p0) (hp1 : LAY p1 = 2) (Q : Int32 → TI → TL → Prop)  (h : B_X0_rule_82 p0 p1 v2 v3 v5 s0 I L Q) : V G Y_X0_rule 82 [(0, .ref p0), (2, .int v2), (3, .long v3), (5, .long v5)] [.int s0] (I, L, RT b d t, 457) 0 0 (fun v9 u9 => ∃ (r9 : Int32) (I9 : TI) (L9 : TL), v9 = some (.int r9) ∧ u9 = (I9, L9, RT b d t, 457) ∧ Q r9 I9 L9) (fun _ _ => False) := by
  unfold B_X0_rule_82 at h
  refine v_istore (ls' := [(7, .int s0), (0, .ref p0), (2, .int v2), (3, .long v3), (5, .long v5)]) (pc' := 84) 45 rfl rfl (by decide) rfl ?_
  refine v_aload_n (pc' := 85) 46 1 rfl rfl rfl rfl ?_
  refine v_getR (t := (p0 + 6)) (pc' := 88) 47 rfl rfl pf_X0_21 (bn0l hp0) (lay_lt (bn0l hp0) (by decide)) (rt_bn_1 hp0) ?_
  refine v_getR (t := (p0 + 13)) (pc' := 91) 48 rfl rfl pf_X0_106 (bn6l hp0) (lay_lt (bn6l hp0) (by decide)) (rt_st_3 (bn_st hp0)) ?_
  refine v_iload_n (pc' := 92) 49 2 rfl rfl rfl rfl ?_
  refine v_dup2 (pc' := 93) 50 rfl rfl rfl rfl ?_
  obtain ⟨hi302, h⟩ := h
  refine v_lald (i := v2) (j := v2.toNatClampNeg) (pc' := 94) 51 rfl rfl (bn13l hp0) (bn13n hp0) (lay_lt (bn13l hp0) (by decide)) hi302 rfl ?_
  refine v_lload_n (pc' := 95) 52 3 rfl rfl rfl rfl ?_
  refine v_lor (pc' := 96) 53 rfl rfl ?_
  obtain ⟨hi303, h⟩ := h
  refine v_last (i := v2) (j := v2.toNatClampNeg) (pc' := 97) 54 rfl rfl (bn13l hp0) (bn13n hp0) (lay_lt (bn13l hp0) (by decide)) hi303 rfl ?_
  refine nm_N (e := (up2 L (p0 + 13) (v2.toNatClampNeg) ((L (p0 + 13) (v2.toNatClampNeg)) ||| v3))) (fun L304 hL304 => ?_)
  replace h := h L304 hL304
  refine v_aload_n (pc' := 98) 55 1 rfl rfl rfl rfl ?_
  refine v_getR (t := (p0 + 6)) (pc' := 101) 56 rfl rfl pf_X0_21 (bn0l hp0) (lay_lt (bn0l hp0) (by decide)) (rt_bn_1 hp0) ?_
  refine v_getR (t := (p0 + 14)) (pc' := 104) 57 rfl rfl pf_X0_114 (bn6l hp0) (lay_lt (bn6l hp0) (by decide)) (rt_st_4 (bn_st hp0)) ?_
  refine v_iload_n (pc' := 105) 58 2 rfl rfl rfl rfl ?_
  refine v_iload (pc' := 107) 59 0 rfl rfl rfl ?_
  refine v_if_eq (tgt := 124) (pc' := 110) 60 rfl rfl (by decide) (fun hc => ?_) (fun hc => ?_)
  · replace h := h.1 hc
    refine v_aload_n (pc' := 125) 69 1 rfl rfl rfl rfl ?_
    refine v_getR (t := (p0 + 6)) (pc' := 128) 70 rfl rfl pf_X0_21 (bn0l hp0) (lay_lt (bn0l hp0) (by decide)) (rt_bn_1 hp0) ?_
    refine v_getR (t := (p0 + 14)) (pc' := 131) 71 rfl rfl pf_X0_114 (bn6l hp0) (lay_lt (bn6l hp0) (by decide)) (rt_st_4 (bn_st hp0)) ?_
    refine v_iload_n (pc' := 132) 72 2 rfl rfl rfl rfl ?_
    obtain ⟨hi305, h⟩ := h
    refine v_lald (i := v2) (j := v2.toNatClampNeg) (pc' := 133) 73 rfl rfl (bn14l hp0) (bn14n hp0) (lay_lt (bn14l hp0) (by decide)) hi305 rfl ?_
    refine v_lload_n (pc' := 134) 74 3 rfl rfl rfl rfl ?_
    refine v_ldc2 (v := -1) (pc' := 137) 75 rfl rfl kl_X0_112 ?_
    refine v_lxor (pc' := 138) 76 rfl rfl ?_
    refine v_land (pc' := 139) 77 rfl rfl ?_
    refine V.sub [1, 4] rfl ?_
    exact b_X0_rule_139 p0 p1 v5 v2 ((L304 (p0 + 14) (v2.toNatClampNeg)) &&& (v3 ^^^ (-1))) I L304 hp0 hp1 Q h
  replace h := h.2 hc
  refine v_aload_n (pc' := 111) 61 1 rfl rfl rfl rfl ?_
  refine v_getR (t := (p0 + 6)) (pc' := 114) 62 rfl rfl pf_X0_21 (bn0l hp0) (lay_lt (bn0l hp0) (by decide)) (rt_bn_1 hp0) ?_
  refine v_getR (t := (p0 + 14)) (pc' := 117) 63 rfl rfl pf_X0_114 (bn6l hp0) (lay_lt (bn6l hp0) (by decide)) (rt_st_4 (bn_st hp0)) ?_
  refine v_iload_n (pc' := 118) 64 2 rfl rfl rfl rfl ?_
  obtain ⟨hi306, h⟩ := h
  refine v_lald (i := v2) (j := v2.toNatClampNeg) (pc' := 119) 65 rfl rfl (bn14l hp0) (bn14n hp0) (lay_lt (bn14l hp0) (by decide)) hi306 rfl ?_
  refine v_lload_n (pc' := 120) 66 3 rfl rfl rfl rfl ?_
  refine v_lor (pc' := 121) 67 rfl rfl ?_
  refine v_goto (tgt := 139) 68 rfl (by decide) ?_
  refine V.sub [1, 4] rfl ?_
  exact b_X0_rule_139 p0 p1 v5 v2 ((L304 (p0 + 14) (v2.toNatClampNeg)) ||| v3) I L304 hp0 hp1 Q h
set_option maxHeartbeats 4000000 in
set_option maxRecDepth 100000 in
theorem b_X0_rule_74 {G : GT} {b d t : Nat} (p0 : Nat) (p1 : Nat) (v2 : Int32) (v3 : Int64) (v5 : Int64) (s0 : Int32) (s1 : Int32) (I : TI) (L : TL) (hp0 : bnOK p0) (hp1 : LAY p1 = 2) (Q : Int32 → TI → TL → Prop)  (h : B_X0_rule_74 p0 p1 v2 v3 v5 s0 s1 I L Q) : V G Y_X0_rule 74 [(0, .ref p0), (2, .int v2), (3, .long v3), (5, .long v5)] [.int s1, .int s0] (I, L, RT b d t, 457) 0 0 (fun v9 u9 => ∃ (r9 : Int32) (I9 : TI) (L9 : TL), v9 = some (.int r9) ∧ u9 = (I9, L9, RT b d t, 457) ∧ Q r9 I9 L9) (fun _ _ => False) := by
  unfold B_X0_rule_74 at h
  refine v_icmp_ne (tgt := 81) (pc' := 77) 41 rfl rfl (by decide) (fun hc => ?_) (fun hc => ?_)
  · replace h := h.1 hc
    refine v_iconst (v := 0) (pc' := 82) 44 rfl rfl (by decide) ?_
    exact b_X0_rule_82 p0 p1 v2 v3 v5 (0 : Int32) I L hp0 hp1 Q h
  replace h := h.2 hc
  refine v_iconst (v := 1) (pc' := 78) 42 rfl rfl (by decide) ?_
  refine v_goto (tgt := 82) 43 rfl (by decide) ?_
  exact b_X0_rule_82 p0 p1 v2 v3 v5 (1 : Int32) I L hp0 hp1 Q h
set_option maxHeartbeats 4000000 in
set_option maxRecDepth 100000 in
theorem b_X0_rule_61 {G : GT} {b d t : Nat} (p0 : Nat) (p1 : Nat) (v2 : Int32) (v3 : Int64) (v5 : Int64) (s0 : Int32) (I : TI) (L : TL) (hp0 : bnOK p0) (hp1 : LAY p1 = 2) (Q : Int32 → TI → TL → Prop)  (h : B_X0_rule_61 p0 p1 v2 v3 v5 s0 I L Q) : V G Y_X0_rule 61 [(0, .ref p0), (1, .ref p1), (2, .int v2), (3, .long v3), (5, .long v5)] [.int s0] (I, L, RT b d t, 457) 0 0 (fun v9 u9 => ∃ (r9 : Int32) (I9 : TI) (L9 : TL), v9 = some (.int r9) ∧ u9 = (I9, L9, RT b d t, 457) ∧ Q r9 I9 L9) (fun _ _ => False) := by
  unfold B_X0_rule_61 at h
  refine v_aload_n (pc' := 62) 34 1 rfl rfl rfl rfl ?_
  refine v_getI (pc' := 65) 35 rfl rfl pf_X0_142 hp1 (lay_lt hp1 (by decide)) ?_
  refine v_iconst (v := 1) (pc' := 66) 36 rfl rfl (by decide) ?_
  refine v_icmp_ne (tgt := 73) (pc' := 69) 37 rfl rfl (by decide) (fun hc => ?_) (fun hc => ?_)
  · replace h := h.1 hc
    refine v_iconst (v := 0) (pc' := 74) 40 rfl rfl (by decide) ?_
    refine V.sub [0, 2, 3, 4] rfl ?_
    exact b_X0_rule_74 p0 p1 v2 v3 v5 s0 (0 : Int32) I L hp0 hp1 Q h
  replace h := h.2 hc
  refine v_iconst (v := 1) (pc' := 70) 38 rfl rfl (by decide) ?_
  refine v_goto (tgt := 74) 39 rfl (by decide) ?_
  refine V.sub [0, 2, 3, 4] rfl ?_
  exact b_X0_rule_74 p0 p1 v2 v3 v5 s0 (1 : Int32) I L hp0 hp1 Q h
set_option maxHeartbeats 4000000 in
set_option maxRecDepth 100000 in
theorem ok_X0_rule {G : GT} {b d t : Nat} (p0 : Nat) (p1 : Nat) (I : TI) (L : TL) (hp0 : bnOK p0) (hp1 : LAY p1 = 2) {Q : Int32 → TI → TL → Prop} (h : W_X0_rule p0 p1 I L Q) : MW G Y_X0_rule [.ref p0, .ref p1] (I, L, RT b d t, 457) (fun v9 u9 => ∃ (r9 : Int32) (I9 : TI) (L9 : TL), v9 = some (.int r9) ∧ u9 = (I9, L9, RT b d t, 457) ∧ Q r9 I9 L9) (fun _ _ => False) := by
  unfold W_X0_rule at h
  refine MW.intro rfl (by decide) is_X0_rule (Nat.le_of_ble_eq_true rfl) ?_
  show V G Y_X0_rule 0 [(0, .ref p0), (1, .ref p1)] [] (I, L, RT b d t, 457) 0 0 _ _
  refine v_aload_n (pc' := 1) 0 1 rfl rfl rfl rfl ?_
  refine v_getI (pc' := 4) 1 rfl rfl pf_X0_147 hp1 (lay_lt hp1 (by decide)) ?_
  refine v_istore_n (ls' := [(2, .int (I p1 0)), (0, .ref p0), (1, .ref p1)]) (pc' := 5) 2 rfl rfl rfl (by decide) rfl ?_
  refine v_aload_n (pc' := 6) 3 2 rfl rfl rfl rfl ?_
  refine v_getI (pc' := 9) 4 rfl rfl pf_X0_150 hp1 (lay_lt hp1 (by decide)) ?_
  refine v_aload_n (pc' := 10) 5 2 rfl rfl rfl rfl ?_
  refine v_getI (pc' := 13) 6 rfl rfl pf_X0_153 hp1 (lay_lt hp1 (by decide)) ?_
  refine v_cNS (Y2 := Y_X8_window) (As := [.int (I p1 1), .int (I p1 2)]) (pc' := 16) (c1 := 0) (s1 := 0) 7 rfl rfl mf_X8_window rfl rfl nt_X0_84 ms_X8_window rfl (Nat.le_of_ble_eq_true rfl) ⟨Nat.le_of_ble_eq_true rfl, Nat.le_of_ble_eq_true rfl⟩ rfl rfl (ok_X8_window (I p1 1) (I p1 2) I L h) ?_ ?_
  · intro e9 u9 hx9
    exact hx9.elim
  intro v9 u9 hv9
  obtain ⟨r307, rfl, rfl, h⟩ := hv9
  refine ⟨fun q => absurd q (Nat.lt_irrefl _), ?_⟩
  show V G Y_X0_rule 16 _ (.long r307 :: _) _ _ _ _ _
  refine v_lstore_n (ls' := [(3, .long r307), (2, .int (I p1 0)), (0, .ref p0), (1, .ref p1)]) (pc' := 17) 8 rfl rfl rfl (by decide) rfl ?_
  refine v_lload_n (pc' := 18) 9 0 rfl rfl rfl rfl ?_
  refine v_aload_n (pc' := 19) 10 2 rfl rfl rfl rfl ?_
  refine v_getR (t := (p0 + 6)) (pc' := 22) 11 rfl rfl pf_X0_21 (bn0l hp0) (lay_lt (bn0l hp0) (by decide)) (rt_bn_1 hp0) ?_
  refine v_getR (t := (p0 + 13)) (pc' := 25) 12 rfl rfl pf_X0_106 (bn6l hp0) (lay_lt (bn6l hp0) (by decide)) (rt_st_3 (bn_st hp0)) ?_
  refine v_iload_n (pc' := 26) 13 1 rfl rfl rfl rfl ?_
  obtain ⟨hi308, h⟩ := h
  refine v_lald (i := (I p1 0)) (j := (I p1 0).toNatClampNeg) (pc' := 27) 14 rfl rfl (bn13l hp0) (bn13n hp0) (lay_lt (bn13l hp0) (by decide)) hi308 rfl ?_
  refine v_ldc2 (v := -1) (pc' := 30) 15 rfl rfl kl_X0_112 ?_
  refine v_lxor (pc' := 31) 16 rfl rfl ?_
  refine v_land (pc' := 32) 17 rfl rfl ?_
  refine v_aload_n (pc' := 33) 18 2 rfl rfl rfl rfl ?_
  refine v_getR (t := (p0 + 6)) (pc' := 36) 19 rfl rfl pf_X0_21 (bn0l hp0) (lay_lt (bn0l hp0) (by decide)) (rt_bn_1 hp0) ?_
  refine v_getR (t := (p0 + 12)) (pc' := 39) 20 rfl rfl pf_X0_109 (bn6l hp0) (lay_lt (bn6l hp0) (by decide)) (rt_st_2 (bn_st hp0)) ?_
  refine v_iload_n (pc' := 40) 21 1 rfl rfl rfl rfl ?_
  obtain ⟨hi309, h⟩ := h
  refine v_lald (i := (I p1 0)) (j := (I p1 0).toNatClampNeg) (pc' := 41) 22 rfl rfl (bn12l hp0) (bn12n hp0) (lay_lt (bn12l hp0) (by decide)) hi309 rfl ?_
  refine v_ldc2 (v := -1) (pc' := 44) 23 rfl rfl kl_X0_112 ?_
  refine v_lxor (pc' := 45) 24 rfl rfl ?_
  refine v_land (pc' := 46) 25 rfl rfl ?_
  refine nm_J (e := ((r307 &&& ((L (p0 + 13) ((I p1 0).toNatClampNeg)) ^^^ (-1))) &&& ((L (p0 + 12) ((I p1 0).toNatClampNeg)) ^^^ (-1)))) (fun x310 hx310 => ?_)
  replace h := h x310 hx310
  refine v_lstore (ls' := [(5, .long x310), (3, .long r307), (2, .int (I p1 0)), (0, .ref p0), (1, .ref p1)]) (pc' := 48) 26 rfl rfl (by decide) rfl ?_
  refine v_aload_n (pc' := 49) 27 4 rfl rfl rfl rfl ?_
  refine v_getI (pc' := 52) 28 rfl rfl pf_X0_159 hp1 (lay_lt hp1 (by decide)) ?_
  refine v_iconst (v := 1) (pc' := 53) 29 rfl rfl (by decide) ?_
  refine v_icmp_ne (tgt := 60) (pc' := 56) 30 rfl rfl (by decide) (fun hc => ?_) (fun hc => ?_)
  · replace h := h.1 hc
    refine v_iconst (v := 0) (pc' := 61) 33 rfl rfl (by decide) ?_
    refine V.sub [3, 4, 2, 1, 0] rfl ?_
    exact b_X0_rule_61 p0 p1 (I p1 0) r307 x310 (0 : Int32) I L hp0 hp1 Q h
  replace h := h.2 hc
  refine v_iconst (v := 1) (pc' := 57) 31 rfl rfl (by decide) ?_
  refine v_goto (tgt := 61) 32 rfl (by decide) ?_
  refine V.sub [3, 4, 2, 1, 0] rfl ?_
  exact b_X0_rule_61 p0 p1 (I p1 0) r307 x310 (1 : Int32) I L hp0 hp1 Q h
set_option maxHeartbeats 4000000 in
set_option maxRecDepth 100000 in
theorem ok_X2_hasGate {G : GT} {b d t : Nat} (p0 : Nat) (p1 : Int32) (I : TI) (L : TL) (hp0 : ckOK p0) {Q : Int32 → Prop} (h : W_X2_hasGate p0 p1 I L Q) : MW G Y_X2_hasGate [.ref p0, .int p1] (I, L, RT b d t, 457) (fun v9 u9 => ∃ (r9 : Int32), v9 = some (.int r9) ∧ u9 = (I, L, RT b d t, 457) ∧ Q r9) (fun _ _ => False) := by
  unfold W_X2_hasGate at h
  refine MW.intro rfl (by decide) is_X2_hasGate (Nat.le_of_ble_eq_true rfl) ?_
  show V G Y_X2_hasGate 0 [(0, .ref p0), (1, .int p1)] [] (I, L, RT b d t, 457) 0 0 _ _
  refine v_iload_n (pc' := 1) 0 1 rfl rfl rfl rfl ?_
  refine v_aload_n (pc' := 2) 1 0 rfl rfl rfl rfl ?_
  refine v_getI (pc' := 5) 2 rfl rfl pf_X2_24 (ck0l hp0) (lay_lt (ck0l hp0) (by decide)) ?_
  refine v_icmp_lt (tgt := 20) (pc' := 8) 3 rfl rfl (by decide) (fun hc => ?_) (fun hc => ?_)
  · replace h := h.1 hc
    refine v_iconst (v := 0) (pc' := 21) 10 rfl rfl (by decide) ?_
    exact v_bret 11 rfl rfl (by decide) (by decide) (by decide) ⟨_, rfl, rfl, h⟩
  replace h := h.2 hc
  refine v_iload_n (pc' := 9) 4 1 rfl rfl rfl rfl ?_
  refine v_aload_n (pc' := 10) 5 0 rfl rfl rfl rfl ?_
  refine v_cV (Y2 := Y_X2_nets) (As := []) (b := p0) (pc' := 13) (c1 := 0) (s1 := 0) 6 rfl rfl mf_X2_nets rfl rfl ml_X2_40 mi_X2_nets se_X2_nets (ci := 1) rfl (ck0l hp0) (lay_lt (ck0l hp0) (by decide)) rfl (Nat.le_of_ble_eq_true rfl) ⟨Nat.le_of_ble_eq_true rfl, Nat.le_of_ble_eq_true rfl⟩ rfl rfl (ok_X2_nets p0 I L hp0 h) ?_ ?_
  · intro e9 u9 hx9
    exact hx9.elim
  intro v9 u9 hv9
  obtain ⟨r312, rfl, rfl, h⟩ := hv9
  refine ⟨fun q => absurd q (Nat.lt_irrefl _), ?_⟩
  show V G Y_X2_hasGate 13 _ (.int r312 :: _) _ _ _ _ _
  refine v_icmp_ge (tgt := 20) (pc' := 16) 7 rfl rfl (by decide) (fun hc => ?_) (fun hc => ?_)
  · replace h := h.1 hc
    refine v_iconst (v := 0) (pc' := 21) 10 rfl rfl (by decide) ?_
    exact v_bret 11 rfl rfl (by decide) (by decide) (by decide) ⟨_, rfl, rfl, h⟩
  replace h := h.2 hc
  refine v_iconst (v := 1) (pc' := 17) 8 rfl rfl (by decide) ?_
  refine v_goto (tgt := 21) 9 rfl (by decide) ?_
  exact v_bret 11 rfl rfl (by decide) (by decide) (by decide) ⟨_, rfl, rfl, h⟩
set_option maxHeartbeats 4000000 in
set_option maxRecDepth 100000 in
theorem b_X2_readersOf_41 {G : GT} {b d t : Nat} (p0 : Nat) (v1 : Int32) (v2 : Int32) (v3 : Int32) (I : TI) (L : TL) (hp0 : ckOK p0) (Q : Int32 → Prop) (R7 : Int32 → Int32 → Prop) (hR7 : ∀ (v2 : Int32) (v3 : Int32), R7 v2 v3 → V G Y_X2_readersOf 7 [(0, .ref p0), (1, .int v1), (2, .int v2), (3, .int v3)] [] (I, L, RT b d t, 457) 0 0 (fun v9 u9 => ∃ (r9 : Int32), v9 = some (.int r9) ∧ u9 = (I, L, RT b d t, 457) ∧ Q r9) (fun _ _ => False)) (h : B_X2_readersOf_41 p0 v1 v2 v3 I L Q R7) : V G Y_X2_readersOf 41 [(0, .ref p0), (1, .int v1), (2, .int v2), (3, .int v3)] [] (I, L, RT b d t, 457) 0 0 (fun v9 u9 => ∃ (r9 : Int32), v9 = some (.int r9) ∧ u9 = (I, L, RT b d t, 457) ∧ Q r9) (fun _ _ => False) := by
  unfold B_X2_readersOf_41 at h
  refine v_iinc (v := (v3 + 1)) (ls' := [(3, .int (v3 + 1)), (0, .ref p0), (1, .int v1), (2, .int v2)]) (pc' := 44) 27 3 rfl rfl rfl rfl (by decide) rfl ?_
  refine v_goto (tgt := 7) 28 rfl (by decide) ?_
  refine V.sub [1, 2, 3, 0] rfl ?_
  exact hR7 v2 (v3 + 1) h
set_option maxHeartbeats 4000000 in
set_option maxRecDepth 100000 in
theorem b_X2_readersOf_35 {G : GT} {b d t : Nat} (p0 : Nat) (v1 : Int32) (v2 : Int32) (v3 : Int32) (I : TI) (L : TL) (hp0 : ckOK p0) (Q : Int32 → Prop) (R7 : Int32 → Int32 → Prop) (hR7 : ∀ (v2 : Int32) (v3 : Int32), R7 v2 v3 → V G Y_X2_readersOf 7 [(0, .ref p0), (1, .int v1), (2, .int v2), (3, .int v3)] [] (I, L, RT b d t, 457) 0 0 (fun v9 u9 => ∃ (r9 : Int32), v9 = some (.int r9) ∧ u9 = (I, L, RT b d t, 457) ∧ Q r9) (fun _ _ => False)) (h : B_X2_readersOf_35 p0 v1 v2 v3 I L Q R7) : V G Y_X2_readersOf 35 [(0, .ref p0), (1, .int v1), (2, .int v2), (3, .int v3)] [] (I, L, RT b d t, 457) 0 0 (fun v9 u9 => ∃ (r9 : Int32), v9 = some (.int r9) ∧ u9 = (I, L, RT b d t, 457) ∧ Q r9) (fun _ _ => False) := by
  unfold B_X2_readersOf_35 at h
  refine v_iload_n (pc' := 36) 21 2 rfl rfl rfl rfl ?_
  refine v_iconst (v := 1) (pc' := 37) 22 rfl rfl (by decide) ?_
  refine v_iload_n (pc' := 38) 23 3 rfl rfl rfl rfl ?_
  refine v_ishl (pc' := 39) 24 rfl rfl ?_
  refine v_ior (pc' := 40) 25 rfl rfl ?_
  refine nm_I (e := (v2 ||| ((1 : Int32) <<< (v3 &&& 31)))) (fun x319 hx319 => ?_)
  replace h := h x319 hx319
  refine v_istore_n (ls' := [(2, .int x319), (0, .ref p0), (1, .int v1), (3, .int v3)]) (pc' := 41) 26 rfl rfl rfl (by decide) rfl ?_
  refine V.sub [1, 2, 0, 3] rfl ?_
  exact b_X2_readersOf_41 p0 v1 x319 v3 I L hp0 Q R7 hR7 h
set_option maxHeartbeats 4000000 in
set_option maxRecDepth 100000 in
theorem d_X2_readersOf_7 {G : GT} {b d t : Nat} (p0 : Nat) (v1 : Int32) (I : TI) (L : TL) (hp0 : ckOK p0) (Q : Int32 → Prop) (R7 : Int32 → Int32 → Prop)  (hR7 : ∀ (v2 : Int32) (v3 : Int32), R7 v2 v3 → V G Y_X2_readersOf 7 [(0, .ref p0), (1, .int v1), (2, .int v2), (3, .int v3)] [] (I, L, RT b d t, 457) 0 0 (fun v9 u9 => ∃ (r9 : Int32), v9 = some (.int r9) ∧ u9 = (I, L, RT b d t, 457) ∧ Q r9) (fun _ _ => False)) (v2 : Int32) (v3 : Int32)  (h : D_X2_readersOf_7 p0 v1 I L Q R7 v2 v3) : V G Y_X2_readersOf 7 [(0, .ref p0), (1, .int v1), (2, .int v2), (3, .int v3)] [] (I, L, RT b d t, 457) 0 0 (fun v9 u9 => ∃ (r9 : Int32), v9 = some (.int r9) ∧ u9 = (I, L, RT b d t, 457) ∧ Q r9) (fun _ _ => False) := by
  unfold D_X2_readersOf_7 at h
  refine v_iload_n (pc' := 8) 5 3 rfl rfl rfl rfl ?_
  refine v_aload_n (pc' := 9) 6 0 rfl rfl rfl rfl ?_
  refine v_cV (Y2 := Y_X2_nets) (As := []) (b := p0) (pc' := 12) (c1 := 0) (s1 := 0) 7 rfl rfl mf_X2_nets rfl rfl ml_X2_40 mi_X2_nets se_X2_nets (ci := 1) rfl (ck0l hp0) (lay_lt (ck0l hp0) (by decide)) rfl (Nat.le_of_ble_eq_true rfl) ⟨Nat.le_of_ble_eq_true rfl, Nat.le_of_ble_eq_true rfl⟩ rfl rfl (ok_X2_nets p0 I L hp0 h) ?_ ?_
  · intro e9 u9 hx9
    exact hx9.elim
  intro v9 u9 hv9
  obtain ⟨r320, rfl, rfl, h⟩ := hv9
  refine ⟨fun q => absurd q (Nat.lt_irrefl _), ?_⟩
  show V G Y_X2_readersOf 12 _ (.int r320 :: _) _ _ _ _ _
  refine v_icmp_ge (tgt := 47) (pc' := 15) 8 rfl rfl (by decide) (fun hc => ?_) (fun hc => ?_)
  · replace h := h.1 hc
    refine v_iload_n (pc' := 48) 29 2 rfl rfl rfl rfl ?_
    exact v_iret 30 rfl rfl (by decide) (by decide) ⟨_, rfl, rfl, h⟩
  replace h := h.2 hc
  refine v_aload_n (pc' := 16) 9 0 rfl rfl rfl rfl ?_
  refine v_getR (t := (p0 + 2)) (pc' := 19) 10 rfl rfl pf_X2_15 (ck0l hp0) (lay_lt (ck0l hp0) (by decide)) (rt_ck_1 hp0) ?_
  refine v_iload_n (pc' := 20) 11 3 rfl rfl rfl rfl ?_
  obtain ⟨hi321, h⟩ := h
  refine v_iald (i := v3) (j := v3.toNatClampNeg) (pc' := 21) 12 rfl rfl (ck2l hp0) (ck2n hp0) (lay_lt (ck2l hp0) (by decide)) hi321 rfl ?_
  refine v_iload_n (pc' := 22) 13 1 rfl rfl rfl rfl ?_
  refine v_icmp_eq (tgt := 35) (pc' := 25) 14 rfl rfl (by decide) (fun hc => ?_) (fun hc => ?_)
  · replace h := h.1 hc
    exact b_X2_readersOf_35 p0 v1 v2 v3 I L hp0 Q R7 hR7 h
  replace h := h.2 hc
  refine v_aload_n (pc' := 26) 15 0 rfl rfl rfl rfl ?_
  refine v_getR (t := (p0 + 3)) (pc' := 29) 16 rfl rfl pf_X2_18 (ck0l hp0) (lay_lt (ck0l hp0) (by decide)) (rt_ck_2 hp0) ?_
  refine v_iload_n (pc' := 30) 17 3 rfl rfl rfl rfl ?_
  obtain ⟨hi322, h⟩ := h
  refine v_iald (i := v3) (j := v3.toNatClampNeg) (pc' := 31) 18 rfl rfl (ck3l hp0) (ck3n hp0) (lay_lt (ck3l hp0) (by decide)) hi322 rfl ?_
  refine v_iload_n (pc' := 32) 19 1 rfl rfl rfl rfl ?_
  refine v_icmp_ne (tgt := 41) (pc' := 35) 20 rfl rfl (by decide) (fun hc => ?_) (fun hc => ?_)
  · replace h := h.1 hc
    exact b_X2_readersOf_41 p0 v1 v2 v3 I L hp0 Q R7 hR7 h
  replace h := h.2 hc
  exact b_X2_readersOf_35 p0 v1 v2 v3 I L hp0 Q R7 hR7 h
theorem l_X2_readersOf_7 {G : GT} {b d t : Nat} (p0 : Nat) (v1 : Int32) (I : TI) (L : TL) (hp0 : ckOK p0) (Q : Int32 → Prop)  : ∀ (n9 : Nat) (v2 : Int32) (v3 : Int32), L_X2_readersOf_7 p0 v1 I L Q n9 v2 v3 → V G Y_X2_readersOf 7 [(0, .ref p0), (1, .int v1), (2, .int v2), (3, .int v3)] [] (I, L, RT b d t, 457) 0 0 (fun v9 u9 => ∃ (r9 : Int32), v9 = some (.int r9) ∧ u9 = (I, L, RT b d t, 457) ∧ Q r9) (fun _ _ => False)
  | 0, _, _, h => h.elim
  | n9 + 1, v2, v3, h => d_X2_readersOf_7 p0 v1 I L hp0 Q _ (l_X2_readersOf_7 p0 v1 I L hp0 Q n9) v2 v3 h
set_option maxHeartbeats 4000000 in
set_option maxRecDepth 100000 in
theorem ok_X2_readersOf {G : GT} {b d t : Nat} (p0 : Nat) (p1 : Int32) (I : TI) (L : TL) (hp0 : ckOK p0) {Q : Int32 → Prop} (h : W_X2_readersOf p0 p1 I L Q) : MW G Y_X2_readersOf [.ref p0, .int p1] (I, L, RT b d t, 457) (fun v9 u9 => ∃ (r9 : Int32), v9 = some (.int r9) ∧ u9 = (I, L, RT b d t, 457) ∧ Q r9) (fun _ _ => False) := by
  unfold W_X2_readersOf at h
  refine MW.intro rfl (by decide) is_X2_readersOf (Nat.le_of_ble_eq_true rfl) ?_
  show V G Y_X2_readersOf 0 [(0, .ref p0), (1, .int p1)] [] (I, L, RT b d t, 457) 0 0 _ _
  refine v_iconst (v := 0) (pc' := 1) 0 rfl rfl (by decide) ?_
  refine v_istore_n (ls' := [(2, .int 0), (0, .ref p0), (1, .int p1)]) (pc' := 2) 1 rfl rfl rfl (by decide) rfl ?_
  refine v_aload_n (pc' := 3) 2 1 rfl rfl rfl rfl ?_
  refine v_getI (pc' := 6) 3 rfl rfl pf_X2_24 (ck0l hp0) (lay_lt (ck0l hp0) (by decide)) ?_
  refine v_istore_n (ls' := [(3, .int (I p0 4)), (2, .int 0), (0, .ref p0), (1, .int p1)]) (pc' := 7) 4 rfl rfl rfl (by decide) rfl ?_
  refine V.sub [2, 3, 1, 0] rfl ?_
  obtain ⟨n323, h⟩ := h
  exact l_X2_readersOf_7 p0 p1 I L hp0 Q n323 (0 : Int32) (I p0 4) h
