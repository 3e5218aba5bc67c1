set_option maxHeartbeats 4000000 in
set_option maxRecDepth 100000 in
theorem d_L_spaced_24 {G : GT} {b d t : Nat} {nx : Nat} (hnx : 436 ≤ nx) (v1 : Int32) (L : TL)  (Q : TI → Prop) (R24 : Int32 → TI → Prop)  (hR24 : ∀ (v2 : Int32) (I : TI), R24 v2 I → V G Y_L_spaced 24 [(0, .ref 436), (1, .int v1), (2, .int v2)] [] (I, L, RT b d t, nx) 0 0 (fun v9 u9 => ∃ (I9 : TI), v9 = none ∧ u9 = (I9, L, RT b d t, nx) ∧ Q I9) (fun _ _ => False)) (v2 : Int32) (I : TI)  (h : D_L_spaced_24 v1 L Q R24 v2 I) : V G Y_L_spaced 24 [(0, .ref 436), (1, .int v1), (2, .int v2)] [] (I, L, RT b d t, nx) 0 0 (fun v9 u9 => ∃ (I9 : TI), v9 = none ∧ u9 = (I9, L, RT b d t, nx) ∧ Q I9) (fun _ _ => False) := by
  unfold D_L_spaced_24 at h
  refine v_iload_n (pc' := 25) 15 2 rfl rfl rfl rfl ?_
  refine v_if_le (tgt := 64) (pc' := 28) 16 rfl rfl (by decide) (fun hc => ?_) (fun hc => ?_)
  · replace h := h.1 hc
    exact v_vret 40 rfl rfl (by decide) (by decide) ⟨_, rfl, rfl, h⟩
  replace h := h.2 hc
  refine v_aload_n (pc' := 29) 17 0 rfl rfl rfl rfl ?_
  refine v_getR (t := 437) (pc' := 32) 18 rfl rfl pf_L_7 ly_436 (lay_n ly_436 (by decide) hnx) rt_436_0 ?_
  refine v_aload_n (pc' := 33) 19 0 rfl rfl rfl rfl ?_
  refine v_getI (pc' := 36) 20 rfl rfl pf_L_19 ly_436 (lay_n ly_436 (by decide) hnx) ?_
  refine v_bipush (v := 48) (pc' := 38) 21 rfl rfl (by decide) ?_
  refine v_iload_n (pc' := 39) 22 1 rfl rfl rfl rfl ?_
  refine v_iload_n (pc' := 40) 23 2 rfl rfl rfl rfl ?_
  obtain ⟨hn1002, h⟩ := h
  refine v_idiv (pc' := 41) 24 rfl rfl hn1002 ?_
  refine v_bipush (v := 10) (pc' := 43) 25 rfl rfl (by decide) ?_
  refine v_irem (pc' := 44) 26 rfl rfl (by decide) ?_
  refine v_iadd (pc' := 45) 27 rfl rfl ?_
  obtain ⟨hi1003, h⟩ := h
  refine v_iast (i := (I 436 1)) (j := (I 436 1).toNatClampNeg) (pc' := 46) 28 rfl rfl ly_437 ln_437 (lay_n ly_437 (by decide) hnx) hi1003 rfl ?_
  refine nm_M (e := (up2 I 437 ((I 436 1).toNatClampNeg) ((48 : Int32) + (remI (v1 / v2) (10 : Int32))))) (fun I1004 hI1004 => ?_)
  replace h := h I1004 hI1004
  refine v_aload_n (pc' := 47) 29 0 rfl rfl rfl rfl ?_
  refine v_dup (pc' := 48) 30 rfl rfl rfl ?_
  refine v_getI (pc' := 51) 31 rfl rfl pf_L_19 ly_436 (lay_n ly_436 (by decide) hnx) ?_
  refine v_iconst (v := 1) (pc' := 52) 32 rfl rfl (by decide) ?_
  refine v_iadd (pc' := 53) 33 rfl rfl ?_
  refine v_putI (pc' := 56) 34 rfl rfl pf_L_19 (fun q => absurd q (by decide)) ly_436 (lay_n ly_436 (by decide) hnx) ?_
  refine v_iload_n (pc' := 57) 35 2 rfl rfl rfl rfl ?_
  refine v_bipush (v := 10) (pc' := 59) 36 rfl rfl (by decide) ?_
  refine v_idiv (pc' := 60) 37 rfl rfl (by decide) ?_
  refine v_istore_n (ls' := [(2, .int (v2 / (10 : Int32))), (0, .ref 436), (1, .int v1)]) (pc' := 61) 38 rfl rfl rfl (by decide) rfl ?_
  refine v_goto (tgt := 24) 39 rfl (by decide) ?_
  refine V.sub [1, 2, 0] rfl ?_
  exact hR24 (v2 / (10 : Int32)) (up2 I1004 436 1 ((I1004 436 1) + 1)) h
theorem l_L_spaced_24 {G : GT} {b d t : Nat} {nx : Nat} (hnx : 436 ≤ nx) (v1 : Int32) (L : TL)  (Q : TI → Prop)  : ∀ (n9 : Nat) (v2 : Int32) (I : TI), L_L_spaced_24 v1 L Q n9 v2 I → V G Y_L_spaced 24 [(0, .ref 436), (1, .int v1), (2, .int v2)] [] (I, L, RT b d t, nx) 0 0 (fun v9 u9 => ∃ (I9 : TI), v9 = none ∧ u9 = (I9, L, RT b d t, nx) ∧ Q I9) (fun _ _ => False)
  | 0, _, _, h => h.elim
  | n9 + 1, v2, I, h => d_L_spaced_24 hnx v1 L Q _ (l_L_spaced_24 hnx v1 L Q n9) v2 I h
set_option maxHeartbeats 4000000 in
set_option maxRecDepth 100000 in
theorem d_L_spaced_8 {G : GT} {b d t : Nat} {nx : Nat} (hnx : 436 ≤ nx) (v1 : Int32) (I : TI) (L : TL)  (Q : TI → Prop) (R8 : Int32 → Prop)  (hR8 : ∀ (v2 : Int32), R8 v2 → V G Y_L_spaced 8 [(0, .ref 436), (1, .int v1), (2, .int v2)] [] (I, L, RT b d t, nx) 0 0 (fun v9 u9 => ∃ (I9 : TI), v9 = none ∧ u9 = (I9, L, RT b d t, nx) ∧ Q I9) (fun _ _ => False)) (v2 : Int32)  (h : D_L_spaced_8 v1 I L Q R8 v2) : V G Y_L_spaced 8 [(0, .ref 436), (1, .int v1), (2, .int v2)] [] (I, L, RT b d t, nx) 0 0 (fun v9 u9 => ∃ (I9 : TI), v9 = none ∧ u9 = (I9, L, RT b d t, nx) ∧ Q I9) (fun _ _ => False) := by
  unfold D_L_spaced_8 at h
  refine v_iload_n (pc' := 9) 5 1 rfl rfl rfl rfl ?_
  refine v_iload_n (pc' := 10) 6 2 rfl rfl rfl rfl ?_
  obtain ⟨hn1005, h⟩ := h
  refine v_idiv (pc' := 11) 7 rfl rfl hn1005 ?_
  refine v_bipush (v := 9) (pc' := 13) 8 rfl rfl (by decide) ?_
  refine v_icmp_le (tgt := 24) (pc' := 16) 9 rfl rfl (by decide) (fun hc => ?_) (fun hc => ?_)
  · replace h := h.1 hc
    obtain ⟨n1006, h⟩ := h
    exact l_L_spaced_24 hnx v1 L Q n1006 v2 I h
  replace h := h.2 hc
  refine v_iload_n (pc' := 17) 10 2 rfl rfl rfl rfl ?_
  refine v_bipush (v := 10) (pc' := 19) 11 rfl rfl (by decide) ?_
  refine v_imul (pc' := 20) 12 rfl rfl ?_
  refine v_istore_n (ls' := [(2, .int (v2 * 10)), (0, .ref 436), (1, .int v1)]) (pc' := 21) 13 rfl rfl rfl (by decide) rfl ?_
  refine v_goto (tgt := 8) 14 rfl (by decide) ?_
  refine V.sub [1, 2, 0] rfl ?_
  exact hR8 (v2 * 10) h
theorem l_L_spaced_8 {G : GT} {b d t : Nat} {nx : Nat} (hnx : 436 ≤ nx) (v1 : Int32) (I : TI) (L : TL)  (Q : TI → Prop)  : ∀ (n9 : Nat) (v2 : Int32), L_L_spaced_8 v1 I L Q n9 v2 → V G Y_L_spaced 8 [(0, .ref 436), (1, .int v1), (2, .int v2)] [] (I, L, RT b d t, nx) 0 0 (fun v9 u9 => ∃ (I9 : TI), v9 = none ∧ u9 = (I9, L, RT b d t, nx) ∧ Q I9) (fun _ _ => False)
  | 0, _, h => h.elim
  | n9 + 1, v2, h => d_L_spaced_8 hnx v1 I L Q _ (l_L_spaced_8 hnx v1 I L Q n9) v2 h
set_option maxHeartbeats 4000000 in
set_option maxRecDepth 100000 in
theorem ok_L_spaced {G : GT} {b d t : Nat} {nx : Nat} (hnx : 436 ≤ nx) (p1 : Int32) (I : TI) (L : TL)  {Q : TI → Prop} (h : W_L_spaced p1 I L Q) : MW G Y_L_spaced [.ref 436, .int p1] (I, L, RT b d t, nx) (fun v9 u9 => ∃ (I9 : TI), v9 = none ∧ u9 = (I9, L, RT b d t, nx) ∧ Q I9) (fun _ _ => False) := by
  unfold W_L_spaced at h
  refine MW.intro rfl (by decide) is_L_spaced (Nat.le_of_ble_eq_true rfl) ?_
  show V G Y_L_spaced 0 [(0, .ref 436), (1, .int p1)] [] (I, L, RT b d t, nx) 0 0 _ _
  refine v_aload_n (pc' := 1) 0 0 rfl rfl rfl rfl ?_
  refine v_ldcS (pc' := 3) 1 rfl rfl sr_L_27 ?_
  refine v_cV (Y2 := Y_L_writes) (As := [.ref 470]) (b := 436) (pc' := 6) (c1 := 0) (s1 := 0) 2 rfl rfl mf_L_writes rfl rfl ml_L_29 mi_L_writes se_L_writes (ci := 8) rfl ly_436 (lay_n ly_436 (by decide) hnx) rfl (Nat.le_of_ble_eq_true rfl) ⟨Nat.le_of_ble_eq_true rfl, Nat.le_of_ble_eq_true rfl⟩ rfl rfl (ok_L_writes hnx 470 I L h) ?_ ?_
  · intro e9 u9 hx9
    exact hx9.elim
  intro v9 u9 hv9
  obtain ⟨I1007, rfl, rfl, h⟩ := hv9
  refine ⟨fun _ => rfl, ?_⟩
  show V G Y_L_spaced 6 _ _ _ _ _ _ _
  refine v_iconst (v := 1) (pc' := 7) 3 rfl rfl (by decide) ?_
  refine v_istore_n (ls' := [(2, .int 1), (0, .ref 436), (1, .int p1)]) (pc' := 8) 4 rfl rfl rfl (by decide) rfl ?_
  refine V.sub [1, 2, 0] rfl ?_
  obtain ⟨n1008, h⟩ := h
  exact l_L_spaced_8 hnx p1 I1007 L Q n1008 (1 : Int32) h
set_option maxHeartbeats 4000000 in
set_option maxRecDepth 100000 in
theorem ok_L_cell {G : GT} {b d t : Nat} {nx : Nat} (hnx : 436 ≤ nx) (p1 : Int32) (I : TI) (L : TL)  {Q : Int32 → Prop} (h : W_L_cell G p1 I L Q) : MW G Y_L_cell [.ref 457, .int p1] (I, L, RT b d t, nx) (fun v9 u9 => ∃ (r9 : Int32), v9 = some (.int r9) ∧ u9 = (I, L, RT b d t, nx) ∧ Q r9) (fun _ _ => False) := by
  unfold W_L_cell at h
  refine MW.intro rfl (by decide) is_L_cell (Nat.le_of_ble_eq_true rfl) ?_
  show V G Y_L_cell 0 [(0, .ref 457), (1, .int p1)] [] (I, L, RT b d t, nx) 0 0 _ _
  refine v_iload_n (pc' := 1) 0 1 rfl rfl rfl rfl ?_
  refine v_aload_n (pc' := 2) 1 0 rfl rfl rfl rfl ?_
  refine v_slen (pc' := 3) 2 rfl rfl ?_
  refine v_icmp_ge (tgt := 15) (pc' := 6) 3 rfl rfl (by decide) (fun hc => ?_) (fun hc => ?_)
  · replace h := h.1 hc
    refine v_iconst (v := 0) (pc' := 16) 10 rfl rfl (by decide) ?_
    exact v_iret 11 rfl rfl (by decide) (by decide) ⟨_, rfl, rfl, h⟩
  replace h := h.2 hc
  refine v_aload_n (pc' := 7) 4 0 rfl rfl rfl rfl ?_
  refine v_iload_n (pc' := 8) 5 1 rfl rfl rfl rfl ?_
  obtain ⟨hi1010, h⟩ := h
  refine v_sld (pc' := 9) 6 rfl rfl hi1010 ?_
  refine v_ldc (v := 1073741823) (pc' := 11) 7 rfl rfl ki_L_33 ?_
  refine v_iand (pc' := 12) 8 rfl rfl ?_
  refine v_goto (tgt := 16) 9 rfl (by decide) ?_
  exact v_iret 11 rfl rfl (by decide) (by decide) ⟨_, rfl, rfl, h⟩
set_option maxHeartbeats 4000000 in
set_option maxRecDepth 100000 in
theorem ok_L_nets {G : GT} {b d t : Nat} {nx : Nat} (hnx : 436 ≤ nx) (I : TI) (L : TL)  {Q : Int32 → Prop} (h : W_L_nets I L Q) : MW G Y_L_nets [.ref 436] (I, L, RT b d t, nx) (fun v9 u9 => ∃ (r9 : Int32), v9 = some (.int r9) ∧ u9 = (I, L, RT b d t, nx) ∧ Q r9) (fun _ _ => False) := by
  unfold W_L_nets at h
  refine MW.intro rfl (by decide) is_L_nets (Nat.le_of_ble_eq_true rfl) ?_
  show V G Y_L_nets 0 [(0, .ref 436)] [] (I, L, RT b d t, nx) 0 0 _ _
  refine v_aload_n (pc' := 1) 0 0 rfl rfl rfl rfl ?_
  refine v_getI (pc' := 4) 1 rfl rfl pf_L_40 ly_436 (lay_n ly_436 (by decide) hnx) ?_
  refine v_aload_n (pc' := 5) 2 0 rfl rfl rfl rfl ?_
  refine v_getI (pc' := 8) 3 rfl rfl pf_L_43 ly_436 (lay_n ly_436 (by decide) hnx) ?_
  refine v_iadd (pc' := 9) 4 rfl rfl ?_
  exact v_iret 5 rfl rfl (by decide) (by decide) ⟨_, rfl, rfl, h⟩
set_option maxHeartbeats 4000000 in
set_option maxRecDepth 100000 in
theorem ok_L_word {G : GT} {b d t : Nat} {nx : Nat} (hnx : 436 ≤ nx) (p0 : Int32) (I : TI) (L : TL)  {Q : Nat → Prop} (h : W_L_word p0 I L Q) : MW G Y_L_word [.int p0] (I, L, RT b d t, nx) (fun v9 u9 => ∃ (r9 : Nat), v9 = some (.ref r9) ∧ u9 = (I, L, RT b d t, nx) ∧ Q r9) (fun _ _ => False) := by
  unfold W_L_word at h
  refine MW.intro rfl (by decide) is_L_word (Nat.le_of_ble_eq_true rfl) ?_
  show V G Y_L_word 0 [(0, .int p0)] [] (I, L, RT b d t, nx) 0 0 _ _
  refine v_iload_n (pc' := 1) 0 0 rfl rfl rfl rfl ?_
  refine v_if_ne (tgt := 9) (pc' := 4) 1 rfl rfl (by decide) (fun hc => ?_) (fun hc => ?_)
  · replace h := h.1 hc
    refine v_iload_n (pc' := 10) 4 0 rfl rfl rfl rfl ?_
    refine v_iconst (v := 1) (pc' := 11) 5 rfl rfl (by decide) ?_
    refine v_icmp_ne (tgt := 19) (pc' := 14) 6 rfl rfl (by decide) (fun hc => ?_) (fun hc => ?_)
    · replace h := h.1 hc
      refine v_iload_n (pc' := 20) 9 0 rfl rfl rfl rfl ?_
      refine v_iconst (v := 2) (pc' := 21) 10 rfl rfl (by decide) ?_
      refine v_icmp_ne (tgt := 29) (pc' := 24) 11 rfl rfl (by decide) (fun hc => ?_) (fun hc => ?_)
      · replace h := h.1 hc
        refine v_iload_n (pc' := 30) 14 0 rfl rfl rfl rfl ?_
        refine v_iconst (v := 3) (pc' := 31) 15 rfl rfl (by decide) ?_
        refine v_icmp_ne (tgt := 39) (pc' := 34) 16 rfl rfl (by decide) (fun hc => ?_) (fun hc => ?_)
        · replace h := h.1 hc
          refine v_iload_n (pc' := 40) 19 0 rfl rfl rfl rfl ?_
          refine v_iconst (v := 4) (pc' := 41) 20 rfl rfl (by decide) ?_
          refine v_icmp_ne (tgt := 49) (pc' := 44) 21 rfl rfl (by decide) (fun hc => ?_) (fun hc => ?_)
          · replace h := h.1 hc
            refine v_iload_n (pc' := 50) 24 0 rfl rfl rfl rfl ?_
            refine v_iconst (v := 5) (pc' := 51) 25 rfl rfl (by decide) ?_
            refine v_icmp_ne (tgt := 59) (pc' := 54) 26 rfl rfl (by decide) (fun hc => ?_) (fun hc => ?_)
            · replace h := h.1 hc
              refine v_ldcS (pc' := 61) 29 rfl rfl sr_L_58 ?_
              exact v_aret 30 rfl rfl (by decide) (by decide) ⟨_, rfl, rfl, h⟩
            replace h := h.2 hc
            refine v_ldcS (pc' := 56) 27 rfl rfl sr_L_56 ?_
            refine v_goto (tgt := 61) 28 rfl (by decide) ?_
            exact v_aret 30 rfl rfl (by decide) (by decide) ⟨_, rfl, rfl, h⟩
          replace h := h.2 hc
          refine v_ldcS (pc' := 46) 22 rfl rfl sr_L_54 ?_
          refine v_goto (tgt := 61) 23 rfl (by decide) ?_
          exact v_aret 30 rfl rfl (by decide) (by decide) ⟨_, rfl, rfl, h⟩
        replace h := h.2 hc
        refine v_ldcS (pc' := 36) 17 rfl rfl sr_L_52 ?_
        refine v_goto (tgt := 61) 18 rfl (by decide) ?_
        exact v_aret 30 rfl rfl (by decide) (by decide) ⟨_, rfl, rfl, h⟩
      replace h := h.2 hc
      refine v_ldcS (pc' := 26) 12 rfl rfl sr_L_50 ?_
      refine v_goto (tgt := 61) 13 rfl (by decide) ?_
      exact v_aret 30 rfl rfl (by decide) (by decide) ⟨_, rfl, rfl, h⟩
    replace h := h.2 hc
    refine v_ldcS (pc' := 16) 7 rfl rfl sr_L_48 ?_
    refine v_goto (tgt := 61) 8 rfl (by decide) ?_
    exact v_aret 30 rfl rfl (by decide) (by decide) ⟨_, rfl, rfl, h⟩
  replace h := h.2 hc
  refine v_ldcS (pc' := 6) 2 rfl rfl sr_L_46 ?_
  refine v_goto (tgt := 61) 3 rfl (by decide) ?_
  exact v_aret 30 rfl rfl (by decide) (by decide) ⟨_, rfl, rfl, h⟩
set_option maxHeartbeats 4000000 in
set_option maxRecDepth 100000 in
theorem b_L_gate_38 {G : GT} {b d t : Nat} {nx : Nat} (hnx : 436 ≤ nx) (v1 : Int32) (I : TI) (L : TL)  (Q : TI → Prop)  (h : B_L_gate_38 v1 I L Q) : V G Y_L_gate 38 [(0, .ref 436), (1, .int v1)] [] (I, L, RT b d t, nx) 0 0 (fun v9 u9 => ∃ (I9 : TI), v9 = none ∧ u9 = (I9, L, RT b d t, nx) ∧ Q I9) (fun _ _ => False) := by
  unfold B_L_gate_38 at h
  refine v_aload_n (pc' := 39) 25 0 rfl rfl rfl rfl ?_
  refine v_iconst (v := 1) (pc' := 40) 26 rfl rfl (by decide) ?_
  refine v_iload_n (pc' := 41) 27 1 rfl rfl rfl rfl ?_
  refine v_sipush (v := 1001) (pc' := 44) 28 rfl rfl (by decide) ?_
  refine v_idiv (pc' := 45) 29 rfl rfl (by decide) ?_
  refine v_iconst (v := 5) (pc' := 46) 30 rfl rfl (by decide) ?_
  refine v_irem (pc' := 47) 31 rfl rfl (by decide) ?_
  refine v_iadd (pc' := 48) 32 rfl rfl ?_
  refine v_cV (Y2 := Y_L_spaced) (As := [.int ((1 : Int32) + (remI (v1 / (1001 : Int32)) (5 : Int32)))]) (b := 436) (pc' := 51) (c1 := 0) (s1 := 0) 33 rfl rfl mf_L_spaced rfl rfl ml_L_64 mi_L_spaced se_L_spaced (ci := 8) rfl ly_436 (lay_n ly_436 (by decide) hnx) rfl (Nat.le_of_ble_eq_true rfl) ⟨Nat.le_of_ble_eq_true rfl, Nat.le_of_ble_eq_true rfl⟩ rfl rfl (ok_L_spaced hnx ((1 : Int32) + (remI (v1 / (1001 : Int32)) (5 : Int32))) I L h) ?_ ?_
  · intro e9 u9 hx9
    exact hx9.elim
  intro v9 u9 hv9
  obtain ⟨I1031, rfl, rfl, h⟩ := hv9
  refine ⟨fun _ => rfl, ?_⟩
  show V G Y_L_gate 51 _ _ _ _ _ _ _
  refine v_aload_n (pc' := 52) 34 0 rfl rfl rfl rfl ?_
  refine v_iconst (v := 1) (pc' := 53) 35 rfl rfl (by decide) ?_
  refine v_iload_n (pc' := 54) 36 1 rfl rfl rfl rfl ?_
  refine v_sipush (v := 5005) (pc' := 57) 37 rfl rfl (by decide) ?_
  refine v_idiv (pc' := 58) 38 rfl rfl (by decide) ?_
  refine v_iconst (v := 5) (pc' := 59) 39 rfl rfl (by decide) ?_
  refine v_irem (pc' := 60) 40 rfl rfl (by decide) ?_
  refine v_iadd (pc' := 61) 41 rfl rfl ?_
  refine v_cV (Y2 := Y_L_spaced) (As := [.int ((1 : Int32) + (remI (v1 / (5005 : Int32)) (5 : Int32)))]) (b := 436) (pc' := 64) (c1 := 0) (s1 := 0) 42 rfl rfl mf_L_spaced rfl rfl ml_L_64 mi_L_spaced se_L_spaced (ci := 8) rfl ly_436 (lay_n ly_436 (by decide) hnx) rfl (Nat.le_of_ble_eq_true rfl) ⟨Nat.le_of_ble_eq_true rfl, Nat.le_of_ble_eq_true rfl⟩ rfl rfl (ok_L_spaced hnx ((1 : Int32) + (remI (v1 / (5005 : Int32)) (5 : Int32))) I1031 L h) ?_ ?_
  · intro e9 u9 hx9
    exact hx9.elim
  intro v9 u9 hv9
  obtain ⟨I1032, rfl, rfl, h⟩ := hv9
  refine ⟨fun _ => rfl, ?_⟩
  show V G Y_L_gate 64 _ _ _ _ _ _ _
  refine v_aload_n (pc' := 65) 43 0 rfl rfl rfl rfl ?_
  refine v_iconst (v := 1) (pc' := 66) 44 rfl rfl (by decide) ?_
  refine v_iload_n (pc' := 67) 45 1 rfl rfl rfl rfl ?_
  refine v_sipush (v := 25025) (pc' := 70) 46 rfl rfl (by decide) ?_
  refine v_idiv (pc' := 71) 47 rfl rfl (by decide) ?_
  refine v_iconst (v := 3) (pc' := 72) 48 rfl rfl (by decide) ?_
  refine v_irem (pc' := 73) 49 rfl rfl (by decide) ?_
  refine v_iadd (pc' := 74) 50 rfl rfl ?_
  refine v_cV (Y2 := Y_L_spaced) (As := [.int ((1 : Int32) + (remI (v1 / (25025 : Int32)) (3 : Int32)))]) (b := 436) (pc' := 77) (c1 := 0) (s1 := 0) 51 rfl rfl mf_L_spaced rfl rfl ml_L_64 mi_L_spaced se_L_spaced (ci := 8) rfl ly_436 (lay_n ly_436 (by decide) hnx) rfl (Nat.le_of_ble_eq_true rfl) ⟨Nat.le_of_ble_eq_true rfl, Nat.le_of_ble_eq_true rfl⟩ rfl rfl (ok_L_spaced hnx ((1 : Int32) + (remI (v1 / (25025 : Int32)) (3 : Int32))) I1032 L h) ?_ ?_
  · intro e9 u9 hx9
    exact hx9.elim
  intro v9 u9 hv9
  obtain ⟨I1033, rfl, rfl, h⟩ := hv9
  refine ⟨fun _ => rfl, ?_⟩
  show V G Y_L_gate 77 _ _ _ _ _ _ _
  refine v_aload_n (pc' := 78) 52 0 rfl rfl rfl rfl ?_
  refine v_ldcS (pc' := 80) 53 rfl rfl sr_L_68 ?_
  refine v_cV (Y2 := Y_L_writes) (As := [.ref 471]) (b := 436) (pc' := 83) (c1 := 0) (s1 := 0) 54 rfl rfl mf_L_writes rfl rfl ml_L_29 mi_L_writes se_L_writes (ci := 8) rfl ly_436 (lay_n ly_436 (by decide) hnx) rfl (Nat.le_of_ble_eq_true rfl) ⟨Nat.le_of_ble_eq_true rfl, Nat.le_of_ble_eq_true rfl⟩ rfl rfl (ok_L_writes hnx 471 I1033 L h) ?_ ?_
  · intro e9 u9 hx9
    exact hx9.elim
  intro v9 u9 hv9
  obtain ⟨I1034, rfl, rfl, h⟩ := hv9
  refine ⟨fun _ => rfl, ?_⟩
  show V G Y_L_gate 83 _ _ _ _ _ _ _
  exact v_vret 55 rfl rfl (by decide) (by decide) ⟨_, rfl, rfl, h⟩
set_option maxHeartbeats 4000000 in
set_option maxRecDepth 100000 in
theorem ok_L_gate {G : GT} {b d t : Nat} {nx : Nat} (hnx : 436 ≤ nx) (p1 : Int32) (p2 : Int32) (I : TI) (L : TL)  {Q : TI → Prop} (h : W_L_gate p1 p2 I L Q) : MW G Y_L_gate [.ref 436, .int p1, .int p2] (I, L, RT b d t, nx) (fun v9 u9 => ∃ (I9 : TI), v9 = none ∧ u9 = (I9, L, RT b d t, nx) ∧ Q I9) (fun _ _ => False) := by
  unfold W_L_gate at h
  refine MW.intro rfl (by decide) is_L_gate (Nat.le_of_ble_eq_true rfl) ?_
  show V G Y_L_gate 0 [(0, .ref 436), (1, .int p1), (2, .int p2)] [] (I, L, RT b d t, nx) 0 0 _ _
  refine v_iload_n (pc' := 1) 0 1 rfl rfl rfl rfl ?_
  refine v_bipush (v := 7) (pc' := 3) 1 rfl rfl (by decide) ?_
  refine v_irem (pc' := 4) 2 rfl rfl (by decide) ?_
  refine v_istore_n (ls' := [(3, .int (remI p1 (7 : Int32))), (0, .ref 436), (1, .int p1), (2, .int p2)]) (pc' := 5) 3 rfl rfl rfl (by decide) rfl ?_
  refine v_aload_n (pc' := 6) 4 1 rfl rfl rfl rfl ?_
  refine v_iload_n (pc' := 7) 5 0 rfl rfl rfl rfl ?_
  refine v_cS (Y2 := Y_L_word) (As := [.int (remI p1 (7 : Int32))]) (pc' := 10) (c1 := 0) (s1 := 0) 6 rfl rfl mf_L_word rfl rfl ml_L_60 ms_L_word rfl (Nat.le_of_ble_eq_true rfl) ⟨Nat.le_of_ble_eq_true rfl, Nat.le_of_ble_eq_true rfl⟩ rfl rfl (ok_L_word hnx (remI p1 (7 : Int32)) I L h) ?_ ?_
  · intro e9 u9 hx9
    exact hx9.elim
  intro v9 u9 hv9
  obtain ⟨r1035, rfl, rfl, h⟩ := hv9
  refine ⟨fun _ => rfl, ?_⟩
  show V G Y_L_gate 10 _ (.ref r1035 :: _) _ _ _ _ _
  refine v_cV (Y2 := Y_L_writes) (As := [.ref r1035]) (b := 436) (pc' := 13) (c1 := 0) (s1 := 0) 7 rfl rfl mf_L_writes rfl rfl ml_L_29 mi_L_writes se_L_writes (ci := 8) rfl ly_436 (lay_n ly_436 (by decide) hnx) rfl (Nat.le_of_ble_eq_true rfl) ⟨Nat.le_of_ble_eq_true rfl, Nat.le_of_ble_eq_true rfl⟩ rfl rfl (ok_L_writes hnx r1035 I L h) ?_ ?_
  · intro e9 u9 hx9
    exact hx9.elim
  intro v9 u9 hv9
  obtain ⟨I1036, rfl, rfl, h⟩ := hv9
  refine ⟨fun _ => rfl, ?_⟩
  show V G Y_L_gate 13 _ _ _ _ _ _ _
  refine v_aload_n (pc' := 14) 8 1 rfl rfl rfl rfl ?_
  refine v_iload_n (pc' := 15) 9 2 rfl rfl rfl rfl ?_
  refine v_bipush (v := 7) (pc' := 17) 10 rfl rfl (by decide) ?_
  refine v_idiv (pc' := 18) 11 rfl rfl (by decide) ?_
  refine v_iload_n (pc' := 19) 12 3 rfl rfl rfl rfl ?_
  obtain ⟨hn1037, h⟩ := h
  refine v_irem (pc' := 20) 13 rfl rfl hn1037 ?_
  refine v_cV (Y2 := Y_L_spaced) (As := [.int (remI (p1 / (7 : Int32)) p2)]) (b := 436) (pc' := 23) (c1 := 0) (s1 := 0) 14 rfl rfl mf_L_spaced rfl rfl ml_L_64 mi_L_spaced se_L_spaced (ci := 8) rfl ly_436 (lay_n ly_436 (by decide) hnx) rfl (Nat.le_of_ble_eq_true rfl) ⟨Nat.le_of_ble_eq_true rfl, Nat.le_of_ble_eq_true rfl⟩ rfl rfl (ok_L_spaced hnx (remI (p1 / (7 : Int32)) p2) I1036 L h) ?_ ?_
  · intro e9 u9 hx9
    exact hx9.elim
  intro v9 u9 hv9
  obtain ⟨I1038, rfl, rfl, h⟩ := hv9
  refine ⟨fun _ => rfl, ?_⟩
  show V G Y_L_gate 23 _ _ _ _ _ _ _
  refine v_iload_n (pc' := 24) 15 0 rfl rfl rfl rfl ?_
  refine v_iconst (v := 5) (pc' := 25) 16 rfl rfl (by decide) ?_
  refine v_icmp_ge (tgt := 38) (pc' := 28) 17 rfl rfl (by decide) (fun hc => ?_) (fun hc => ?_)
  · replace h := h.1 hc
    refine V.sub [1, 2] rfl ?_
    exact b_L_gate_38 hnx p1 I1038 L Q h
  replace h := h.2 hc
  refine v_aload_n (pc' := 29) 18 1 rfl rfl rfl rfl ?_
  refine v_iload_n (pc' := 30) 19 2 rfl rfl rfl rfl ?_
  refine v_bipush (v := 91) (pc' := 32) 20 rfl rfl (by decide) ?_
  refine v_idiv (pc' := 33) 21 rfl rfl (by decide) ?_
  refine v_iload_n (pc' := 34) 22 3 rfl rfl rfl rfl ?_
  obtain ⟨hn1039, h⟩ := h
  refine v_irem (pc' := 35) 23 rfl rfl hn1039 ?_
  refine v_cV (Y2 := Y_L_spaced) (As := [.int (remI (p1 / (91 : Int32)) p2)]) (b := 436) (pc' := 38) (c1 := 0) (s1 := 0) 24 rfl rfl mf_L_spaced rfl rfl ml_L_64 mi_L_spaced se_L_spaced (ci := 8) rfl ly_436 (lay_n ly_436 (by decide) hnx) rfl (Nat.le_of_ble_eq_true rfl) ⟨Nat.le_of_ble_eq_true rfl, Nat.le_of_ble_eq_true rfl⟩ rfl rfl (ok_L_spaced hnx (remI (p1 / (91 : Int32)) p2) I1038 L h) ?_ ?_
  · intro e9 u9 hx9
    exact hx9.elim
  intro v9 u9 hv9
  obtain ⟨I1040, rfl, rfl, h⟩ := hv9
  refine ⟨fun _ => rfl, ?_⟩
  show V G Y_L_gate 38 _ _ _ _ _ _ _
  refine V.sub [1, 2] rfl ?_
  exact b_L_gate_38 hnx p1 I1040 L Q h
set_option maxHeartbeats 4000000 in
set_option maxRecDepth 100000 in
theorem d_L_tells_217 {G : GT} (L : TL) (b : Nat) (d : Nat) (t : Nat) (hb : bnOK b) (hd : bnOK d) (ht : txOK t) (Q : Int32 → TI → TL → Nat → Nat → Nat → Prop) (QX : String → TI → TL → Nat → Nat → Nat → Prop) (R217 : Int32 → TI → Prop) (hX : ∀ (e9 : String) (I9 : TI) (L9 : TL) (b9 : Nat) (d9 : Nat) (t9 : Nat), QX e9 I9 L9 b9 d9 t9 → False) (hR217 : ∀ (v4 : Int32) (I : TI), R217 v4 I → V G Y_L_tells 217 [(0, .ref 436), (1, .ref 0), (2, .ref 457), (4, .int v4)] [] (I, L, RT b d t, 436) 0 0 (fun v9 u9 => ∃ (r9 : Int32) (I9 : TI) (L9 : TL) (b9 : Nat) (d9 : Nat) (t9 : Nat), v9 = some (.int r9) ∧ u9 = (I9, L9, RT b9 d9 t9, 457) ∧ Q r9 I9 L9 b9 d9 t9) (fun _ _ => False)) (v4 : Int32) (I : TI)  (h : D_L_tells_217 G L b d t Q QX R217 v4 I) : V G Y_L_tells 217 [(0, .ref 436), (1, .ref 0), (2, .ref 457), (4, .int v4)] [] (I, L, RT b d t, 436) 0 0 (fun v9 u9 => ∃ (r9 : Int32) (I9 : TI) (L9 : TL) (b9 : Nat) (d9 : Nat) (t9 : Nat), v9 = some (.int r9) ∧ u9 = (I9, L9, RT b9 d9 t9, 457) ∧ Q r9 I9 L9 b9 d9 t9) (fun _ _ => False) := by
  unfold D_L_tells_217 at h
  refine v_iload (pc' := 219) 125 3 rfl rfl rfl ?_
  refine v_aload_n (pc' := 220) 126 0 rfl rfl rfl rfl ?_
  refine v_getI (pc' := 223) 127 rfl rfl pf_L_43 ly_436 (lay_n ly_436 (by decide) (Nat.le_of_ble_eq_true rfl)) ?_
  refine v_icmp_ge (tgt := 251) (pc' := 226) 128 rfl rfl (by decide) (fun hc => ?_) (fun hc => ?_)
  · replace h := h.1 hc
    refine v_aload_n (pc' := 252) 142 0 rfl rfl rfl rfl ?_
    refine v_ldcS (pc' := 254) 143 rfl rfl sr_L_91 ?_
    refine v_cV (Y2 := Y_L_writes) (As := [.ref 469]) (b := 436) (pc' := 257) (c1 := 0) (s1 := 0) 144 rfl rfl mf_L_writes rfl rfl ml_L_29 mi_L_writes se_L_writes (ci := 8) rfl ly_436 (lay_n ly_436 (by decide) (Nat.le_of_ble_eq_true rfl)) rfl (Nat.le_of_ble_eq_true rfl) ⟨Nat.le_of_ble_eq_true rfl, Nat.le_of_ble_eq_true rfl⟩ rfl rfl (ok_L_writes (Nat.le_of_ble_eq_true rfl) 469 I L h) ?_ ?_
    · intro e9 u9 hx9
      exact hx9.elim
    intro v9 u9 hv9
    obtain ⟨I1135, rfl, rfl, h⟩ := hv9
    refine ⟨fun _ => rfl, ?_⟩
    show V G Y_L_tells 257 _ _ _ _ _ _ _
    refine v_aload_n (pc' := 258) 145 0 rfl rfl rfl rfl ?_
    refine v_aload_n (pc' := 259) 146 2 rfl rfl rfl rfl ?_
    refine v_bipush (v := 11) (pc' := 261) 147 rfl rfl (by decide) ?_
    refine v_cS (Y2 := Y_L_cell) (As := [.ref 457, .int 11]) (pc' := 264) (c1 := 0) (s1 := 0) 148 rfl rfl mf_L_cell rfl rfl ml_L_70 ms_L_cell rfl (Nat.le_of_ble_eq_true rfl) ⟨Nat.le_of_ble_eq_true rfl, Nat.le_of_ble_eq_true rfl⟩ rfl rfl (ok_L_cell (Nat.le_of_ble_eq_true rfl) (11 : Int32) I1135 L h) ?_ ?_
    · intro e9 u9 hx9
      exact hx9.elim
    intro v9 u9 hv9
    obtain ⟨r1136, rfl, rfl, h⟩ := hv9
    refine ⟨fun _ => rfl, ?_⟩
    show V G Y_L_tells 264 _ (.int r1136 :: _) _ _ _ _ _
    refine v_sipush (v := 300) (pc' := 267) 149 rfl rfl (by decide) ?_
    refine v_irem (pc' := 268) 150 rfl rfl (by decide) ?_
    refine v_cV (Y2 := Y_L_spaced) (As := [.int (remI r1136 (300 : Int32))]) (b := 436) (pc' := 271) (c1 := 0) (s1 := 0) 151 rfl rfl mf_L_spaced rfl rfl ml_L_64 mi_L_spaced se_L_spaced (ci := 8) rfl ly_436 (lay_n ly_436 (by decide) (Nat.le_of_ble_eq_true rfl)) rfl (Nat.le_of_ble_eq_true rfl) ⟨Nat.le_of_ble_eq_true rfl, Nat.le_of_ble_eq_true rfl⟩ rfl rfl (ok_L_spaced (Nat.le_of_ble_eq_true rfl) (remI r1136 (300 : Int32)) I1135 L h) ?_ ?_
    · intro e9 u9 hx9
      exact hx9.elim
    intro v9 u9 hv9
    obtain ⟨I1137, rfl, rfl, h⟩ := hv9
    refine ⟨fun _ => rfl, ?_⟩
    show V G Y_L_tells 271 _ _ _ _ _ _ _
    refine v_aload_n (pc' := 272) 152 0 rfl rfl rfl rfl ?_
    refine v_aload_n (pc' := 273) 153 2 rfl rfl rfl rfl ?_
    refine v_bipush (v := 11) (pc' := 275) 154 rfl rfl (by decide) ?_
    refine v_cS (Y2 := Y_L_cell) (As := [.ref 457, .int 11]) (pc' := 278) (c1 := 0) (s1 := 0) 155 rfl rfl mf_L_cell rfl rfl ml_L_70 ms_L_cell rfl (Nat.le_of_ble_eq_true rfl) ⟨Nat.le_of_ble_eq_true rfl, Nat.le_of_ble_eq_true rfl⟩ rfl rfl (ok_L_cell (Nat.le_of_ble_eq_true rfl) (11 : Int32) I1137 L h) ?_ ?_
    · intro e9 u9 hx9
      exact hx9.elim
    intro v9 u9 hv9
    obtain ⟨r1138, rfl, rfl, h⟩ := hv9
    refine ⟨fun _ => rfl, ?_⟩
    show V G Y_L_tells 278 _ (.int r1138 :: _) _ _ _ _ _
    refine v_sipush (v := 300) (pc' := 281) 156 rfl rfl (by decide) ?_
    refine v_idiv (pc' := 282) 157 rfl rfl (by decide) ?_
    refine v_sipush (v := 300) (pc' := 285) 158 rfl rfl (by decide) ?_
    refine v_irem (pc' := 286) 159 rfl rfl (by decide) ?_
    refine v_cV (Y2 := Y_L_spaced) (As := [.int (remI (r1138 / (300 : Int32)) (300 : Int32))]) (b := 436) (pc' := 289) (c1 := 0) (s1 := 0) 160 rfl rfl mf_L_spaced rfl rfl ml_L_64 mi_L_spaced se_L_spaced (ci := 8) rfl ly_436 (lay_n ly_436 (by decide) (Nat.le_of_ble_eq_true rfl)) rfl (Nat.le_of_ble_eq_true rfl) ⟨Nat.le_of_ble_eq_true rfl, Nat.le_of_ble_eq_true rfl⟩ rfl rfl (ok_L_spaced (Nat.le_of_ble_eq_true rfl) (remI (r1138 / (300 : Int32)) (300 : Int32)) I1137 L h) ?_ ?_
    · intro e9 u9 hx9
      exact hx9.elim
    intro v9 u9 hv9
    obtain ⟨I1139, rfl, rfl, h⟩ := hv9
    refine ⟨fun _ => rfl, ?_⟩
    show V G Y_L_tells 289 _ _ _ _ _ _ _
    refine v_aload_n (pc' := 290) 161 0 rfl rfl rfl rfl ?_
    refine v_aload_n (pc' := 291) 162 2 rfl rfl rfl rfl ?_
    refine v_bipush (v := 11) (pc' := 293) 163 rfl rfl (by decide) ?_
    refine v_cS (Y2 := Y_L_cell) (As := [.ref 457, .int 11]) (pc' := 296) (c1 := 0) (s1 := 0) 164 rfl rfl mf_L_cell rfl rfl ml_L_70 ms_L_cell rfl (Nat.le_of_ble_eq_true rfl) ⟨Nat.le_of_ble_eq_true rfl, Nat.le_of_ble_eq_true rfl⟩ rfl rfl (ok_L_cell (Nat.le_of_ble_eq_true rfl) (11 : Int32) I1139 L h) ?_ ?_
    · intro e9 u9 hx9
      exact hx9.elim
    intro v9 u9 hv9
    obtain ⟨r1140, rfl, rfl, h⟩ := hv9
    refine ⟨fun _ => rfl, ?_⟩
    show V G Y_L_tells 296 _ (.int r1140 :: _) _ _ _ _ _
    refine v_ldc (v := 90000) (pc' := 298) 165 rfl rfl ki_L_93 ?_
    refine v_idiv (pc' := 299) 166 rfl rfl (by decide) ?_
    refine v_sipush (v := 900) (pc' := 302) 167 rfl rfl (by decide) ?_
    refine v_irem (pc' := 303) 168 rfl rfl (by decide) ?_
    refine v_cV (Y2 := Y_L_spaced) (As := [.int (remI (r1140 / (90000 : Int32)) (900 : Int32))]) (b := 436) (pc' := 306) (c1 := 0) (s1 := 0) 169 rfl rfl mf_L_spaced rfl rfl ml_L_64 mi_L_spaced se_L_spaced (ci := 8) rfl ly_436 (lay_n ly_436 (by decide) (Nat.le_of_ble_eq_true rfl)) rfl (Nat.le_of_ble_eq_true rfl) ⟨Nat.le_of_ble_eq_true rfl, Nat.le_of_ble_eq_true rfl⟩ rfl rfl (ok_L_spaced (Nat.le_of_ble_eq_true rfl) (remI (r1140 / (90000 : Int32)) (900 : Int32)) I1139 L h) ?_ ?_
    · intro e9 u9 hx9
      exact hx9.elim
    intro v9 u9 hv9
    obtain ⟨I1141, rfl, rfl, h⟩ := hv9
    refine ⟨fun _ => rfl, ?_⟩
    show V G Y_L_tells 306 _ _ _ _ _ _ _
    refine v_aload_n (pc' := 307) 170 0 rfl rfl rfl rfl ?_
    refine v_ldcS (pc' := 309) 171 rfl rfl sr_L_68 ?_
    refine v_cV (Y2 := Y_L_writes) (As := [.ref 471]) (b := 436) (pc' := 312) (c1 := 0) (s1 := 0) 172 rfl rfl mf_L_writes rfl rfl ml_L_29 mi_L_writes se_L_writes (ci := 8) rfl ly_436 (lay_n ly_436 (by decide) (Nat.le_of_ble_eq_true rfl)) rfl (Nat.le_of_ble_eq_true rfl) ⟨Nat.le_of_ble_eq_true rfl, Nat.le_of_ble_eq_true rfl⟩ rfl rfl (ok_L_writes (Nat.le_of_ble_eq_true rfl) 471 I1141 L h) ?_ ?_
    · intro e9 u9 hx9
      exact hx9.elim
    intro v9 u9 hv9
    obtain ⟨I1142, rfl, rfl, h⟩ := hv9
    refine ⟨fun _ => rfl, ?_⟩
    show V G Y_L_tells 312 _ _ _ _ _ _ _
    refine v_aload_n (pc' := 313) 173 1 rfl rfl rfl rfl ?_
    refine v_aload_n (pc' := 314) 174 0 rfl rfl rfl rfl ?_
    refine v_aload_n (pc' := 315) 175 1 rfl rfl rfl rfl ?_
    refine v_cV (Y2 := Y_L_feeds) (As := [.ref 0]) (b := 436) (pc' := 318) (c1 := 19) (s1 := 95) 176 rfl rfl mf_L_feeds rfl rfl ml_L_94 mi_L_feeds se_L_feeds (ci := 8) rfl ly_436 (lay_n ly_436 (by decide) (Nat.le_of_ble_eq_true rfl)) rfl (Nat.le_of_ble_eq_true rfl) ⟨Nat.le_of_ble_eq_true rfl, Nat.le_of_ble_eq_true rfl⟩ rfl rfl (ok_L_feeds I1142 L h) ?_ ?_
    · intro e9 u9 hx9
      exact hx9.elim
    intro v9 u9 hv9
    obtain ⟨r1143, I1144, L1145, rfl, rfl, h⟩ := hv9
    refine ⟨fun q => absurd q (Nat.lt_irrefl _), ?_⟩
    show V G Y_L_tells 318 _ (.int r1143 :: _) _ _ _ _ _
    refine v_cV (Y2 := Y_X8_load) (As := [.int r1143]) (b := 0) (pc' := 321) (c1 := 19) (s1 := 95) 177 rfl rfl mf_X8_load rfl rfl ml_L_98 mi_X8_load se_X8_load (ci := 7) rfl ly_0 (lay_lt ly_0 (by decide)) rfl (Nat.le_of_ble_eq_true rfl) ⟨Nat.le_of_ble_eq_true rfl, Nat.le_of_ble_eq_true rfl⟩ rfl rfl (ok_X8_load r1143 I1144 L1145 b d t hb hd ht h (fun _ _ _ _ _ _ q9 => hX _ _ _ _ _ _ q9)) ?_ ?_
    · intro e9 u9 hx9
      exact hx9.elim
    intro v9 u9 hv9
    obtain ⟨r1146, I1147, L1148, b1149, d1150, t1151, rfl, rfl, h⟩ := hv9
    refine ⟨fun q => absurd q (Nat.lt_irrefl _), ?_⟩
    obtain ⟨hb1152, h⟩ := h
    obtain ⟨hd1153, h⟩ := h
    obtain ⟨ht1154, h⟩ := h
    show V G Y_L_tells 321 _ (.int r1146 :: _) _ _ _ _ _
    refine v_aload_n (pc' := 322) 178 0 rfl rfl rfl rfl ?_
    refine v_cV (Y2 := Y_L_nets) (As := []) (b := 436) (pc' := 325) (c1 := 19) (s1 := 95) 179 rfl rfl mf_L_nets rfl rfl ml_L_102 mi_L_nets se_L_nets (ci := 8) rfl ly_436 (lay_lt ly_436 (by decide)) rfl (Nat.le_of_ble_eq_true rfl) ⟨Nat.le_of_ble_eq_true rfl, Nat.le_of_ble_eq_true rfl⟩ rfl rfl (ok_L_nets (Nat.le_of_ble_eq_true rfl) I1147 L1148 h) ?_ ?_
    · intro e9 u9 hx9
      exact hx9.elim
    intro v9 u9 hv9
    obtain ⟨r1155, rfl, rfl, h⟩ := hv9
    refine ⟨fun q => absurd q (Nat.lt_irrefl _), ?_⟩
    show V G Y_L_tells 325 _ (.int r1155 :: _) _ _ _ _ _
    refine v_icmp_ne (tgt := 364) (pc' := 328) 180 rfl rfl (by decide) (fun hc => ?_) (fun hc => ?_)
    · replace h := h.1 hc
      refine v_iconst (v := 0) (pc' := 365) 199 rfl rfl (by decide) ?_
      exact v_bret 200 rfl rfl (by decide) (by decide) (by decide) ⟨_, _, _, _, _, _, rfl, rfl, h⟩
    replace h := h.2 hc
    refine v_aload_n (pc' := 329) 181 1 rfl rfl rfl rfl ?_
    refine v_iconst (v := 0) (pc' := 330) 182 rfl rfl (by decide) ?_
    refine v_cV (Y2 := Y_X8_size) (As := [.int 0]) (b := 0) (pc' := 333) (c1 := 19) (s1 := 95) 183 rfl rfl mf_X8_size rfl rfl ml_L_105 mi_X8_size se_X8_size (ci := 7) rfl ly_0 (lay_lt ly_0 (by decide)) rfl (Nat.le_of_ble_eq_true rfl) ⟨Nat.le_of_ble_eq_true rfl, Nat.le_of_ble_eq_true rfl⟩ rfl rfl (ok_X8_size (0 : Int32) I1147 L1148 b1149 d1150 hb1152 hd1153 h (fun _ q9 => hX _ _ _ _ _ _ q9)) ?_ ?_
    · intro e9 u9 hx9
      exact hx9.elim
    intro v9 u9 hv9
    obtain ⟨r1156, rfl, rfl, h⟩ := hv9
    refine ⟨fun q => absurd q (Nat.lt_irrefl _), ?_⟩
    show V G Y_L_tells 333 _ (.int r1156 :: _) _ _ _ _ _
    refine v_aload_n (pc' := 334) 184 0 rfl rfl rfl rfl ?_
    refine v_getI (pc' := 337) 185 rfl rfl pf_L_40 ly_436 (lay_lt ly_436 (by decide)) ?_
    refine v_icmp_ne (tgt := 364) (pc' := 340) 186 rfl rfl (by decide) (fun hc => ?_) (fun hc => ?_)
    · replace h := h.1 hc
      refine v_iconst (v := 0) (pc' := 365) 199 rfl rfl (by decide) ?_
      exact v_bret 200 rfl rfl (by decide) (by decide) (by decide) ⟨_, _, _, _, _, _, rfl, rfl, h⟩
    replace h := h.2 hc
    refine v_aload_n (pc' := 341) 187 1 rfl rfl rfl rfl ?_
    refine v_iconst (v := 1) (pc' := 342) 188 rfl rfl (by decide) ?_
    refine v_cV (Y2 := Y_X8_size) (As := [.int 1]) (b := 0) (pc' := 345) (c1 := 19) (s1 := 95) 189 rfl rfl mf_X8_size rfl rfl ml_L_105 mi_X8_size se_X8_size (ci := 7) rfl ly_0 (lay_lt ly_0 (by decide)) rfl (Nat.le_of_ble_eq_true rfl) ⟨Nat.le_of_ble_eq_true rfl, Nat.le_of_ble_eq_true rfl⟩ rfl rfl (ok_X8_size (1 : Int32) I1147 L1148 b1149 d1150 hb1152 hd1153 h (fun _ q9 => hX _ _ _ _ _ _ q9)) ?_ ?_
    · intro e9 u9 hx9
      exact hx9.elim
    intro v9 u9 hv9
    obtain ⟨r1157, rfl, rfl, h⟩ := hv9
    refine ⟨fun q => absurd q (Nat.lt_irrefl _), ?_⟩
    show V G Y_L_tells 345 _ (.int r1157 :: _) _ _ _ _ _
    refine v_aload_n (pc' := 346) 190 0 rfl rfl rfl rfl ?_
    refine v_getI (pc' := 349) 191 rfl rfl pf_L_43 ly_436 (lay_lt ly_436 (by decide)) ?_
    refine v_icmp_ne (tgt := 364) (pc' := 352) 192 rfl rfl (by decide) (fun hc => ?_) (fun hc => ?_)
    · replace h := h.1 hc
      refine v_iconst (v := 0) (pc' := 365) 199 rfl rfl (by decide) ?_
      exact v_bret 200 rfl rfl (by decide) (by decide) (by decide) ⟨_, _, _, _, _, _, rfl, rfl, h⟩
    replace h := h.2 hc
    refine v_aload_n (pc' := 353) 193 1 rfl rfl rfl rfl ?_
    refine v_iconst (v := 2) (pc' := 354) 194 rfl rfl (by decide) ?_
    refine v_cV (Y2 := Y_X8_size) (As := [.int 2]) (b := 0) (pc' := 357) (c1 := 19) (s1 := 95) 195 rfl rfl mf_X8_size rfl rfl ml_L_105 mi_X8_size se_X8_size (ci := 7) rfl ly_0 (lay_lt ly_0 (by decide)) rfl (Nat.le_of_ble_eq_true rfl) ⟨Nat.le_of_ble_eq_true rfl, Nat.le_of_ble_eq_true rfl⟩ rfl rfl (ok_X8_size (2 : Int32) I1147 L1148 b1149 d1150 hb1152 hd1153 h (fun _ q9 => hX _ _ _ _ _ _ q9)) ?_ ?_
    · intro e9 u9 hx9
      exact hx9.elim
    intro v9 u9 hv9
    obtain ⟨r1158, rfl, rfl, h⟩ := hv9
    refine ⟨fun q => absurd q (Nat.lt_irrefl _), ?_⟩
    show V G Y_L_tells 357 _ (.int r1158 :: _) _ _ _ _ _
    refine v_aload_n (pc' := 358) 196 0 rfl rfl rfl rfl ?_
    refine v_getI (pc' := 361) 197 rfl rfl pf_L_74 ly_436 (lay_lt ly_436 (by decide)) ?_
    refine v_icmp_eq (tgt := 366) (pc' := 364) 198 rfl rfl (by decide) (fun hc => ?_) (fun hc => ?_)
    · replace h := h.1 hc
      refine v_aload_n (pc' := 367) 201 1 rfl rfl rfl rfl ?_
      refine v_cV (Y2 := Y_X8_errorPosition) (As := []) (b := 0) (pc' := 370) (c1 := 19) (s1 := 95) 202 rfl rfl mf_X8_errorPosition rfl rfl ml_L_107 mi_X8_errorPosition se_X8_errorPosition (ci := 7) rfl ly_0 (lay_lt ly_0 (by decide)) rfl (Nat.le_of_ble_eq_true rfl) ⟨Nat.le_of_ble_eq_true rfl, Nat.le_of_ble_eq_true rfl⟩ rfl rfl (ok_X8_errorPosition I1147 L1148 h) ?_ ?_
      · intro e9 u9 hx9
        exact hx9.elim
      intro v9 u9 hv9
      obtain ⟨r1159, rfl, rfl, h⟩ := hv9
      refine ⟨fun q => absurd q (Nat.lt_irrefl _), ?_⟩
      show V G Y_L_tells 370 _ (.int r1159 :: _) _ _ _ _ _
      refine v_iconst (v := -1) (pc' := 371) 203 rfl rfl (by decide) ?_
      refine v_icmp_ne (tgt := 411) (pc' := 374) 204 rfl rfl (by decide) (fun hc => ?_) (fun hc => ?_)
      · replace h := h.1 hc
        refine v_iconst (v := 0) (pc' := 412) 223 rfl rfl (by decide) ?_
        exact v_bret 224 rfl rfl (by decide) (by decide) (by decide) ⟨_, _, _, _, _, _, rfl, rfl, h⟩
      replace h := h.2 hc
      refine v_aload_n (pc' := 375) 205 1 rfl rfl rfl rfl ?_
      refine v_iconst (v := 4) (pc' := 376) 206 rfl rfl (by decide) ?_
      refine v_cV (Y2 := Y_X8_size) (As := [.int 4]) (b := 0) (pc' := 379) (c1 := 19) (s1 := 95) 207 rfl rfl mf_X8_size rfl rfl ml_L_105 mi_X8_size se_X8_size (ci := 7) rfl ly_0 (lay_lt ly_0 (by decide)) rfl (Nat.le_of_ble_eq_true rfl) ⟨Nat.le_of_ble_eq_true rfl, Nat.le_of_ble_eq_true rfl⟩ rfl rfl (ok_X8_size (4 : Int32) I1147 L1148 b1149 d1150 hb1152 hd1153 h (fun _ q9 => hX _ _ _ _ _ _ q9)) ?_ ?_
      · intro e9 u9 hx9
        exact hx9.elim
      intro v9 u9 hv9
      obtain ⟨r1160, rfl, rfl, h⟩ := hv9
      refine ⟨fun q => absurd q (Nat.lt_irrefl _), ?_⟩
      show V G Y_L_tells 379 _ (.int r1160 :: _) _ _ _ _ _
      refine v_aload_n (pc' := 380) 208 0 rfl rfl rfl rfl ?_
      refine v_getI (pc' := 383) 209 rfl rfl pf_L_77 ly_436 (lay_lt ly_436 (by decide)) ?_
      refine v_icmp_ne (tgt := 411) (pc' := 386) 210 rfl rfl (by decide) (fun hc => ?_) (fun hc => ?_)
      · replace h := h.1 hc
        refine v_iconst (v := 0) (pc' := 412) 223 rfl rfl (by decide) ?_
        exact v_bret 224 rfl rfl (by decide) (by decide) (by decide) ⟨_, _, _, _, _, _, rfl, rfl, h⟩
      replace h := h.2 hc
      refine v_aload_n (pc' := 387) 211 1 rfl rfl rfl rfl ?_
      refine v_iconst (v := 5) (pc' := 388) 212 rfl rfl (by decide) ?_
      refine v_cV (Y2 := Y_X8_size) (As := [.int 5]) (b := 0) (pc' := 391) (c1 := 19) (s1 := 95) 213 rfl rfl mf_X8_size rfl rfl ml_L_105 mi_X8_size se_X8_size (ci := 7) rfl ly_0 (lay_lt ly_0 (by decide)) rfl (Nat.le_of_ble_eq_true rfl) ⟨Nat.le_of_ble_eq_true rfl, Nat.le_of_ble_eq_true rfl⟩ rfl rfl (ok_X8_size (5 : Int32) I1147 L1148 b1149 d1150 hb1152 hd1153 h (fun _ q9 => hX _ _ _ _ _ _ q9)) ?_ ?_
      · intro e9 u9 hx9
        exact hx9.elim
      intro v9 u9 hv9
      obtain ⟨r1161, rfl, rfl, h⟩ := hv9
      refine ⟨fun q => absurd q (Nat.lt_irrefl _), ?_⟩
      show V G Y_L_tells 391 _ (.int r1161 :: _) _ _ _ _ _
      refine v_aload_n (pc' := 392) 214 0 rfl rfl rfl rfl ?_
      refine v_getI (pc' := 395) 215 rfl rfl pf_L_80 ly_436 (lay_lt ly_436 (by decide)) ?_
      refine v_icmp_ne (tgt := 411) (pc' := 398) 216 rfl rfl (by decide) (fun hc => ?_) (fun hc => ?_)
      · replace h := h.1 hc
        refine v_iconst (v := 0) (pc' := 412) 223 rfl rfl (by decide) ?_
        exact v_bret 224 rfl rfl (by decide) (by decide) (by decide) ⟨_, _, _, _, _, _, rfl, rfl, h⟩
      replace h := h.2 hc
      refine v_aload_n (pc' := 399) 217 1 rfl rfl rfl rfl ?_
      refine v_bipush (v := 6) (pc' := 401) 218 rfl rfl (by decide) ?_
      refine v_cV (Y2 := Y_X8_size) (As := [.int 6]) (b := 0) (pc' := 404) (c1 := 19) (s1 := 95) 219 rfl rfl mf_X8_size rfl rfl ml_L_105 mi_X8_size se_X8_size (ci := 7) rfl ly_0 (lay_lt ly_0 (by decide)) rfl (Nat.le_of_ble_eq_true rfl) ⟨Nat.le_of_ble_eq_true rfl, Nat.le_of_ble_eq_true rfl⟩ rfl rfl (ok_X8_size (6 : Int32) I1147 L1148 b1149 d1150 hb1152 hd1153 h (fun _ q9 => hX _ _ _ _ _ _ q9)) ?_ ?_
      · intro e9 u9 hx9
        exact hx9.elim
      intro v9 u9 hv9
      obtain ⟨r1162, rfl, rfl, h⟩ := hv9
      refine ⟨fun q => absurd q (Nat.lt_irrefl _), ?_⟩
      show V G Y_L_tells 404 _ (.int r1162 :: _) _ _ _ _ _
      refine v_if_ne (tgt := 411) (pc' := 407) 220 rfl rfl (by decide) (fun hc => ?_) (fun hc => ?_)
      · replace h := h.1 hc
        refine v_iconst (v := 0) (pc' := 412) 223 rfl rfl (by decide) ?_
        exact v_bret 224 rfl rfl (by decide) (by decide) (by decide) ⟨_, _, _, _, _, _, rfl, rfl, h⟩
      replace h := h.2 hc
      refine v_iconst (v := 1) (pc' := 408) 221 rfl rfl (by decide) ?_
      refine v_goto (tgt := 412) 222 rfl (by decide) ?_
      exact v_bret 224 rfl rfl (by decide) (by decide) (by decide) ⟨_, _, _, _, _, _, rfl, rfl, h⟩
    replace h := h.2 hc
    refine v_iconst (v := 0) (pc' := 365) 199 rfl rfl (by decide) ?_
    exact v_bret 200 rfl rfl (by decide) (by decide) (by decide) ⟨_, _, _, _, _, _, rfl, rfl, h⟩
  replace h := h.2 hc
  refine v_aload_n (pc' := 227) 129 0 rfl rfl rfl rfl ?_
  refine v_aload_n (pc' := 228) 130 2 rfl rfl rfl rfl ?_
  refine v_iconst (v := 4) (pc' := 229) 131 rfl rfl (by decide) ?_
  refine v_iload (pc' := 231) 132 3 rfl rfl rfl ?_
  refine v_iadd (pc' := 232) 133 rfl rfl ?_
  refine v_cS (Y2 := Y_L_cell) (As := [.ref 457, .int ((4 : Int32) + v4)]) (pc' := 235) (c1 := 0) (s1 := 0) 134 rfl rfl mf_L_cell rfl rfl ml_L_70 ms_L_cell rfl (Nat.le_of_ble_eq_true rfl) ⟨Nat.le_of_ble_eq_true rfl, Nat.le_of_ble_eq_true rfl⟩ rfl rfl (ok_L_cell (Nat.le_of_ble_eq_true rfl) ((4 : Int32) + v4) I L h) ?_ ?_
  · intro e9 u9 hx9
    exact hx9.elim
  intro v9 u9 hv9
  obtain ⟨r1163, rfl, rfl, h⟩ := hv9
  refine ⟨fun _ => rfl, ?_⟩
  show V G Y_L_tells 235 _ (.int r1163 :: _) _ _ _ _ _
  refine v_aload_n (pc' := 236) 135 0 rfl rfl rfl rfl ?_
  refine v_getI (pc' := 239) 136 rfl rfl pf_L_40 ly_436 (lay_n ly_436 (by decide) (Nat.le_of_ble_eq_true rfl)) ?_
  refine v_iload (pc' := 241) 137 3 rfl rfl rfl ?_
  refine v_iadd (pc' := 242) 138 rfl rfl ?_
  refine v_cV (Y2 := Y_L_gate) (As := [.int r1163, .int ((I 436 3) + v4)]) (b := 436) (pc' := 245) (c1 := 0) (s1 := 0) 139 rfl rfl mf_L_gate rfl rfl ml_L_87 mi_L_gate se_L_gate (ci := 8) rfl ly_436 (lay_n ly_436 (by decide) (Nat.le_of_ble_eq_true rfl)) rfl (Nat.le_of_ble_eq_true rfl) ⟨Nat.le_of_ble_eq_true rfl, Nat.le_of_ble_eq_true rfl⟩ rfl rfl (ok_L_gate (Nat.le_of_ble_eq_true rfl) r1163 ((I 436 3) + v4) I L h) ?_ ?_
  · intro e9 u9 hx9
    exact hx9.elim
  intro v9 u9 hv9
  obtain ⟨I1164, rfl, rfl, h⟩ := hv9
  refine ⟨fun _ => rfl, ?_⟩
  show V G Y_L_tells 245 _ _ _ _ _ _ _
  refine v_iinc (v := (v4 + 1)) (ls' := [(4, .int (v4 + 1)), (0, .ref 436), (1, .ref 0), (2, .ref 457)]) (pc' := 248) 140 3 rfl rfl rfl rfl (by decide) rfl ?_
  refine v_goto (tgt := 217) 141 rfl (by decide) ?_
  refine V.sub [1, 2, 3, 0] rfl ?_
  exact hR217 (v4 + 1) I1164 h
theorem l_L_tells_217 {G : GT} (L : TL) (b : Nat) (d : Nat) (t : Nat) (hb : bnOK b) (hd : bnOK d) (ht : txOK t) (Q : Int32 → TI → TL → Nat → Nat → Nat → Prop) (QX : String → TI → TL → Nat → Nat → Nat → Prop) (hX : ∀ (e9 : String) (I9 : TI) (L9 : TL) (b9 : Nat) (d9 : Nat) (t9 : Nat), QX e9 I9 L9 b9 d9 t9 → False) : ∀ (n9 : Nat) (v4 : Int32) (I : TI), L_L_tells_217 G L b d t Q QX n9 v4 I → V G Y_L_tells 217 [(0, .ref 436), (1, .ref 0), (2, .ref 457), (4, .int v4)] [] (I, L, RT b d t, 436) 0 0 (fun v9 u9 => ∃ (r9 : Int32) (I9 : TI) (L9 : TL) (b9 : Nat) (d9 : Nat) (t9 : Nat), v9 = some (.int r9) ∧ u9 = (I9, L9, RT b9 d9 t9, 457) ∧ Q r9 I9 L9 b9 d9 t9) (fun _ _ => False)
  | 0, _, _, h => h.elim
  | n9 + 1, v4, I, h => d_L_tells_217 L b d t hb hd ht Q QX _ hX (l_L_tells_217 L b d t hb hd ht Q QX hX n9) v4 I h
set_option maxHeartbeats 4000000 in
set_option maxRecDepth 100000 in
theorem b_L_tells_196 {G : GT} (v4 : Int32) (v5 : Int32) (v6 : Int32) (v7 : Int32) (I : TI) (L : TL) (b : Nat) (d : Nat) (t : Nat) (hb : bnOK b) (hd : bnOK d) (ht : txOK t) (Q : Int32 → TI → TL → Nat → Nat → Nat → Prop) (QX : String → TI → TL → Nat → Nat → Nat → Prop) (R118 : Int32 → TI → Prop) (R157 : Int32 → Int32 → TI → Prop) (hX : ∀ (e9 : String) (I9 : TI) (L9 : TL) (b9 : Nat) (d9 : Nat) (t9 : Nat), QX e9 I9 L9 b9 d9 t9 → False) (hR118 : ∀ (v4 : Int32) (I : TI), R118 v4 I → V G Y_L_tells 118 [(0, .ref 436), (1, .ref 0), (2, .ref 457), (4, .int v4)] [] (I, L, RT b d t, 436) 0 0 (fun v9 u9 => ∃ (r9 : Int32) (I9 : TI) (L9 : TL) (b9 : Nat) (d9 : Nat) (t9 : Nat), v9 = some (.int r9) ∧ u9 = (I9, L9, RT b9 d9 t9, 457) ∧ Q r9 I9 L9 b9 d9 t9) (fun _ _ => False)) (hR157 : ∀ (v6 : Int32) (v7 : Int32) (I : TI), R157 v6 v7 I → V G Y_L_tells 157 [(0, .ref 436), (1, .ref 0), (2, .ref 457), (4, .int v4), (5, .int v5), (6, .int v6), (7, .int v7)] [] (I, L, RT b d t, 436) 0 0 (fun v9 u9 => ∃ (r9 : Int32) (I9 : TI) (L9 : TL) (b9 : Nat) (d9 : Nat) (t9 : Nat), v9 = some (.int r9) ∧ u9 = (I9, L9, RT b9 d9 t9, 457) ∧ Q r9 I9 L9 b9 d9 t9) (fun _ _ => False)) (h : B_L_tells_196 G v4 v5 v6 v7 I L b d t Q QX R118 R157) : V G Y_L_tells 196 [(0, .ref 436), (1, .ref 0), (2, .ref 457), (4, .int v4), (5, .int v5), (6, .int v6), (7, .int v7)] [] (I, L, RT b d t, 436) 0 0 (fun v9 u9 => ∃ (r9 : Int32) (I9 : TI) (L9 : TL) (b9 : Nat) (d9 : Nat) (t9 : Nat), v9 = some (.int r9) ∧ u9 = (I9, L9, RT b9 d9 t9, 457) ∧ Q r9 I9 L9 b9 d9 t9) (fun _ _ => False) := by
  unfold B_L_tells_196 at h
  refine v_iinc (v := (v7 + 1)) (ls' := [(7, .int (v7 + 1)), (0, .ref 436), (1, .ref 0), (2, .ref 457), (4, .int v4), (5, .int v5), (6, .int v6)]) (pc' := 199) 116 6 rfl rfl rfl rfl (by decide) rfl ?_
  refine v_goto (tgt := 157) 117 rfl (by decide) ?_
  refine V.sub [1, 2, 3, 4, 5, 6, 0] rfl ?_
  exact hR157 v6 (v7 + 1) I h
set_option maxHeartbeats 4000000 in
set_option maxRecDepth 100000 in
theorem d_L_tells_157 {G : GT} (v4 : Int32) (v5 : Int32) (L : TL) (b : Nat) (d : Nat) (t : Nat) (hb : bnOK b) (hd : bnOK d) (ht : txOK t) (Q : Int32 → TI → TL → Nat → Nat → Nat → Prop) (QX : String → TI → TL → Nat → Nat → Nat → Prop) (R118 : Int32 → TI → Prop) (R157 : Int32 → Int32 → TI → Prop) (hX : ∀ (e9 : String) (I9 : TI) (L9 : TL) (b9 : Nat) (d9 : Nat) (t9 : Nat), QX e9 I9 L9 b9 d9 t9 → False) (hR118 : ∀ (v4 : Int32) (I : TI), R118 v4 I → V G Y_L_tells 118 [(0, .ref 436), (1, .ref 0), (2, .ref 457), (4, .int v4)] [] (I, L, RT b d t, 436) 0 0 (fun v9 u9 => ∃ (r9 : Int32) (I9 : TI) (L9 : TL) (b9 : Nat) (d9 : Nat) (t9 : Nat), v9 = some (.int r9) ∧ u9 = (I9, L9, RT b9 d9 t9, 457) ∧ Q r9 I9 L9 b9 d9 t9) (fun _ _ => False)) (hR157 : ∀ (v6 : Int32) (v7 : Int32) (I : TI), R157 v6 v7 I → V G Y_L_tells 157 [(0, .ref 436), (1, .ref 0), (2, .ref 457), (4, .int v4), (5, .int v5), (6, .int v6), (7, .int v7)] [] (I, L, RT b d t, 436) 0 0 (fun v9 u9 => ∃ (r9 : Int32) (I9 : TI) (L9 : TL) (b9 : Nat) (d9 : Nat) (t9 : Nat), v9 = some (.int r9) ∧ u9 = (I9, L9, RT b9 d9 t9, 457) ∧ Q r9 I9 L9 b9 d9 t9) (fun _ _ => False)) (v6 : Int32) (v7 : Int32) (I : TI)  (h : D_L_tells_157 G v4 v5 L b d t Q QX R118 R157 v6 v7 I) : V G Y_L_tells 157 [(0, .ref 436), (1, .ref 0), (2, .ref 457), (4, .int v4), (5, .int v5), (6, .int v6), (7, .int v7)] [] (I, L, RT b d t, 436) 0 0 (fun v9 u9 => ∃ (r9 : Int32) (I9 : TI) (L9 : TL) (b9 : Nat) (d9 : Nat) (t9 : Nat), v9 = some (.int r9) ∧ u9 = (I9, L9, RT b9 d9 t9, 457) ∧ Q r9 I9 L9 b9 d9 t9) (fun _ _ => False) := by
  unfold D_L_tells_157 at h
  refine v_iload (pc' := 159) 94 6 rfl rfl rfl ?_
  refine v_bipush (v := 9) (pc' := 161) 95 rfl rfl (by decide) ?_
  refine v_icmp_ge (tgt := 202) (pc' := 164) 96 rfl rfl (by decide) (fun hc => ?_) (fun hc => ?_)
  · replace h := h.1 hc
    refine v_aload_n (pc' := 203) 118 0 rfl rfl rfl rfl ?_
    refine v_ldcS (pc' := 205) 119 rfl rfl sr_L_68 ?_
    refine v_cV (Y2 := Y_L_writes) (As := [.ref 471]) (b := 436) (pc' := 208) (c1 := 0) (s1 := 0) 120 rfl rfl mf_L_writes rfl rfl ml_L_29 mi_L_writes se_L_writes (ci := 8) rfl ly_436 (lay_n ly_436 (by decide) (Nat.le_of_ble_eq_true rfl)) rfl (Nat.le_of_ble_eq_true rfl) ⟨Nat.le_of_ble_eq_true rfl, Nat.le_of_ble_eq_true rfl⟩ rfl rfl (ok_L_writes (Nat.le_of_ble_eq_true rfl) 471 I L h) ?_ ?_
    · intro e9 u9 hx9
      exact hx9.elim
    intro v9 u9 hv9
    obtain ⟨I1165, rfl, rfl, h⟩ := hv9
    refine ⟨fun _ => rfl, ?_⟩
    show V G Y_L_tells 208 _ _ _ _ _ _ _
    refine v_iinc (v := (v4 + 1)) (ls' := [(4, .int (v4 + 1)), (0, .ref 436), (1, .ref 0), (2, .ref 457), (5, .int v5), (6, .int v6), (7, .int v7)]) (pc' := 211) 121 3 rfl rfl rfl rfl (by decide) rfl ?_
    refine v_goto (tgt := 118) 122 rfl (by decide) ?_
    refine V.sub [1, 2, 3, 0] rfl ?_
    exact hR118 (v4 + 1) I1165 h
  replace h := h.2 hc
  refine v_iload (pc' := 166) 97 5 rfl rfl rfl ?_
  refine v_iconst (v := 1) (pc' := 167) 98 rfl rfl (by decide) ?_
  refine v_iload (pc' := 169) 99 4 rfl rfl rfl ?_
  refine v_iconst (v := 3) (pc' := 170) 100 rfl rfl (by decide) ?_
  refine v_iload (pc' := 172) 101 6 rfl rfl rfl ?_
  refine v_imul (pc' := 173) 102 rfl rfl ?_
  refine v_ishr (pc' := 174) 103 rfl rfl ?_
  refine v_bipush (v := 7) (pc' := 176) 104 rfl rfl (by decide) ?_
  refine v_iand (pc' := 177) 105 rfl rfl ?_
  refine v_iadd (pc' := 178) 106 rfl rfl ?_
  refine v_iadd (pc' := 179) 107 rfl rfl ?_
  refine nm_I (e := (v6 + ((1 : Int32) + ((v5 >>> (((3 : Int32) * v7) &&& 31)) &&& 7)))) (fun x1166 hx1166 => ?_)
  replace h := h x1166 hx1166
  refine v_istore (ls' := [(6, .int x1166), (0, .ref 436), (1, .ref 0), (2, .ref 457), (4, .int v4), (5, .int v5), (7, .int v7)]) (pc' := 181) 108 rfl rfl (by decide) rfl ?_
  refine v_iload (pc' := 183) 109 0 rfl rfl rfl ?_
  refine v_aload_n (pc' := 184) 110 1 rfl rfl rfl rfl ?_
  refine v_getI (pc' := 187) 111 rfl rfl pf_L_74 ly_436 (lay_n ly_436 (by decide) (Nat.le_of_ble_eq_true rfl)) ?_
  refine v_icmp_gt (tgt := 196) (pc' := 190) 112 rfl rfl (by decide) (fun hc => ?_) (fun hc => ?_)
  · replace h := h.1 hc
    refine V.sub [1, 2, 3, 4, 5, 0, 6] rfl ?_
    exact b_L_tells_196 v4 v5 x1166 v7 I L b d t hb hd ht Q QX R118 R157 hX hR118 hR157 h
  replace h := h.2 hc
  refine v_aload_n (pc' := 191) 113 1 rfl rfl rfl rfl ?_
  refine v_iload (pc' := 193) 114 0 rfl rfl rfl ?_
  refine v_cV (Y2 := Y_L_spaced) (As := [.int x1166]) (b := 436) (pc' := 196) (c1 := 0) (s1 := 0) 115 rfl rfl mf_L_spaced rfl rfl ml_L_64 mi_L_spaced se_L_spaced (ci := 8) rfl ly_436 (lay_n ly_436 (by decide) (Nat.le_of_ble_eq_true rfl)) rfl (Nat.le_of_ble_eq_true rfl) ⟨Nat.le_of_ble_eq_true rfl, Nat.le_of_ble_eq_true rfl⟩ rfl rfl (ok_L_spaced (Nat.le_of_ble_eq_true rfl) x1166 I L h) ?_ ?_
  · intro e9 u9 hx9
    exact hx9.elim
  intro v9 u9 hv9
  obtain ⟨I1167, rfl, rfl, h⟩ := hv9
  refine ⟨fun _ => rfl, ?_⟩
  show V G Y_L_tells 196 _ _ _ _ _ _ _
  refine V.sub [1, 2, 3, 4, 5, 0, 6] rfl ?_
  exact b_L_tells_196 v4 v5 x1166 v7 I1167 L b d t hb hd ht Q QX R118 R157 hX hR118 hR157 h
theorem l_L_tells_157 {G : GT} (v4 : Int32) (v5 : Int32) (L : TL) (b : Nat) (d : Nat) (t : Nat) (hb : bnOK b) (hd : bnOK d) (ht : txOK t) (Q : Int32 → TI → TL → Nat → Nat → Nat → Prop) (QX : String → TI → TL → Nat → Nat → Nat → Prop) (R118 : Int32 → TI → Prop) (hX : ∀ (e9 : String) (I9 : TI) (L9 : TL) (b9 : Nat) (d9 : Nat) (t9 : Nat), QX e9 I9 L9 b9 d9 t9 → False) (hR118 : ∀ (v4 : Int32) (I : TI), R118 v4 I → V G Y_L_tells 118 [(0, .ref 436), (1, .ref 0), (2, .ref 457), (4, .int v4)] [] (I, L, RT b d t, 436) 0 0 (fun v9 u9 => ∃ (r9 : Int32) (I9 : TI) (L9 : TL) (b9 : Nat) (d9 : Nat) (t9 : Nat), v9 = some (.int r9) ∧ u9 = (I9, L9, RT b9 d9 t9, 457) ∧ Q r9 I9 L9 b9 d9 t9) (fun _ _ => False)) : ∀ (n9 : Nat) (v6 : Int32) (v7 : Int32) (I : TI), L_L_tells_157 G v4 v5 L b d t Q QX R118 n9 v6 v7 I → V G Y_L_tells 157 [(0, .ref 436), (1, .ref 0), (2, .ref 457), (4, .int v4), (5, .int v5), (6, .int v6), (7, .int v7)] [] (I, L, RT b d t, 436) 0 0 (fun v9 u9 => ∃ (r9 : Int32) (I9 : TI) (L9 : TL) (b9 : Nat) (d9 : Nat) (t9 : Nat), v9 = some (.int r9) ∧ u9 = (I9, L9, RT b9 d9 t9, 457) ∧ Q r9 I9 L9 b9 d9 t9) (fun _ _ => False)
  | 0, _, _, _, h => h.elim
  | n9 + 1, v6, v7, I, h => d_L_tells_157 v4 v5 L b d t hb hd ht Q QX R118 _ hX hR118 (l_L_tells_157 v4 v5 L b d t hb hd ht Q QX R118 hX hR118 n9) v6 v7 I h
set_option maxHeartbeats 4000000 in
set_option maxRecDepth 100000 in
theorem d_L_tells_118 {G : GT} (L : TL) (b : Nat) (d : Nat) (t : Nat) (hb : bnOK b) (hd : bnOK d) (ht : txOK t) (Q : Int32 → TI → TL → Nat → Nat → Nat → Prop) (QX : String → TI → TL → Nat → Nat → Nat → Prop) (R118 : Int32 → TI → Prop) (hX : ∀ (e9 : String) (I9 : TI) (L9 : TL) (b9 : Nat) (d9 : Nat) (t9 : Nat), QX e9 I9 L9 b9 d9 t9 → False) (hR118 : ∀ (v4 : Int32) (I : TI), R118 v4 I → V G Y_L_tells 118 [(0, .ref 436), (1, .ref 0), (2, .ref 457), (4, .int v4)] [] (I, L, RT b d t, 436) 0 0 (fun v9 u9 => ∃ (r9 : Int32) (I9 : TI) (L9 : TL) (b9 : Nat) (d9 : Nat) (t9 : Nat), v9 = some (.int r9) ∧ u9 = (I9, L9, RT b9 d9 t9, 457) ∧ Q r9 I9 L9 b9 d9 t9) (fun _ _ => False)) (v4 : Int32) (I : TI)  (h : D_L_tells_118 G L b d t Q QX R118 v4 I) : V G Y_L_tells 118 [(0, .ref 436), (1, .ref 0), (2, .ref 457), (4, .int v4)] [] (I, L, RT b d t, 436) 0 0 (fun v9 u9 => ∃ (r9 : Int32) (I9 : TI) (L9 : TL) (b9 : Nat) (d9 : Nat) (t9 : Nat), v9 = some (.int r9) ∧ u9 = (I9, L9, RT b9 d9 t9, 457) ∧ Q r9 I9 L9 b9 d9 t9) (fun _ _ => False) := by
  unfold D_L_tells_118 at h
  refine v_iload (pc' := 120) 72 3 rfl rfl rfl ?_
  refine v_aload_n (pc' := 121) 73 0 rfl rfl rfl rfl ?_
  refine v_getI (pc' := 124) 74 rfl rfl pf_L_40 ly_436 (lay_n ly_436 (by decide) (Nat.le_of_ble_eq_true rfl)) ?_
  refine v_icmp_ge (tgt := 214) (pc' := 127) 75 rfl rfl (by decide) (fun hc => ?_) (fun hc => ?_)
  · replace h := h.1 hc
    refine v_iconst (v := 0) (pc' := 215) 123 rfl rfl (by decide) ?_
    refine v_istore (ls' := [(4, .int 0), (0, .ref 436), (1, .ref 0), (2, .ref 457)]) (pc' := 217) 124 rfl rfl (by decide) rfl ?_
    refine V.sub [1, 2, 3, 0] rfl ?_
    obtain ⟨n1168, h⟩ := h
    exact l_L_tells_217 L b d t hb hd ht Q QX hX n1168 (0 : Int32) I h
  replace h := h.2 hc
  refine v_aload_n (pc' := 128) 76 2 rfl rfl rfl rfl ?_
  refine v_iconst (v := 1) (pc' := 129) 77 rfl rfl (by decide) ?_
  refine v_iload (pc' := 131) 78 3 rfl rfl rfl ?_
  refine v_iadd (pc' := 132) 79 rfl rfl ?_
  refine v_cS (Y2 := Y_L_cell) (As := [.ref 457, .int ((1 : Int32) + v4)]) (pc' := 135) (c1 := 0) (s1 := 0) 80 rfl rfl mf_L_cell rfl rfl ml_L_70 ms_L_cell rfl (Nat.le_of_ble_eq_true rfl) ⟨Nat.le_of_ble_eq_true rfl, Nat.le_of_ble_eq_true rfl⟩ rfl rfl (ok_L_cell (Nat.le_of_ble_eq_true rfl) ((1 : Int32) + v4) I L h) ?_ ?_
  · intro e9 u9 hx9
    exact hx9.elim
  intro v9 u9 hv9
  obtain ⟨r1169, rfl, rfl, h⟩ := hv9
  refine ⟨fun _ => rfl, ?_⟩
  show V G Y_L_tells 135 _ (.int r1169 :: _) _ _ _ _ _
  refine v_istore (ls' := [(5, .int r1169), (0, .ref 436), (1, .ref 0), (2, .ref 457), (4, .int v4)]) (pc' := 137) 81 rfl rfl (by decide) rfl ?_
  refine v_aload_n (pc' := 138) 82 1 rfl rfl rfl rfl ?_
  refine v_ldcS (pc' := 140) 83 rfl rfl sr_L_85 ?_
  refine v_cV (Y2 := Y_L_writes) (As := [.ref 460]) (b := 436) (pc' := 143) (c1 := 0) (s1 := 0) 84 rfl rfl mf_L_writes rfl rfl ml_L_29 mi_L_writes se_L_writes (ci := 8) rfl ly_436 (lay_n ly_436 (by decide) (Nat.le_of_ble_eq_true rfl)) rfl (Nat.le_of_ble_eq_true rfl) ⟨Nat.le_of_ble_eq_true rfl, Nat.le_of_ble_eq_true rfl⟩ rfl rfl (ok_L_writes (Nat.le_of_ble_eq_true rfl) 460 I L h) ?_ ?_
  · intro e9 u9 hx9
    exact hx9.elim
  intro v9 u9 hv9
  obtain ⟨I1170, rfl, rfl, h⟩ := hv9
  refine ⟨fun _ => rfl, ?_⟩
  show V G Y_L_tells 143 _ _ _ _ _ _ _
  refine v_aload_n (pc' := 144) 85 1 rfl rfl rfl rfl ?_
  refine v_iload (pc' := 146) 86 0 rfl rfl rfl ?_
  refine v_iconst (v := 2) (pc' := 147) 87 rfl rfl (by decide) ?_
  refine v_irem (pc' := 148) 88 rfl rfl (by decide) ?_
  refine v_cV (Y2 := Y_L_spaced) (As := [.int (remI r1169 (2 : Int32))]) (b := 436) (pc' := 151) (c1 := 0) (s1 := 0) 89 rfl rfl mf_L_spaced rfl rfl ml_L_64 mi_L_spaced se_L_spaced (ci := 8) rfl ly_436 (lay_n ly_436 (by decide) (Nat.le_of_ble_eq_true rfl)) rfl (Nat.le_of_ble_eq_true rfl) ⟨Nat.le_of_ble_eq_true rfl, Nat.le_of_ble_eq_true rfl⟩ rfl rfl (ok_L_spaced (Nat.le_of_ble_eq_true rfl) (remI r1169 (2 : Int32)) I1170 L h) ?_ ?_
  · intro e9 u9 hx9
    exact hx9.elim
  intro v9 u9 hv9
  obtain ⟨I1171, rfl, rfl, h⟩ := hv9
  refine ⟨fun _ => rfl, ?_⟩
  show V G Y_L_tells 151 _ _ _ _ _ _ _
  refine v_iconst (v := 0) (pc' := 152) 90 rfl rfl (by decide) ?_
  refine v_istore (ls' := [(6, .int 0), (5, .int r1169), (0, .ref 436), (1, .ref 0), (2, .ref 457), (4, .int v4)]) (pc' := 154) 91 rfl rfl (by decide) rfl ?_
  refine v_iconst (v := 0) (pc' := 155) 92 rfl rfl (by decide) ?_
  refine v_istore (ls' := [(7, .int 0), (6, .int 0), (5, .int r1169), (0, .ref 436), (1, .ref 0), (2, .ref 457), (4, .int v4)]) (pc' := 157) 93 rfl rfl (by decide) rfl ?_
  refine V.sub [3, 4, 5, 6, 2, 1, 0] rfl ?_
  obtain ⟨n1172, h⟩ := h
  exact l_L_tells_157 v4 r1169 L b d t hb hd ht Q QX R118 hX hR118 n1172 (0 : Int32) (0 : Int32) I1171 h
theorem l_L_tells_118 {G : GT} (L : TL) (b : Nat) (d : Nat) (t : Nat) (hb : bnOK b) (hd : bnOK d) (ht : txOK t) (Q : Int32 → TI → TL → Nat → Nat → Nat → Prop) (QX : String → TI → TL → Nat → Nat → Nat → Prop) (hX : ∀ (e9 : String) (I9 : TI) (L9 : TL) (b9 : Nat) (d9 : Nat) (t9 : Nat), QX e9 I9 L9 b9 d9 t9 → False) : ∀ (n9 : Nat) (v4 : Int32) (I : TI), L_L_tells_118 G L b d t Q QX n9 v4 I → V G Y_L_tells 118 [(0, .ref 436), (1, .ref 0), (2, .ref 457), (4, .int v4)] [] (I, L, RT b d t, 436) 0 0 (fun v9 u9 => ∃ (r9 : Int32) (I9 : TI) (L9 : TL) (b9 : Nat) (d9 : Nat) (t9 : Nat), v9 = some (.int r9) ∧ u9 = (I9, L9, RT b9 d9 t9, 457) ∧ Q r9 I9 L9 b9 d9 t9) (fun _ _ => False)
  | 0, _, _, h => h.elim
  | n9 + 1, v4, I, h => d_L_tells_118 L b d t hb hd ht Q QX _ hX (l_L_tells_118 L b d t hb hd ht Q QX hX n9) v4 I h
set_option maxHeartbeats 4000000 in
set_option maxRecDepth 100000 in
theorem ok_L_tells {G : GT} (I : TI) (L : TL) (b : Nat) (d : Nat) (t : Nat) (hb : bnOK b) (hd : bnOK d) (ht : txOK t) {Q : Int32 → TI → TL → Nat → Nat → Nat → Prop} {QX : String → TI → TL → Nat → Nat → Nat → Prop} (h : W_L_tells G I L b d t Q QX) (hX : ∀ (e9 : String) (I9 : TI) (L9 : TL) (b9 : Nat) (d9 : Nat) (t9 : Nat), QX e9 I9 L9 b9 d9 t9 → False) : MW G Y_L_tells [.ref 436, .ref 0, .ref 457] (I, L, RT b d t, 436) (fun v9 u9 => ∃ (r9 : Int32) (I9 : TI) (L9 : TL) (b9 : Nat) (d9 : Nat) (t9 : Nat), v9 = some (.int r9) ∧ u9 = (I9, L9, RT b9 d9 t9, 457) ∧ Q r9 I9 L9 b9 d9 t9) (fun _ _ => False) := by
  unfold W_L_tells at h
  refine MW.intro rfl (by decide) is_L_tells (Nat.le_of_ble_eq_true rfl) ?_
  show V G Y_L_tells 0 [(0, .ref 436), (1, .ref 0), (2, .ref 457)] [] (I, L, RT b d t, 436) 0 0 _ _
  refine v_aload_n (pc' := 1) 0 2 rfl rfl rfl rfl ?_
  refine v_iconst (v := 0) (pc' := 2) 1 rfl rfl (by decide) ?_
  refine v_cS (Y2 := Y_L_cell) (As := [.ref 457, .int 0]) (pc' := 5) (c1 := 0) (s1 := 0) 2 rfl rfl mf_L_cell rfl rfl ml_L_70 ms_L_cell rfl (Nat.le_of_ble_eq_true rfl) ⟨Nat.le_of_ble_eq_true rfl, Nat.le_of_ble_eq_true rfl⟩ rfl rfl (ok_L_cell (Nat.le_of_ble_eq_true rfl) (0 : Int32) I L h) ?_ ?_
  · intro e9 u9 hx9
    exact hx9.elim
  intro v9 u9 hv9
  obtain ⟨r1173, rfl, rfl, h⟩ := hv9
  refine ⟨fun _ => rfl, ?_⟩
  show V G Y_L_tells 5 _ (.int r1173 :: _) _ _ _ _ _
  refine v_istore_n (ls' := [(3, .int r1173), (0, .ref 436), (1, .ref 0), (2, .ref 457)]) (pc' := 6) 3 rfl rfl rfl (by decide) rfl ?_
  refine v_aload_n (pc' := 7) 4 1 rfl rfl rfl rfl ?_
  refine v_bipush (v := 10) (pc' := 9) 5 rfl rfl (by decide) ?_
  refine v_iload_n (pc' := 10) 6 0 rfl rfl rfl rfl ?_
  refine v_bipush (v := 41) (pc' := 12) 7 rfl rfl (by decide) ?_
  refine v_irem (pc' := 13) 8 rfl rfl (by decide) ?_
  refine v_iadd (pc' := 14) 9 rfl rfl ?_
  refine v_putI (pc' := 17) 10 rfl rfl pf_L_74 (fun q => absurd q (by decide)) ly_436 (lay_n ly_436 (by decide) (Nat.le_of_ble_eq_true rfl)) ?_
  refine v_aload_n (pc' := 18) 11 1 rfl rfl rfl rfl ?_
  refine v_iconst (v := 1) (pc' := 19) 12 rfl rfl (by decide) ?_
  refine v_iload_n (pc' := 20) 13 0 rfl rfl rfl rfl ?_
  refine v_bipush (v := 41) (pc' := 22) 14 rfl rfl (by decide) ?_
  refine v_idiv (pc' := 23) 15 rfl rfl (by decide) ?_
  refine v_iconst (v := 3) (pc' := 24) 16 rfl rfl (by decide) ?_
  refine v_irem (pc' := 25) 17 rfl rfl (by decide) ?_
  refine v_iadd (pc' := 26) 18 rfl rfl ?_
  refine v_putI (pc' := 29) 19 rfl rfl pf_L_40 (fun q => absurd q (by decide)) ly_436 (lay_n ly_436 (by decide) (Nat.le_of_ble_eq_true rfl)) ?_
  refine nm_M (e := (up2 (up2 I 436 2 ((10 : Int32) + (remI r1173 (41 : Int32)))) 436 3 ((1 : Int32) + (remI (r1173 / (41 : Int32)) (3 : Int32))))) (fun I1174 hI1174 => ?_)
  replace h := h I1174 hI1174
  refine v_aload_n (pc' := 30) 20 1 rfl rfl rfl rfl ?_
  refine v_iconst (v := 1) (pc' := 31) 21 rfl rfl (by decide) ?_
  refine v_iload_n (pc' := 32) 22 0 rfl rfl rfl rfl ?_
  refine v_bipush (v := 123) (pc' := 34) 23 rfl rfl (by decide) ?_
  refine v_idiv (pc' := 35) 24 rfl rfl (by decide) ?_
  refine v_bipush (v := 7) (pc' := 37) 25 rfl rfl (by decide) ?_
  refine v_irem (pc' := 38) 26 rfl rfl (by decide) ?_
  refine v_iadd (pc' := 39) 27 rfl rfl ?_
  refine v_putI (pc' := 42) 28 rfl rfl pf_L_43 (fun q => absurd q (by decide)) ly_436 (lay_n ly_436 (by decide) (Nat.le_of_ble_eq_true rfl)) ?_
  refine nm_M (e := (up2 I1174 436 4 ((1 : Int32) + (remI (r1173 / (123 : Int32)) (7 : Int32))))) (fun I1175 hI1175 => ?_)
  replace h := h I1175 hI1175
  refine v_aload_n (pc' := 43) 29 1 rfl rfl rfl rfl ?_
  refine v_iload_n (pc' := 44) 30 0 rfl rfl rfl rfl ?_
  refine v_sipush (v := 861) (pc' := 47) 31 rfl rfl (by decide) ?_
  refine v_idiv (pc' := 48) 32 rfl rfl (by decide) ?_
  refine v_iconst (v := 4) (pc' := 49) 33 rfl rfl (by decide) ?_
  refine v_irem (pc' := 50) 34 rfl rfl (by decide) ?_
  refine v_putI (pc' := 53) 35 rfl rfl pf_L_77 (fun q => absurd q (by decide)) ly_436 (lay_n ly_436 (by decide) (Nat.le_of_ble_eq_true rfl)) ?_
  refine v_aload_n (pc' := 54) 36 1 rfl rfl rfl rfl ?_
  refine v_iload_n (pc' := 55) 37 0 rfl rfl rfl rfl ?_
  refine v_sipush (v := 3444) (pc' := 58) 38 rfl rfl (by decide) ?_
  refine v_idiv (pc' := 59) 39 rfl rfl (by decide) ?_
  refine v_bipush (v := 9) (pc' := 61) 40 rfl rfl (by decide) ?_
  refine v_irem (pc' := 62) 41 rfl rfl (by decide) ?_
  refine v_putI (pc' := 65) 42 rfl rfl pf_L_80 (fun q => absurd q (by decide)) ly_436 (lay_n ly_436 (by decide) (Nat.le_of_ble_eq_true rfl)) ?_
  refine nm_M (e := (up2 (up2 I1175 436 5 (remI (r1173 / (861 : Int32)) (4 : Int32))) 436 6 (remI (r1173 / (3444 : Int32)) (9 : Int32)))) (fun I1176 hI1176 => ?_)
  replace h := h I1176 hI1176
  refine v_aload_n (pc' := 66) 43 1 rfl rfl rfl rfl ?_
  refine v_ldcS (pc' := 68) 44 rfl rfl sr_L_83 ?_
  refine v_cV (Y2 := Y_L_writes) (As := [.ref 459]) (b := 436) (pc' := 71) (c1 := 0) (s1 := 0) 45 rfl rfl mf_L_writes rfl rfl ml_L_29 mi_L_writes se_L_writes (ci := 8) rfl ly_436 (lay_n ly_436 (by decide) (Nat.le_of_ble_eq_true rfl)) rfl (Nat.le_of_ble_eq_true rfl) ⟨Nat.le_of_ble_eq_true rfl, Nat.le_of_ble_eq_true rfl⟩ rfl rfl (ok_L_writes (Nat.le_of_ble_eq_true rfl) 459 I1176 L h) ?_ ?_
  · intro e9 u9 hx9
    exact hx9.elim
  intro v9 u9 hv9
  obtain ⟨I1177, rfl, rfl, h⟩ := hv9
  refine ⟨fun _ => rfl, ?_⟩
  show V G Y_L_tells 71 _ _ _ _ _ _ _
  refine v_aload_n (pc' := 72) 46 1 rfl rfl rfl rfl ?_
  refine v_aload_n (pc' := 73) 47 1 rfl rfl rfl rfl ?_
  refine v_getI (pc' := 76) 48 rfl rfl pf_L_74 ly_436 (lay_n ly_436 (by decide) (Nat.le_of_ble_eq_true rfl)) ?_
  refine v_cV (Y2 := Y_L_spaced) (As := [.int (I1177 436 2)]) (b := 436) (pc' := 79) (c1 := 0) (s1 := 0) 49 rfl rfl mf_L_spaced rfl rfl ml_L_64 mi_L_spaced se_L_spaced (ci := 8) rfl ly_436 (lay_n ly_436 (by decide) (Nat.le_of_ble_eq_true rfl)) rfl (Nat.le_of_ble_eq_true rfl) ⟨Nat.le_of_ble_eq_true rfl, Nat.le_of_ble_eq_true rfl⟩ rfl rfl (ok_L_spaced (Nat.le_of_ble_eq_true rfl) (I1177 436 2) I1177 L h) ?_ ?_
  · intro e9 u9 hx9
    exact hx9.elim
  intro v9 u9 hv9
  obtain ⟨I1178, rfl, rfl, h⟩ := hv9
  refine ⟨fun _ => rfl, ?_⟩
  show V G Y_L_tells 79 _ _ _ _ _ _ _
  refine v_aload_n (pc' := 80) 50 1 rfl rfl rfl rfl ?_
  refine v_iconst (v := 1) (pc' := 81) 51 rfl rfl (by decide) ?_
  refine v_iload_n (pc' := 82) 52 0 rfl rfl rfl rfl ?_
  refine v_sipush (v := 30996) (pc' := 85) 53 rfl rfl (by decide) ?_
  refine v_idiv (pc' := 86) 54 rfl rfl (by decide) ?_
  refine v_bipush (v := 9) (pc' := 88) 55 rfl rfl (by decide) ?_
  refine v_irem (pc' := 89) 56 rfl rfl (by decide) ?_
  refine v_iadd (pc' := 90) 57 rfl rfl ?_
  refine v_cV (Y2 := Y_L_spaced) (As := [.int ((1 : Int32) + (remI (r1173 / (30996 : Int32)) (9 : Int32)))]) (b := 436) (pc' := 93) (c1 := 0) (s1 := 0) 58 rfl rfl mf_L_spaced rfl rfl ml_L_64 mi_L_spaced se_L_spaced (ci := 8) rfl ly_436 (lay_n ly_436 (by decide) (Nat.le_of_ble_eq_true rfl)) rfl (Nat.le_of_ble_eq_true rfl) ⟨Nat.le_of_ble_eq_true rfl, Nat.le_of_ble_eq_true rfl⟩ rfl rfl (ok_L_spaced (Nat.le_of_ble_eq_true rfl) ((1 : Int32) + (remI (r1173 / (30996 : Int32)) (9 : Int32))) I1178 L h) ?_ ?_
  · intro e9 u9 hx9
    exact hx9.elim
  intro v9 u9 hv9
  obtain ⟨I1179, rfl, rfl, h⟩ := hv9
  refine ⟨fun _ => rfl, ?_⟩
  show V G Y_L_tells 93 _ _ _ _ _ _ _
  refine v_aload_n (pc' := 94) 59 1 rfl rfl rfl rfl ?_
  refine v_aload_n (pc' := 95) 60 1 rfl rfl rfl rfl ?_
  refine v_getI (pc' := 98) 61 rfl rfl pf_L_77 ly_436 (lay_n ly_436 (by decide) (Nat.le_of_ble_eq_true rfl)) ?_
  refine v_cV (Y2 := Y_L_spaced) (As := [.int (I1179 436 5)]) (b := 436) (pc' := 101) (c1 := 0) (s1 := 0) 62 rfl rfl mf_L_spaced rfl rfl ml_L_64 mi_L_spaced se_L_spaced (ci := 8) rfl ly_436 (lay_n ly_436 (by decide) (Nat.le_of_ble_eq_true rfl)) rfl (Nat.le_of_ble_eq_true rfl) ⟨Nat.le_of_ble_eq_true rfl, Nat.le_of_ble_eq_true rfl⟩ rfl rfl (ok_L_spaced (Nat.le_of_ble_eq_true rfl) (I1179 436 5) I1179 L h) ?_ ?_
  · intro e9 u9 hx9
    exact hx9.elim
  intro v9 u9 hv9
  obtain ⟨I1180, rfl, rfl, h⟩ := hv9
  refine ⟨fun _ => rfl, ?_⟩
  show V G Y_L_tells 101 _ _ _ _ _ _ _
  refine v_aload_n (pc' := 102) 63 1 rfl rfl rfl rfl ?_
  refine v_aload_n (pc' := 103) 64 1 rfl rfl rfl rfl ?_
  refine v_getI (pc' := 106) 65 rfl rfl pf_L_80 ly_436 (lay_n ly_436 (by decide) (Nat.le_of_ble_eq_true rfl)) ?_
  refine v_cV (Y2 := Y_L_spaced) (As := [.int (I1180 436 6)]) (b := 436) (pc' := 109) (c1 := 0) (s1 := 0) 66 rfl rfl mf_L_spaced rfl rfl ml_L_64 mi_L_spaced se_L_spaced (ci := 8) rfl ly_436 (lay_n ly_436 (by decide) (Nat.le_of_ble_eq_true rfl)) rfl (Nat.le_of_ble_eq_true rfl) ⟨Nat.le_of_ble_eq_true rfl, Nat.le_of_ble_eq_true rfl⟩ rfl rfl (ok_L_spaced (Nat.le_of_ble_eq_true rfl) (I1180 436 6) I1180 L h) ?_ ?_
  · intro e9 u9 hx9
    exact hx9.elim
  intro v9 u9 hv9
  obtain ⟨I1181, rfl, rfl, h⟩ := hv9
  refine ⟨fun _ => rfl, ?_⟩
  show V G Y_L_tells 109 _ _ _ _ _ _ _
  refine v_aload_n (pc' := 110) 67 1 rfl rfl rfl rfl ?_
  refine v_ldcS (pc' := 112) 68 rfl rfl sr_L_68 ?_
  refine v_cV (Y2 := Y_L_writes) (As := [.ref 471]) (b := 436) (pc' := 115) (c1 := 0) (s1 := 0) 69 rfl rfl mf_L_writes rfl rfl ml_L_29 mi_L_writes se_L_writes (ci := 8) rfl ly_436 (lay_n ly_436 (by decide) (Nat.le_of_ble_eq_true rfl)) rfl (Nat.le_of_ble_eq_true rfl) ⟨Nat.le_of_ble_eq_true rfl, Nat.le_of_ble_eq_true rfl⟩ rfl rfl (ok_L_writes (Nat.le_of_ble_eq_true rfl) 471 I1181 L h) ?_ ?_
  · intro e9 u9 hx9
    exact hx9.elim
  intro v9 u9 hv9
  obtain ⟨I1182, rfl, rfl, h⟩ := hv9
  refine ⟨fun _ => rfl, ?_⟩
  show V G Y_L_tells 115 _ _ _ _ _ _ _
  refine v_iconst (v := 0) (pc' := 116) 70 rfl rfl (by decide) ?_
  refine v_istore (ls' := [(4, .int 0), (3, .int r1173), (0, .ref 436), (1, .ref 0), (2, .ref 457)]) (pc' := 118) 71 rfl rfl (by decide) rfl ?_
  refine V.sub [2, 3, 4, 0] rfl ?_
  obtain ⟨n1183, h⟩ := h
  exact l_L_tells_118 L b d t hb hd ht Q QX hX n1183 (0 : Int32) I1182 h
set_option maxHeartbeats 4000000 in
set_option maxRecDepth 100000 in
theorem b_L_disputes_56 {G : GT} {t : Nat} (v2 : Int32) (s1 : Int32) (s2 : Int32) (s3 : Int32) (s4 : Int32) (I : TI) (L : TL) (b : Nat) (d : Nat) (hb : bnOK b) (hd : bnOK d) (Q : TI → TL → Prop) (QX : String → TI → TL → Prop) (hX : ∀ (e9 : String) (I9 : TI) (L9 : TL), QX e9 I9 L9 → False) (h : B_L_disputes_56 v2 s1 s2 s3 s4 I L b d Q QX) : V G Y_L_disputes 56 [(1, .ref 0), (2, .int v2)] [.int s4, .int s3, .int s2, .int s1, .ref 0] (I, L, RT b d t, 457) 0 0 (fun v9 u9 => ∃ (I9 : TI) (L9 : TL), v9 = none ∧ u9 = (I9, L9, RT b d t, 457) ∧ Q I9 L9) (fun _ _ => False) := by
  unfold B_L_disputes_56 at h
  refine v_cV (Y2 := Y_X8_open) (As := [.int s1, .int s2, .int s3, .int s4]) (b := 0) (pc' := 59) (c1 := 0) (s1 := 0) 37 rfl rfl mf_X8_open rfl rfl ml_L_113 mi_X8_open se_X8_open (ci := 7) rfl ly_0 (lay_lt ly_0 (by decide)) rfl (Nat.le_of_ble_eq_true rfl) ⟨Nat.le_of_ble_eq_true rfl, Nat.le_of_ble_eq_true rfl⟩ rfl rfl (ok_X8_open s1 s2 s3 s4 I L b d hb hd h (fun _ _ _ q9 => hX _ _ _ q9)) ?_ ?_
  · intro e9 u9 hx9
    exact hx9.elim
  intro v9 u9 hv9
  obtain ⟨r1214, I1215, L1216, rfl, rfl, h⟩ := hv9
  refine ⟨fun q => absurd q (Nat.lt_irrefl _), ?_⟩
  show V G Y_L_disputes 59 _ (.int r1214 :: _) _ _ _ _ _
  refine v_istore (ls' := [(5, .int r1214), (1, .ref 0), (2, .int v2)]) (pc' := 61) 38 rfl rfl (by decide) rfl ?_
  refine v_iload (pc' := 63) 39 0 rfl rfl rfl ?_
  refine v_if_lt (tgt := 75) (pc' := 66) 40 rfl rfl (by decide) (fun hc => ?_) (fun hc => ?_)
  · replace h := h.1 hc
    exact v_vret 45 rfl rfl (by decide) (by decide) ⟨_, _, rfl, rfl, h⟩
  replace h := h.2 hc
  refine v_aload_n (pc' := 67) 41 1 rfl rfl rfl rfl ?_
  refine v_iload (pc' := 69) 42 0 rfl rfl rfl ?_
  refine v_cV (Y2 := Y_X8_judge) (As := [.int r1214]) (b := 0) (pc' := 72) (c1 := 0) (s1 := 0) 43 rfl rfl mf_X8_judge rfl rfl ml_L_117 mi_X8_judge se_X8_judge (ci := 7) rfl ly_0 (lay_lt ly_0 (by decide)) rfl (Nat.le_of_ble_eq_true rfl) ⟨Nat.le_of_ble_eq_true rfl, Nat.le_of_ble_eq_true rfl⟩ rfl rfl (ok_X8_judge r1214 I1215 L1216 b d hb hd h (fun _ _ _ q9 => hX _ _ _ q9)) ?_ ?_
  · intro e9 u9 hx9
    exact hx9.elim
  intro v9 u9 hv9
  obtain ⟨r1217, I1218, L1219, rfl, rfl, h⟩ := hv9
  refine ⟨fun q => absurd q (Nat.lt_irrefl _), ?_⟩
  show V G Y_L_disputes 72 _ (.int r1217 :: _) _ _ _ _ _
  refine v_if_ge (tgt := 76) (pc' := 75) 44 rfl rfl (by decide) (fun hc => ?_) (fun hc => ?_)
  · replace h := h.1 hc
    refine v_iload_n (pc' := 77) 46 2 rfl rfl rfl rfl ?_
    refine v_bipush (v := 96) (pc' := 79) 47 rfl rfl (by decide) ?_
    refine v_idiv (pc' := 80) 48 rfl rfl (by decide) ?_
    refine v_iconst (v := 3) (pc' := 81) 49 rfl rfl (by decide) ?_
    refine v_irem (pc' := 82) 50 rfl rfl (by decide) ?_
    refine v_if_ne (tgt := 95) (pc' := 85) 51 rfl rfl (by decide) (fun hc => ?_) (fun hc => ?_)
    · replace h := h.1 hc
      refine v_iload_n (pc' := 96) 57 2 rfl rfl rfl rfl ?_
      refine v_bipush (v := 96) (pc' := 98) 58 rfl rfl (by decide) ?_
      refine v_idiv (pc' := 99) 59 rfl rfl (by decide) ?_
      refine v_iconst (v := 3) (pc' := 100) 60 rfl rfl (by decide) ?_
      refine v_irem (pc' := 101) 61 rfl rfl (by decide) ?_
      refine v_iconst (v := 1) (pc' := 102) 62 rfl rfl (by decide) ?_
      refine v_icmp_ne (tgt := 112) (pc' := 105) 63 rfl rfl (by decide) (fun hc => ?_) (fun hc => ?_)
      · replace h := h.1 hc
        exact v_vret 68 rfl rfl (by decide) (by decide) ⟨_, _, rfl, rfl, h⟩
      replace h := h.2 hc
      refine v_aload_n (pc' := 106) 64 1 rfl rfl rfl rfl ?_
      refine v_iload (pc' := 108) 65 0 rfl rfl rfl ?_
      refine v_cV (Y2 := Y_X8_appeal) (As := [.int r1214]) (b := 0) (pc' := 111) (c1 := 0) (s1 := 0) 66 rfl rfl mf_X8_appeal rfl rfl ml_L_123 mi_X8_appeal se_X8_appeal (ci := 7) rfl ly_0 (lay_lt ly_0 (by decide)) rfl (Nat.le_of_ble_eq_true rfl) ⟨Nat.le_of_ble_eq_true rfl, Nat.le_of_ble_eq_true rfl⟩ rfl rfl (ok_X8_appeal r1214 I1218 L1219 b d hb hd h (fun _ _ _ q9 => hX _ _ _ q9)) ?_ ?_
      · intro e9 u9 hx9
        exact hx9.elim
      intro v9 u9 hv9
      obtain ⟨r1220, I1221, L1222, rfl, rfl, h⟩ := hv9
      refine ⟨fun q => absurd q (Nat.lt_irrefl _), ?_⟩
      show V G Y_L_disputes 111 _ (.int r1220 :: _) _ _ _ _ _
      refine v_pop (pc' := 112) 67 rfl rfl rfl ?_
      exact v_vret 68 rfl rfl (by decide) (by decide) ⟨_, _, rfl, rfl, h⟩
    replace h := h.2 hc
    refine v_aload_n (pc' := 86) 52 1 rfl rfl rfl rfl ?_
    refine v_iload (pc' := 88) 53 0 rfl rfl rfl ?_
    refine v_cV (Y2 := Y_X8_accept) (As := [.int r1214]) (b := 0) (pc' := 91) (c1 := 0) (s1 := 0) 54 rfl rfl mf_X8_accept rfl rfl ml_L_120 mi_X8_accept se_X8_accept (ci := 7) rfl ly_0 (lay_lt ly_0 (by decide)) rfl (Nat.le_of_ble_eq_true rfl) ⟨Nat.le_of_ble_eq_true rfl, Nat.le_of_ble_eq_true rfl⟩ rfl rfl (ok_X8_accept r1214 I1218 L1219 b d hb hd h (fun _ _ _ q9 => hX _ _ _ q9)) ?_ ?_
    · intro e9 u9 hx9
      exact hx9.elim
    intro v9 u9 hv9
    obtain ⟨r1223, I1224, L1225, rfl, rfl, h⟩ := hv9
    refine ⟨fun q => absurd q (Nat.lt_irrefl _), ?_⟩
    show V G Y_L_disputes 91 _ (.int r1223 :: _) _ _ _ _ _
    refine v_pop (pc' := 92) 55 rfl rfl rfl ?_
    refine v_goto (tgt := 112) 56 rfl (by decide) ?_
    exact v_vret 68 rfl rfl (by decide) (by decide) ⟨_, _, rfl, rfl, h⟩
  replace h := h.2 hc
  exact v_vret 45 rfl rfl (by decide) (by decide) ⟨_, _, rfl, rfl, h⟩
set_option maxHeartbeats 4000000 in
set_option maxRecDepth 100000 in
theorem ok_L_disputes {G : GT} {t : Nat} (p2 : Int32) (I : TI) (L : TL) (b : Nat) (d : Nat) (hb : bnOK b) (hd : bnOK d) {Q : TI → TL → Prop} {QX : String → TI → TL → Prop} (h : W_L_disputes p2 I L b d Q QX) (hX : ∀ (e9 : String) (I9 : TI) (L9 : TL), QX e9 I9 L9 → False) : MW G Y_L_disputes [.ref 436, .ref 0, .int p2] (I, L, RT b d t, 457) (fun v9 u9 => ∃ (I9 : TI) (L9 : TL), v9 = none ∧ u9 = (I9, L9, RT b d t, 457) ∧ Q I9 L9) (fun _ _ => False) := by
  unfold W_L_disputes at h
  refine MW.intro rfl (by decide) is_L_disputes (Nat.le_of_ble_eq_true rfl) ?_
  show V G Y_L_disputes 0 [(0, .ref 436), (1, .ref 0), (2, .int p2)] [] (I, L, RT b d t, 457) 0 0 _ _
  refine v_aload_n (pc' := 1) 0 0 rfl rfl rfl rfl ?_
  refine v_getI (pc' := 4) 1 rfl rfl pf_L_40 ly_436 (lay_lt ly_436 (by decide)) ?_
  refine v_iload_n (pc' := 5) 2 2 rfl rfl rfl rfl ?_
  refine v_aload_n (pc' := 6) 3 0 rfl rfl rfl rfl ?_
  refine v_getI (pc' := 9) 4 rfl rfl pf_L_43 ly_436 (lay_lt ly_436 (by decide)) ?_
  obtain ⟨hn1226, h⟩ := h
  refine v_irem (pc' := 10) 5 rfl rfl hn1226 ?_
  refine v_iadd (pc' := 11) 6 rfl rfl ?_
  refine nm_I (e := ((I 436 3) + (remI p2 (I 436 4)))) (fun x1227 hx1227 => ?_)
  replace h := h x1227 hx1227
  refine v_istore_n (ls' := [(3, .int x1227), (0, .ref 436), (1, .ref 0), (2, .int p2)]) (pc' := 12) 7 rfl rfl rfl (by decide) rfl ?_
  refine v_aload_n (pc' := 13) 8 2 rfl rfl rfl rfl ?_
  refine v_iload_n (pc' := 14) 9 0 rfl rfl rfl rfl ?_
  refine v_bipush (v := 9) (pc' := 16) 10 rfl rfl (by decide) ?_
  refine v_cV (Y2 := Y_X8_gate) (As := [.int x1227, .int 9]) (b := 0) (pc' := 19) (c1 := 0) (s1 := 0) 11 rfl rfl mf_X8_gate rfl rfl ml_L_110 mi_X8_gate se_X8_gate (ci := 7) rfl ly_0 (lay_lt ly_0 (by decide)) rfl (Nat.le_of_ble_eq_true rfl) ⟨Nat.le_of_ble_eq_true rfl, Nat.le_of_ble_eq_true rfl⟩ rfl rfl (ok_X8_gate x1227 (9 : Int32) I L b d hb hd h (fun _ q9 => hX _ _ _ q9)) ?_ ?_
  · intro e9 u9 hx9
    exact hx9.elim
  intro v9 u9 hv9
  obtain ⟨r1228, rfl, rfl, h⟩ := hv9
  refine ⟨fun q => absurd q (Nat.lt_irrefl _), ?_⟩
  show V G Y_L_disputes 19 _ (.int r1228 :: _) _ _ _ _ _
  refine v_istore (ls' := [(4, .int r1228), (3, .int x1227), (0, .ref 436), (1, .ref 0), (2, .int p2)]) (pc' := 21) 12 rfl rfl (by decide) rfl ?_
  refine v_iload (pc' := 23) 13 0 rfl rfl rfl ?_
  refine v_if_ne (tgt := 27) (pc' := 26) 14 rfl rfl (by decide) (fun hc => ?_) (fun hc => ?_)
  · replace h := h.1 hc
    refine v_aload_n (pc' := 28) 16 3 rfl rfl rfl rfl ?_
    refine v_iload_n (pc' := 29) 17 4 rfl rfl rfl rfl ?_
    refine v_bipush (v := 12) (pc' := 31) 18 rfl rfl (by decide) ?_
    refine v_idiv (pc' := 32) 19 rfl rfl (by decide) ?_
    refine v_iconst (v := 2) (pc' := 33) 20 rfl rfl (by decide) ?_
    refine v_irem (pc' := 34) 21 rfl rfl (by decide) ?_
    refine v_iload_n (pc' := 35) 22 1 rfl rfl rfl rfl ?_
    refine v_iload_n (pc' := 36) 23 4 rfl rfl rfl rfl ?_
    refine v_bipush (v := 24) (pc' := 38) 24 rfl rfl (by decide) ?_
    refine v_idiv (pc' := 39) 25 rfl rfl (by decide) ?_
    refine v_iload (pc' := 41) 26 0 rfl rfl rfl ?_
    obtain ⟨hn1229, h⟩ := h
    refine v_irem (pc' := 42) 27 rfl rfl hn1229 ?_
    refine v_iload_n (pc' := 43) 28 4 rfl rfl rfl rfl ?_
    refine v_bipush (v := 48) (pc' := 45) 29 rfl rfl (by decide) ?_
    refine v_idiv (pc' := 46) 30 rfl rfl (by decide) ?_
    refine v_iconst (v := 2) (pc' := 47) 31 rfl rfl (by decide) ?_
    refine v_irem (pc' := 48) 32 rfl rfl (by decide) ?_
    refine v_if_ne (tgt := 55) (pc' := 51) 33 rfl rfl (by decide) (fun hc => ?_) (fun hc => ?_)
    · replace h := h.1 hc
      refine v_iconst (v := 0) (pc' := 56) 36 rfl rfl (by decide) ?_
      refine V.sub [3, 4] rfl ?_
      exact b_L_disputes_56 p2 (remI (p2 / (12 : Int32)) (2 : Int32)) x1227 (remI (p2 / (24 : Int32)) r1228) (0 : Int32) I L b d hb hd Q QX hX h
    replace h := h.2 hc
    refine v_iconst (v := 1) (pc' := 52) 34 rfl rfl (by decide) ?_
    refine v_goto (tgt := 56) 35 rfl (by decide) ?_
    refine V.sub [3, 4] rfl ?_
    exact b_L_disputes_56 p2 (remI (p2 / (12 : Int32)) (2 : Int32)) x1227 (remI (p2 / (24 : Int32)) r1228) (1 : Int32) I L b d hb hd Q QX hX h
  replace h := h.2 hc
  exact v_vret 15 rfl rfl (by decide) (by decide) ⟨_, _, rfl, rfl, h⟩
set_option maxHeartbeats 4000000 in
set_option maxRecDepth 100000 in
theorem ok_L_net {G : GT} {b d t : Nat} (p1 : Int32) (I : TI) (L : TL)  {Q : Int32 → Prop} (h : W_L_net p1 I L Q) : MW G Y_L_net [.ref 436, .int p1] (I, L, RT b d t, 457) (fun v9 u9 => ∃ (r9 : Int32), v9 = some (.int r9) ∧ u9 = (I, L, RT b d t, 457) ∧ Q r9) (fun _ _ => False) := by
  unfold W_L_net at h
  refine MW.intro rfl (by decide) is_L_net (Nat.le_of_ble_eq_true rfl) ?_
  show V G Y_L_net 0 [(0, .ref 436), (1, .int p1)] [] (I, L, RT b d t, 457) 0 0 _ _
  refine v_aload_n (pc' := 1) 0 0 rfl rfl rfl rfl ?_
  refine v_getI (pc' := 4) 1 rfl rfl pf_L_40 ly_436 (lay_lt ly_436 (by decide)) ?_
  refine v_iload_n (pc' := 5) 2 1 rfl rfl rfl rfl ?_
  refine v_aload_n (pc' := 6) 3 0 rfl rfl rfl rfl ?_
  refine v_getI (pc' := 9) 4 rfl rfl pf_L_43 ly_436 (lay_lt ly_436 (by decide)) ?_
  obtain ⟨hn1231, h⟩ := h
  refine v_irem (pc' := 10) 5 rfl rfl hn1231 ?_
  refine v_iadd (pc' := 11) 6 rfl rfl ?_
  exact v_iret 7 rfl rfl (by decide) (by decide) ⟨_, rfl, rfl, h⟩
set_option maxHeartbeats 4000000 in
set_option maxRecDepth 100000 in
theorem ok_L_purses {G : GT} {t : Nat} (I : TI) (L : TL) (b : Nat) (d : Nat) (hb : bnOK b) (hd : bnOK d) {Q : Int32 → Prop} {QX : String → Prop} (h : W_L_purses I L b d Q QX) (hX : ∀ (e9 : String), QX e9 → False) : MW G Y_L_purses [.ref 0] (I, L, RT b d t, 457) (fun v9 u9 => ∃ (r9 : Int32), v9 = some (.int r9) ∧ u9 = (I, L, RT b d t, 457) ∧ Q r9) (fun _ _ => False) := by
  unfold W_L_purses at h
  refine MW.intro rfl (by decide) is_L_purses (Nat.le_of_ble_eq_true rfl) ?_
  show V G Y_L_purses 0 [(0, .ref 0)] [] (I, L, RT b d t, 457) 0 0 _ _
  refine v_aload_n (pc' := 1) 0 0 rfl rfl rfl rfl ?_
  refine v_bipush (v := 7) (pc' := 3) 1 rfl rfl (by decide) ?_
  refine v_cV (Y2 := Y_X8_size) (As := [.int 7]) (b := 0) (pc' := 6) (c1 := 0) (s1 := 0) 2 rfl rfl mf_X8_size rfl rfl ml_L_105 mi_X8_size se_X8_size (ci := 7) rfl ly_0 (lay_lt ly_0 (by decide)) rfl (Nat.le_of_ble_eq_true rfl) ⟨Nat.le_of_ble_eq_true rfl, Nat.le_of_ble_eq_true rfl⟩ rfl rfl (ok_X8_size (7 : Int32) I L b d hb hd h (fun _ q9 => hX _ q9)) ?_ ?_
  · intro e9 u9 hx9
    exact hx9.elim
  intro v9 u9 hv9
  obtain ⟨r1235, rfl, rfl, h⟩ := hv9
  refine ⟨fun q => absurd q (Nat.lt_irrefl _), ?_⟩
  show V G Y_L_purses 6 _ (.int r1235 :: _) _ _ _ _ _
  refine v_aload_n (pc' := 7) 3 0 rfl rfl rfl rfl ?_
  refine v_bipush (v := 8) (pc' := 9) 4 rfl rfl (by decide) ?_
  refine v_cV (Y2 := Y_X8_size) (As := [.int 8]) (b := 0) (pc' := 12) (c1 := 0) (s1 := 0) 5 rfl rfl mf_X8_size rfl rfl ml_L_105 mi_X8_size se_X8_size (ci := 7) rfl ly_0 (lay_lt ly_0 (by decide)) rfl (Nat.le_of_ble_eq_true rfl) ⟨Nat.le_of_ble_eq_true rfl, Nat.le_of_ble_eq_true rfl⟩ rfl rfl (ok_X8_size (8 : Int32) I L b d hb hd h (fun _ q9 => hX _ q9)) ?_ ?_
  · intro e9 u9 hx9
    exact hx9.elim
  intro v9 u9 hv9
  obtain ⟨r1236, rfl, rfl, h⟩ := hv9
  refine ⟨fun q => absurd q (Nat.lt_irrefl _), ?_⟩
  show V G Y_L_purses 12 _ (.int r1236 :: _) _ _ _ _ _
  refine v_iadd (pc' := 13) 6 rfl rfl ?_
  refine v_aload_n (pc' := 14) 7 0 rfl rfl rfl rfl ?_
  refine v_bipush (v := 9) (pc' := 16) 8 rfl rfl (by decide) ?_
  refine v_cV (Y2 := Y_X8_size) (As := [.int 9]) (b := 0) (pc' := 19) (c1 := 0) (s1 := 0) 9 rfl rfl mf_X8_size rfl rfl ml_L_105 mi_X8_size se_X8_size (ci := 7) rfl ly_0 (lay_lt ly_0 (by decide)) rfl (Nat.le_of_ble_eq_true rfl) ⟨Nat.le_of_ble_eq_true rfl, Nat.le_of_ble_eq_true rfl⟩ rfl rfl (ok_X8_size (9 : Int32) I L b d hb hd h (fun _ q9 => hX _ q9)) ?_ ?_
  · intro e9 u9 hx9
    exact hx9.elim
  intro v9 u9 hv9
  obtain ⟨r1237, rfl, rfl, h⟩ := hv9
  refine ⟨fun q => absurd q (Nat.lt_irrefl _), ?_⟩
  show V G Y_L_purses 19 _ (.int r1237 :: _) _ _ _ _ _
  refine v_iadd (pc' := 20) 10 rfl rfl ?_
  exact v_iret 11 rfl rfl (by decide) (by decide) ⟨_, rfl, rfl, h⟩
set_option maxHeartbeats 4000000 in
set_option maxRecDepth 100000 in
theorem ok_L_acts {G : GT} {t : Nat} (p2 : Int32) (I : TI) (L : TL) (b : Nat) (d : Nat) (hb : bnOK b) (hd : bnOK d) {Q : Int32 → TI → TL → Prop} {QX : String → TI → TL → Prop} (h : W_L_acts p2 I L b d Q QX) (hX : ∀ (e9 : String) (I9 : TI) (L9 : TL), QX e9 I9 L9 → False) : MW G Y_L_acts [.ref 436, .ref 0, .int p2] (I, L, RT b d t, 457) (fun v9 u9 => ∃ (r9 : Int32) (I9 : TI) (L9 : TL), v9 = some (.int r9) ∧ u9 = (I9, L9, RT b d t, 457) ∧ Q r9 I9 L9) (fun _ _ => False) := by
  unfold W_L_acts at h
  refine MW.intro rfl (by decide) is_L_acts (Nat.le_of_ble_eq_true rfl) ?_
  show V G Y_L_acts 0 [(0, .ref 436), (1, .ref 0), (2, .int p2)] [] (I, L, RT b d t, 457) 0 0 _ _
  refine v_iload_n (pc' := 1) 0 2 rfl rfl rfl rfl ?_
  refine v_bipush (v := 6) (pc' := 3) 1 rfl rfl (by decide) ?_
  refine v_idiv (pc' := 4) 2 rfl rfl (by decide) ?_
  refine v_istore_n (ls' := [(3, .int (p2 / (6 : Int32))), (0, .ref 436), (1, .ref 0), (2, .int p2)]) (pc' := 5) 3 rfl rfl rfl (by decide) rfl ?_
  refine v_iload_n (pc' := 6) 4 3 rfl rfl rfl rfl ?_
  refine v_bipush (v := 6) (pc' := 8) 5 rfl rfl (by decide) ?_
  refine v_irem (pc' := 9) 6 rfl rfl (by decide) ?_
  refine v_ts (clo := 0) (chi := 3) (dt := 194) 7 4 [40, 116, 144, 171] rfl (by decide) (by decide) (by decide) (by decide) (by decide) ?_ (fun hc => ?_)
  · intro j9 t9 ht9 hj9 hx9
    match j9, ht9, hj9, hx9 with
    | 0, ht9, hj9, hx9 =>
      cases ht9
      replace hx9 := hx9.trans (show Int32.ofInt _ = (0 : Int32) by decide)
      replace h := h.1 hx9
      refine v_iload_n (pc' := 41) 8 0 rfl rfl rfl rfl ?_
      refine v_aload_n (pc' := 42) 9 1 rfl rfl rfl rfl ?_
      refine v_getI (pc' := 45) 10 rfl rfl pf_L_74 ly_436 (lay_lt ly_436 (by decide)) ?_
      refine v_iconst (v := 1) (pc' := 46) 11 rfl rfl (by decide) ?_
      refine v_iadd (pc' := 47) 12 rfl rfl ?_
      obtain ⟨hn1260, h⟩ := h
      refine v_irem (pc' := 48) 13 rfl rfl hn1260 ?_
      refine nm_I (e := (remI (p2 / (6 : Int32)) ((I 436 2) + 1))) (fun x1261 hx1261 => ?_)
      replace h := h x1261 hx1261
      refine v_istore (ls' := [(4, .int x1261), (3, .int (p2 / (6 : Int32))), (0, .ref 436), (1, .ref 0), (2, .int p2)]) (pc' := 50) 14 rfl rfl (by decide) rfl ?_
      refine v_iload (pc' := 52) 15 0 rfl rfl rfl ?_
      refine v_iload_n (pc' := 53) 16 1 rfl rfl rfl rfl ?_
      refine v_bipush (v := 64) (pc' := 55) 17 rfl rfl (by decide) ?_
      refine v_idiv (pc' := 56) 18 rfl rfl (by decide) ?_
      refine v_aload_n (pc' := 57) 19 2 rfl rfl rfl rfl ?_
      refine v_getI (pc' := 60) 20 rfl rfl pf_L_74 ly_436 (lay_lt ly_436 (by decide)) ?_
      refine v_iconst (v := 1) (pc' := 61) 21 rfl rfl (by decide) ?_
      refine v_iadd (pc' := 62) 22 rfl rfl ?_
      refine v_iload (pc' := 64) 23 0 rfl rfl rfl ?_
      refine v_isub (pc' := 65) 24 rfl rfl ?_
      obtain ⟨hn1262, h⟩ := h
      refine v_irem (pc' := 66) 25 rfl rfl hn1262 ?_
      refine v_iadd (pc' := 67) 26 rfl rfl ?_
      refine nm_I (e := (x1261 + (remI ((p2 / (6 : Int32)) / (64 : Int32)) (((I 436 2) + 1) - x1261)))) (fun x1263 hx1263 => ?_)
      replace h := h x1263 hx1263
      refine v_istore (ls' := [(5, .int x1263), (4, .int x1261), (3, .int (p2 / (6 : Int32))), (0, .ref 436), (1, .ref 0), (2, .int p2)]) (pc' := 69) 27 rfl rfl (by decide) rfl ?_
      refine v_aload_n (pc' := 70) 28 4 rfl rfl rfl rfl ?_
      refine v_aload_n (pc' := 71) 29 3 rfl rfl rfl rfl ?_
      refine v_iload_n (pc' := 72) 30 2 rfl rfl rfl rfl ?_
      refine v_sipush (v := 4096) (pc' := 75) 31 rfl rfl (by decide) ?_
      refine v_idiv (pc' := 76) 32 rfl rfl (by decide) ?_
      refine v_cV (Y2 := Y_L_net) (As := [.int ((p2 / (6 : Int32)) / (4096 : Int32))]) (b := 436) (pc' := 79) (c1 := 0) (s1 := 0) 33 rfl rfl mf_L_net rfl rfl ml_L_145 mi_L_net se_L_net (ci := 8) rfl ly_436 (lay_lt ly_436 (by decide)) rfl (Nat.le_of_ble_eq_true rfl) ⟨Nat.le_of_ble_eq_true rfl, Nat.le_of_ble_eq_true rfl⟩ rfl rfl (ok_L_net ((p2 / (6 : Int32)) / (4096 : Int32)) I L h) ?_ ?_
      · intro e9 u9 hx9
        exact hx9.elim
      intro v9 u9 hv9
      obtain ⟨r1264, rfl, rfl, h⟩ := hv9
      refine ⟨fun q => absurd q (Nat.lt_irrefl _), ?_⟩
      show V G Y_L_acts 79 _ (.int r1264 :: _) _ _ _ _ _
      refine v_iload (pc' := 81) 34 1 rfl rfl rfl ?_
      refine v_iload (pc' := 83) 35 0 rfl rfl rfl ?_
      refine v_cV (Y2 := Y_X8_cost) (As := [.int r1264, .int x1261, .int x1263]) (b := 0) (pc' := 86) (c1 := 0) (s1 := 0) 36 rfl rfl mf_X8_cost rfl rfl ml_L_148 mi_X8_cost se_X8_cost (ci := 7) rfl ly_0 (lay_lt ly_0 (by decide)) rfl (Nat.le_of_ble_eq_true rfl) ⟨Nat.le_of_ble_eq_true rfl, Nat.le_of_ble_eq_true rfl⟩ rfl rfl (ok_X8_cost r1264 x1261 x1263 I L b d hb hd h (fun _ q9 => hX _ _ _ q9)) ?_ ?_
      · intro e9 u9 hx9
        exact hx9.elim
      intro v9 u9 hv9
      obtain ⟨r1265, rfl, rfl, h⟩ := hv9
      refine ⟨fun q => absurd q (Nat.lt_irrefl _), ?_⟩
      show V G Y_L_acts 86 _ (.int r1265 :: _) _ _ _ _ _
      refine v_istore (ls' := [(6, .int r1265), (5, .int x1263), (4, .int x1261), (3, .int (p2 / (6 : Int32))), (0, .ref 436), (1, .ref 0), (2, .int p2)]) (pc' := 88) 37 rfl rfl (by decide) rfl ?_
      refine v_aload_n (pc' := 89) 38 5 rfl rfl rfl rfl ?_
      refine v_aload_n (pc' := 90) 39 4 rfl rfl rfl rfl ?_
      refine v_iload_n (pc' := 91) 40 3 rfl rfl rfl rfl ?_
      refine v_sipush (v := 4096) (pc' := 94) 41 rfl rfl (by decide) ?_
      refine v_idiv (pc' := 95) 42 rfl rfl (by decide) ?_
      refine v_cV (Y2 := Y_L_net) (As := [.int ((p2 / (6 : Int32)) / (4096 : Int32))]) (b := 436) (pc' := 98) (c1 := 0) (s1 := 0) 43 rfl rfl mf_L_net rfl rfl ml_L_145 mi_L_net se_L_net (ci := 8) rfl ly_436 (lay_lt ly_436 (by decide)) rfl (Nat.le_of_ble_eq_true rfl) ⟨Nat.le_of_ble_eq_true rfl, Nat.le_of_ble_eq_true rfl⟩ rfl rfl (ok_L_net ((p2 / (6 : Int32)) / (4096 : Int32)) I L h) ?_ ?_
      · intro e9 u9 hx9
        exact hx9.elim
      intro v9 u9 hv9
      obtain ⟨r1266, rfl, rfl, h⟩ := hv9
      refine ⟨fun q => absurd q (Nat.lt_irrefl _), ?_⟩
      show V G Y_L_acts 98 _ (.int r1266 :: _) _ _ _ _ _
      refine v_iload (pc' := 100) 44 2 rfl rfl rfl ?_
      refine v_iload (pc' := 102) 45 1 rfl rfl rfl ?_
      refine v_cV (Y2 := Y_X8_replay) (As := [.int r1266, .int x1261, .int x1263]) (b := 0) (pc' := 105) (c1 := 0) (s1 := 0) 46 rfl rfl mf_X8_replay rfl rfl ml_L_152 mi_X8_replay se_X8_replay (ci := 7) rfl ly_0 (lay_lt ly_0 (by decide)) rfl (Nat.le_of_ble_eq_true rfl) ⟨Nat.le_of_ble_eq_true rfl, Nat.le_of_ble_eq_true rfl⟩ rfl rfl (ok_X8_replay r1266 x1261 x1263 I L b d hb hd h (fun _ _ _ q9 => hX _ _ _ q9)) ?_ ?_
      · intro e9 u9 hx9
        exact hx9.elim
      intro v9 u9 hv9
      obtain ⟨r1267, I1268, L1269, rfl, rfl, h⟩ := hv9
      refine ⟨fun q => absurd q (Nat.lt_irrefl _), ?_⟩
      show V G Y_L_acts 105 _ (.int r1267 :: _) _ _ _ _ _
      refine v_if_ge (tgt := 112) (pc' := 108) 47 rfl rfl (by decide) (fun hc => ?_) (fun hc => ?_)
      · replace h := h.1 hc
        refine v_iload (pc' := 114) 50 0 rfl rfl rfl ?_
        refine v_ineg (pc' := 115) 51 rfl rfl ?_
        exact v_iret 52 rfl rfl (by decide) (by decide) ⟨_, _, _, rfl, rfl, h⟩
      replace h := h.2 hc
      refine v_iconst (v := 0) (pc' := 109) 48 rfl rfl (by decide) ?_
      refine v_goto (tgt := 115) 49 rfl (by decide) ?_
      exact v_iret 52 rfl rfl (by decide) (by decide) ⟨_, _, _, rfl, rfl, h⟩
    | 1, ht9, hj9, hx9 =>
      cases ht9
      replace hx9 := hx9.trans (show Int32.ofInt _ = (1 : Int32) by decide)
      replace h := h.2.1 hx9
      refine v_iload_n (pc' := 117) 53 0 rfl rfl rfl rfl ?_
      refine v_iconst (v := 3) (pc' := 118) 54 rfl rfl (by decide) ?_
      refine v_idiv (pc' := 119) 55 rfl rfl (by decide) ?_
      refine v_sipush (v := 200) (pc' := 122) 56 rfl rfl (by decide) ?_
      refine v_irem (pc' := 123) 57 rfl rfl (by decide) ?_
      refine nm_I (e := (remI ((p2 / (6 : Int32)) / (3 : Int32)) (200 : Int32))) (fun x1270 hx1270 => ?_)
      replace h := h x1270 hx1270
      refine v_istore (ls' := [(4, .int x1270), (3, .int (p2 / (6 : Int32))), (0, .ref 436), (1, .ref 0), (2, .int p2)]) (pc' := 125) 58 rfl rfl (by decide) rfl ?_
      refine v_aload_n (pc' := 126) 59 3 rfl rfl rfl rfl ?_
      refine v_iload_n (pc' := 127) 60 1 rfl rfl rfl rfl ?_
      refine v_iconst (v := 3) (pc' := 128) 61 rfl rfl (by decide) ?_
      refine v_irem (pc' := 129) 62 rfl rfl (by decide) ?_
      refine v_iload (pc' := 131) 63 0 rfl rfl rfl ?_
      refine v_cV (Y2 := Y_X8_deposit) (As := [.int (remI (p2 / (6 : Int32)) (3 : Int32)), .int x1270]) (b := 0) (pc' := 134) (c1 := 0) (s1 := 0) 64 rfl rfl mf_X8_deposit rfl rfl ml_L_155 mi_X8_deposit se_X8_deposit (ci := 7) rfl ly_0 (lay_lt ly_0 (by decide)) rfl (Nat.le_of_ble_eq_true rfl) ⟨Nat.le_of_ble_eq_true rfl, Nat.le_of_ble_eq_true rfl⟩ rfl rfl (ok_X8_deposit (remI (p2 / (6 : Int32)) (3 : Int32)) x1270 I L b d hb hd h (fun _ _ _ q9 => hX _ _ _ q9)) ?_ ?_
      · intro e9 u9 hx9
        exact hx9.elim
      intro v9 u9 hv9
      obtain ⟨r1271, I1272, L1273, rfl, rfl, h⟩ := hv9
      refine ⟨fun q => absurd q (Nat.lt_irrefl _), ?_⟩
      show V G Y_L_acts 134 _ (.int r1271 :: _) _ _ _ _ _
      refine v_if_ge (tgt := 141) (pc' := 137) 65 rfl rfl (by decide) (fun hc => ?_) (fun hc => ?_)
      · replace h := h.1 hc
        refine v_iload (pc' := 143) 68 0 rfl rfl rfl ?_
        exact v_iret 69 rfl rfl (by decide) (by decide) ⟨_, _, _, rfl, rfl, h⟩
      replace h := h.2 hc
      refine v_iconst (v := 0) (pc' := 138) 66 rfl rfl (by decide) ?_
      refine v_goto (tgt := 143) 67 rfl (by decide) ?_
      exact v_iret 69 rfl rfl (by decide) (by decide) ⟨_, _, _, rfl, rfl, h⟩
    | 2, ht9, hj9, hx9 =>
      cases ht9
      replace hx9 := hx9.trans (show Int32.ofInt _ = (2 : Int32) by decide)
      replace h := h.2.2.1 hx9
      refine v_aload_n (pc' := 145) 70 2 rfl rfl rfl rfl ?_
      refine v_aload_n (pc' := 146) 71 1 rfl rfl rfl rfl ?_
      refine v_iload_n (pc' := 147) 72 0 rfl rfl rfl rfl ?_
      refine v_cV (Y2 := Y_L_net) (As := [.int (p2 / (6 : Int32))]) (b := 436) (pc' := 150) (c1 := 0) (s1 := 0) 73 rfl rfl mf_L_net rfl rfl ml_L_145 mi_L_net se_L_net (ci := 8) rfl ly_436 (lay_lt ly_436 (by decide)) rfl (Nat.le_of_ble_eq_true rfl) ⟨Nat.le_of_ble_eq_true rfl, Nat.le_of_ble_eq_true rfl⟩ rfl rfl (ok_L_net (p2 / (6 : Int32)) I L h) ?_ ?_
      · intro e9 u9 hx9
        exact hx9.elim
      intro v9 u9 hv9
      obtain ⟨r1274, rfl, rfl, h⟩ := hv9
      refine ⟨fun q => absurd q (Nat.lt_irrefl _), ?_⟩
      show V G Y_L_acts 150 _ (.int r1274 :: _) _ _ _ _ _
      refine v_iload_n (pc' := 151) 74 0 rfl rfl rfl rfl ?_
      refine v_bipush (v := 8) (pc' := 153) 75 rfl rfl (by decide) ?_
      refine v_idiv (pc' := 154) 76 rfl rfl (by decide) ?_
      refine v_iconst (v := 3) (pc' := 155) 77 rfl rfl (by decide) ?_
      refine v_irem (pc' := 156) 78 rfl rfl (by decide) ?_
      refine v_iconst (v := 1) (pc' := 157) 79 rfl rfl (by decide) ?_
      refine v_iload_n (pc' := 158) 80 0 rfl rfl rfl rfl ?_
      refine v_bipush (v := 24) (pc' := 160) 81 rfl rfl (by decide) ?_
      refine v_idiv (pc' := 161) 82 rfl rfl (by decide) ?_
      refine v_bipush (v := 9) (pc' := 163) 83 rfl rfl (by decide) ?_
      refine v_irem (pc' := 164) 84 rfl rfl (by decide) ?_
      refine v_iadd (pc' := 165) 85 rfl rfl ?_
      refine v_cV (Y2 := Y_X8_setDelay) (As := [.int r1274, .int (remI ((p2 / (6 : Int32)) / (8 : Int32)) (3 : Int32)), .int ((1 : Int32) + (remI ((p2 / (6 : Int32)) / (24 : Int32)) (9 : Int32)))]) (b := 0) (pc' := 168) (c1 := 0) (s1 := 0) 86 rfl rfl mf_X8_setDelay rfl rfl ml_L_158 mi_X8_setDelay se_X8_setDelay (ci := 7) rfl ly_0 (lay_lt ly_0 (by decide)) rfl (Nat.le_of_ble_eq_true rfl) ⟨Nat.le_of_ble_eq_true rfl, Nat.le_of_ble_eq_true rfl⟩ rfl rfl (ok_X8_setDelay r1274 (remI ((p2 / (6 : Int32)) / (8 : Int32)) (3 : Int32)) ((1 : Int32) + (remI ((p2 / (6 : Int32)) / (24 : Int32)) (9 : Int32))) I L b d hb hd h (fun _ _ _ q9 => hX _ _ _ q9)) ?_ ?_
      · intro e9 u9 hx9
        exact hx9.elim
      intro v9 u9 hv9
      obtain ⟨r1275, I1276, L1277, rfl, rfl, h⟩ := hv9
      refine ⟨fun q => absurd q (Nat.lt_irrefl _), ?_⟩
      show V G Y_L_acts 168 _ (.int r1275 :: _) _ _ _ _ _
      refine v_pop (pc' := 169) 87 rfl rfl rfl ?_
      refine v_iconst (v := 0) (pc' := 170) 88 rfl rfl (by decide) ?_
      exact v_iret 89 rfl rfl (by decide) (by decide) ⟨_, _, _, rfl, rfl, h⟩
    | 3, ht9, hj9, hx9 =>
      cases ht9
      replace hx9 := hx9.trans (show Int32.ofInt _ = (3 : Int32) by decide)
      replace h := h.2.2.2.1 hx9
      refine v_aload_n (pc' := 172) 90 2 rfl rfl rfl rfl ?_
      refine v_iload_n (pc' := 173) 91 0 rfl rfl rfl rfl ?_
      refine v_aload_n (pc' := 174) 92 1 rfl rfl rfl rfl ?_
      refine v_getI (pc' := 177) 93 rfl rfl pf_L_40 ly_436 (lay_lt ly_436 (by decide)) ?_
      obtain ⟨hn1278, h⟩ := h
      refine v_irem (pc' := 178) 94 rfl rfl hn1278 ?_
      refine v_iload_n (pc' := 179) 95 0 rfl rfl rfl rfl ?_
      refine v_iconst (v := 4) (pc' := 180) 96 rfl rfl (by decide) ?_
      refine v_idiv (pc' := 181) 97 rfl rfl (by decide) ?_
      refine v_aload_n (pc' := 182) 98 1 rfl rfl rfl rfl ?_
      refine v_getI (pc' := 185) 99 rfl rfl pf_L_74 ly_436 (lay_lt ly_436 (by decide)) ?_
      refine v_iconst (v := 1) (pc' := 186) 100 rfl rfl (by decide) ?_
      refine v_iadd (pc' := 187) 101 rfl rfl ?_
      obtain ⟨hn1279, h⟩ := h
      refine v_irem (pc' := 188) 102 rfl rfl hn1279 ?_
      refine v_cV (Y2 := Y_X8_toggle) (As := [.int (remI (p2 / (6 : Int32)) (I 436 3)), .int (remI ((p2 / (6 : Int32)) / (4 : Int32)) ((I 436 2) + 1))]) (b := 0) (pc' := 191) (c1 := 0) (s1 := 0) 103 rfl rfl mf_X8_toggle rfl rfl ml_L_161 mi_X8_toggle se_X8_toggle (ci := 7) rfl ly_0 (lay_lt ly_0 (by decide)) rfl (Nat.le_of_ble_eq_true rfl) ⟨Nat.le_of_ble_eq_true rfl, Nat.le_of_ble_eq_true rfl⟩ rfl rfl (ok_X8_toggle (remI (p2 / (6 : Int32)) (I 436 3)) (remI ((p2 / (6 : Int32)) / (4 : Int32)) ((I 436 2) + 1)) I L b d hb hd h (fun _ _ _ q9 => hX _ _ _ q9)) ?_ ?_
      · intro e9 u9 hx9
        exact hx9.elim
      intro v9 u9 hv9
      obtain ⟨r1280, I1281, L1282, rfl, rfl, h⟩ := hv9
      refine ⟨fun q => absurd q (Nat.lt_irrefl _), ?_⟩
      show V G Y_L_acts 191 _ (.int r1280 :: _) _ _ _ _ _
      refine v_pop (pc' := 192) 104 rfl rfl rfl ?_
      refine v_iconst (v := 0) (pc' := 193) 105 rfl rfl (by decide) ?_
      exact v_iret 106 rfl rfl (by decide) (by decide) ⟨_, _, _, rfl, rfl, h⟩
    | q9 + 4, ht9, hj9, hx9 => exact absurd hj9 (by omega)
  replace h := h.2.2.2.2 hc
  refine v_aload_n (pc' := 195) 107 1 rfl rfl rfl rfl ?_
  refine v_aload_n (pc' := 196) 108 2 rfl rfl rfl rfl ?_
  refine v_iload_n (pc' := 197) 109 0 rfl rfl rfl rfl ?_
  refine v_cV (Y2 := Y_L_disputes) (As := [.ref 0, .int (p2 / (6 : Int32))]) (b := 436) (pc' := 200) (c1 := 0) (s1 := 0) 110 rfl rfl mf_L_disputes rfl rfl ml_L_164 mi_L_disputes se_L_disputes (ci := 8) rfl ly_436 (lay_lt ly_436 (by decide)) rfl (Nat.le_of_ble_eq_true rfl) ⟨Nat.le_of_ble_eq_true rfl, Nat.le_of_ble_eq_true rfl⟩ rfl rfl (ok_L_disputes (p2 / (6 : Int32)) I L b d hb hd h (fun _ _ _ q9 => hX _ _ _ q9)) ?_ ?_
  · intro e9 u9 hx9
    exact hx9.elim
  intro v9 u9 hv9
  obtain ⟨I1283, L1284, rfl, rfl, h⟩ := hv9
  refine ⟨fun q => absurd q (Nat.lt_irrefl _), ?_⟩
  show V G Y_L_acts 200 _ _ _ _ _ _ _
  refine v_iconst (v := 0) (pc' := 201) 111 rfl rfl (by decide) ?_
  exact v_iret 112 rfl rfl (by decide) (by decide) ⟨_, _, _, rfl, rfl, h⟩
set_option maxHeartbeats 4000000 in
set_option maxRecDepth 100000 in
theorem b_L_isShown_157 {G : GT} {t : Nat} (v2 : Int32) (v3 : Int64) (v8 : Int32) (v9 : Int32) (s0 : Int32) (I : TI) (L : TL) (b : Nat) (d : Nat) (hb : bnOK b) (hd : bnOK d) (Q : Int32 → Prop) (QX : String → Prop) (R111 : Int32 → Int32 → Prop) (hX : ∀ (e9 : String), QX e9 → False) (hR111 : ∀ (v7 : Int32) (v9 : Int32), R111 v7 v9 → V G Y_L_isShown 111 [(1, .ref 0), (2, .int v2), (3, .long v3), (7, .int v7), (8, .int v8), (9, .int v9)] [] (I, L, RT b d t, 457) 0 0 (fun v9 u9 => ∃ (r9 : Int32), v9 = some (.int r9) ∧ u9 = (I, L, RT b d t, 457) ∧ Q r9) (fun _ _ => False)) (h : B_L_isShown_157 v2 v3 v8 v9 s0 I L b d Q QX R111) : V G Y_L_isShown 157 [(1, .ref 0), (2, .int v2), (3, .long v3), (8, .int v8), (9, .int v9)] [.int s0] (I, L, RT b d t, 457) 0 0 (fun v9 u9 => ∃ (r9 : Int32), v9 = some (.int r9) ∧ u9 = (I, L, RT b d t, 457) ∧ Q r9) (fun _ _ => False) := by
  unfold B_L_isShown_157 at h
  refine v_istore (ls' := [(7, .int s0), (1, .ref 0), (2, .int v2), (3, .long v3), (8, .int v8), (9, .int v9)]) (pc' := 159) 90 rfl rfl (by decide) rfl ?_
  refine v_iinc (v := (v9 + 1)) (ls' := [(9, .int (v9 + 1)), (7, .int s0), (1, .ref 0), (2, .int v2), (3, .long v3), (8, .int v8)]) (pc' := 162) 91 5 rfl rfl rfl rfl (by decide) rfl ?_
  refine v_goto (tgt := 111) 92 rfl (by decide) ?_
  refine V.sub [2, 3, 4, 1, 5, 0] rfl ?_
  exact hR111 s0 (v9 + 1) h
set_option maxHeartbeats 4000000 in
set_option maxRecDepth 100000 in
theorem b_L_isShown_156 {G : GT} {t : Nat} (v2 : Int32) (v3 : Int64) (v8 : Int32) (v9 : Int32) (I : TI) (L : TL) (b : Nat) (d : Nat) (hb : bnOK b) (hd : bnOK d) (Q : Int32 → Prop) (QX : String → Prop) (R111 : Int32 → Int32 → Prop) (hX : ∀ (e9 : String), QX e9 → False) (hR111 : ∀ (v7 : Int32) (v9 : Int32), R111 v7 v9 → V G Y_L_isShown 111 [(1, .ref 0), (2, .int v2), (3, .long v3), (7, .int v7), (8, .int v8), (9, .int v9)] [] (I, L, RT b d t, 457) 0 0 (fun v9 u9 => ∃ (r9 : Int32), v9 = some (.int r9) ∧ u9 = (I, L, RT b d t, 457) ∧ Q r9) (fun _ _ => False)) (h : B_L_isShown_156 v2 v3 v8 v9 I L b d Q QX R111) : V G Y_L_isShown 156 [(1, .ref 0), (2, .int v2), (3, .long v3), (8, .int v8), (9, .int v9)] [] (I, L, RT b d t, 457) 0 0 (fun v9 u9 => ∃ (r9 : Int32), v9 = some (.int r9) ∧ u9 = (I, L, RT b d t, 457) ∧ Q r9) (fun _ _ => False) := by
  unfold B_L_isShown_156 at h
  refine v_iconst (v := 0) (pc' := 157) 89 rfl rfl (by decide) ?_
  exact b_L_isShown_157 v2 v3 v8 v9 (0 : Int32) I L b d hb hd Q QX R111 hX hR111 h
set_option maxHeartbeats 4000000 in
set_option maxRecDepth 100000 in
theorem b_L_isShown_152 {G : GT} {t : Nat} (v2 : Int32) (v3 : Int64) (v8 : Int32) (v9 : Int32) (I : TI) (L : TL) (b : Nat) (d : Nat) (hb : bnOK b) (hd : bnOK d) (Q : Int32 → Prop) (QX : String → Prop) (R111 : Int32 → Int32 → Prop) (hX : ∀ (e9 : String), QX e9 → False) (hR111 : ∀ (v7 : Int32) (v9 : Int32), R111 v7 v9 → V G Y_L_isShown 111 [(1, .ref 0), (2, .int v2), (3, .long v3), (7, .int v7), (8, .int v8), (9, .int v9)] [] (I, L, RT b d t, 457) 0 0 (fun v9 u9 => ∃ (r9 : Int32), v9 = some (.int r9) ∧ u9 = (I, L, RT b d t, 457) ∧ Q r9) (fun _ _ => False)) (h : B_L_isShown_152 v2 v3 v8 v9 I L b d Q QX R111) : V G Y_L_isShown 152 [(1, .ref 0), (2, .int v2), (3, .long v3), (8, .int v8), (9, .int v9)] [] (I, L, RT b d t, 457) 0 0 (fun v9 u9 => ∃ (r9 : Int32), v9 = some (.int r9) ∧ u9 = (I, L, RT b d t, 457) ∧ Q r9) (fun _ _ => False) := by
  unfold B_L_isShown_152 at h
  refine v_iconst (v := 1) (pc' := 153) 87 rfl rfl (by decide) ?_
  refine v_goto (tgt := 157) 88 rfl (by decide) ?_
  exact b_L_isShown_157 v2 v3 v8 v9 (1 : Int32) I L b d hb hd Q QX R111 hX hR111 h
set_option maxHeartbeats 4000000 in
set_option maxRecDepth 100000 in
theorem d_L_isShown_111 {G : GT} {t : Nat} (v2 : Int32) (v3 : Int64) (v8 : Int32) (I : TI) (L : TL) (b : Nat) (d : Nat) (hb : bnOK b) (hd : bnOK d) (Q : Int32 → Prop) (QX : String → Prop) (R111 : Int32 → Int32 → Prop) (hX : ∀ (e9 : String), QX e9 → False) (hR111 : ∀ (v7 : Int32) (v9 : Int32), R111 v7 v9 → V G Y_L_isShown 111 [(1, .ref 0), (2, .int v2), (3, .long v3), (7, .int v7), (8, .int v8), (9, .int v9)] [] (I, L, RT b d t, 457) 0 0 (fun v9 u9 => ∃ (r9 : Int32), v9 = some (.int r9) ∧ u9 = (I, L, RT b d t, 457) ∧ Q r9) (fun _ _ => False)) (v7 : Int32) (v9 : Int32)  (h : D_L_isShown_111 v2 v3 v8 I L b d Q QX R111 v7 v9) : V G Y_L_isShown 111 [(1, .ref 0), (2, .int v2), (3, .long v3), (7, .int v7), (8, .int v8), (9, .int v9)] [] (I, L, RT b d t, 457) 0 0 (fun v9 u9 => ∃ (r9 : Int32), v9 = some (.int r9) ∧ u9 = (I, L, RT b d t, 457) ∧ Q r9) (fun _ _ => False) := by
  unfold D_L_isShown_111 at h
  refine v_iload (pc' := 113) 66 5 rfl rfl rfl ?_
  refine v_iload_n (pc' := 114) 67 1 rfl rfl rfl rfl ?_
  refine v_icmp_gt (tgt := 165) (pc' := 117) 68 rfl rfl (by decide) (fun hc => ?_) (fun hc => ?_)
  · replace h := h.1 hc
    refine v_iload (pc' := 167) 93 3 rfl rfl rfl ?_
    refine v_if_eq (tgt := 181) (pc' := 170) 94 rfl rfl (by decide) (fun hc => ?_) (fun hc => ?_)
    · replace h := h.1 hc
      refine v_iconst (v := 1) (pc' := 182) 102 rfl rfl (by decide) ?_
      refine v_goto (tgt := 186) 103 rfl (by decide) ?_
      exact v_bret 105 rfl rfl (by decide) (by decide) (by decide) ⟨_, rfl, rfl, h⟩
    replace h := h.2 hc
    refine v_lload_n (pc' := 171) 95 2 rfl rfl rfl rfl ?_
    refine v_aload_n (pc' := 172) 96 0 rfl rfl rfl rfl ?_
    refine v_iload_n (pc' := 173) 97 1 rfl rfl rfl rfl ?_
    refine v_iconst (v := 1) (pc' := 174) 98 rfl rfl (by decide) ?_
    refine v_cV (Y2 := Y_X8_wave) (As := [.int v2, .int 1]) (b := 0) (pc' := 177) (c1 := 0) (s1 := 0) 99 rfl rfl mf_X8_wave rfl rfl ml_L_168 mi_X8_wave se_X8_wave (ci := 7) rfl ly_0 (lay_lt ly_0 (by decide)) rfl (Nat.le_of_ble_eq_true rfl) ⟨Nat.le_of_ble_eq_true rfl, Nat.le_of_ble_eq_true rfl⟩ rfl rfl (ok_X8_wave v2 (1 : Int32) I L b d hb hd h (fun _ q9 => hX _ q9)) ?_ ?_
    · intro e9 u9 hx9
      exact hx9.elim
    intro v9 u9 hv9
    obtain ⟨r1314, rfl, rfl, h⟩ := hv9
    refine ⟨fun q => absurd q (Nat.lt_irrefl _), ?_⟩
    show V G Y_L_isShown 177 _ (.long r1314 :: _) _ _ _ _ _
    refine v_lc_ne (tgt := 185) (pc' := 181) 100 101 rfl rfl rfl (by decide) (fun hc => ?_) (fun hc => ?_)
    · replace h := h.1 hc
      refine v_iconst (v := 0) (pc' := 186) 104 rfl rfl (by decide) ?_
      exact v_bret 105 rfl rfl (by decide) (by decide) (by decide) ⟨_, rfl, rfl, h⟩
    replace h := h.2 hc
    refine v_iconst (v := 1) (pc' := 182) 102 rfl rfl (by decide) ?_
    refine v_goto (tgt := 186) 103 rfl (by decide) ?_
    exact v_bret 105 rfl rfl (by decide) (by decide) (by decide) ⟨_, rfl, rfl, h⟩
  replace h := h.2 hc
  refine v_iload (pc' := 119) 69 3 rfl rfl rfl ?_
  refine v_if_eq (tgt := 156) (pc' := 122) 70 rfl rfl (by decide) (fun hc => ?_) (fun hc => ?_)
  · replace h := h.1 hc
    refine V.sub [0, 1, 2, 4, 5] rfl ?_
    exact b_L_isShown_156 v2 v3 v8 v9 I L b d hb hd Q QX R111 hX hR111 h
  replace h := h.2 hc
  refine v_iload (pc' := 124) 71 4 rfl rfl rfl ?_
  refine v_iload (pc' := 126) 72 5 rfl rfl rfl ?_
  refine v_ishr (pc' := 127) 73 rfl rfl ?_
  refine v_iconst (v := 1) (pc' := 128) 74 rfl rfl (by decide) ?_
  refine v_iand (pc' := 129) 75 rfl rfl ?_
  refine v_if_eq (tgt := 152) (pc' := 132) 76 rfl rfl (by decide) (fun hc => ?_) (fun hc => ?_)
  · replace h := h.1 hc
    refine V.sub [0, 1, 2, 4, 5] rfl ?_
    exact b_L_isShown_152 v2 v3 v8 v9 I L b d hb hd Q QX R111 hX hR111 h
  replace h := h.2 hc
  refine v_aload_n (pc' := 133) 77 0 rfl rfl rfl rfl ?_
  refine v_iload (pc' := 135) 78 5 rfl rfl rfl ?_
  refine v_bipush (v := 7) (pc' := 137) 79 rfl rfl (by decide) ?_
  refine v_cV (Y2 := Y_X8_gate) (As := [.int v9, .int 7]) (b := 0) (pc' := 140) (c1 := 0) (s1 := 0) 80 rfl rfl mf_X8_gate rfl rfl ml_L_110 mi_X8_gate se_X8_gate (ci := 7) rfl ly_0 (lay_lt ly_0 (by decide)) rfl (Nat.le_of_ble_eq_true rfl) ⟨Nat.le_of_ble_eq_true rfl, Nat.le_of_ble_eq_true rfl⟩ rfl rfl (ok_X8_gate v9 (7 : Int32) I L b d hb hd h (fun _ q9 => hX _ q9)) ?_ ?_
  · intro e9 u9 hx9
    exact hx9.elim
  intro v9 u9 hv9
  obtain ⟨r1315, rfl, rfl, h⟩ := hv9
  refine ⟨fun q => absurd q (Nat.lt_irrefl _), ?_⟩
  show V G Y_L_isShown 140 _ (.int r1315 :: _) _ _ _ _ _
  refine v_aload_n (pc' := 141) 81 0 rfl rfl rfl rfl ?_
  refine v_iload (pc' := 143) 82 5 rfl rfl rfl ?_
  refine v_bipush (v := 8) (pc' := 145) 83 rfl rfl (by decide) ?_
  refine v_cV (Y2 := Y_X8_gate) (As := [.int v9, .int 8]) (b := 0) (pc' := 148) (c1 := 0) (s1 := 0) 84 rfl rfl mf_X8_gate rfl rfl ml_L_110 mi_X8_gate se_X8_gate (ci := 7) rfl ly_0 (lay_lt ly_0 (by decide)) rfl (Nat.le_of_ble_eq_true rfl) ⟨Nat.le_of_ble_eq_true rfl, Nat.le_of_ble_eq_true rfl⟩ rfl rfl (ok_X8_gate v9 (8 : Int32) I L b d hb hd h (fun _ q9 => hX _ q9)) ?_ ?_
  · intro e9 u9 hx9
    exact hx9.elim
  intro v9 u9 hv9
  obtain ⟨r1316, rfl, rfl, h⟩ := hv9
  refine ⟨fun q => absurd q (Nat.lt_irrefl _), ?_⟩
  show V G Y_L_isShown 148 _ (.int r1316 :: _) _ _ _ _ _
  refine v_iadd (pc' := 149) 85 rfl rfl ?_
  refine v_if_ne (tgt := 156) (pc' := 152) 86 rfl rfl (by decide) (fun hc => ?_) (fun hc => ?_)
  · replace h := h.1 hc
    refine V.sub [0, 1, 2, 4, 5] rfl ?_
    exact b_L_isShown_156 v2 v3 v8 v9 I L b d hb hd Q QX R111 hX hR111 h
  replace h := h.2 hc
  refine V.sub [0, 1, 2, 4, 5] rfl ?_
  exact b_L_isShown_152 v2 v3 v8 v9 I L b d hb hd Q QX R111 hX hR111 h
theorem l_L_isShown_111 {G : GT} {t : Nat} (v2 : Int32) (v3 : Int64) (v8 : Int32) (I : TI) (L : TL) (b : Nat) (d : Nat) (hb : bnOK b) (hd : bnOK d) (Q : Int32 → Prop) (QX : String → Prop) (hX : ∀ (e9 : String), QX e9 → False) : ∀ (n9 : Nat) (v7 : Int32) (v9 : Int32), L_L_isShown_111 v2 v3 v8 I L b d Q QX n9 v7 v9 → V G Y_L_isShown 111 [(1, .ref 0), (2, .int v2), (3, .long v3), (7, .int v7), (8, .int v8), (9, .int v9)] [] (I, L, RT b d t, 457) 0 0 (fun v9 u9 => ∃ (r9 : Int32), v9 = some (.int r9) ∧ u9 = (I, L, RT b d t, 457) ∧ Q r9) (fun _ _ => False)
  | 0, _, _, h => h.elim
  | n9 + 1, v7, v9, h => d_L_isShown_111 v2 v3 v8 I L b d hb hd Q QX _ hX (l_L_isShown_111 v2 v3 v8 I L b d hb hd Q QX hX n9) v7 v9 h
set_option maxHeartbeats 4000000 in
set_option maxRecDepth 100000 in
theorem b_L_isShown_60 {G : GT} {t : Nat} (v2 : Int32) (v3 : Int64) (v5 : Int64) (v7 : Int32) (v8 : Int32) (I : TI) (L : TL) (b : Nat) (d : Nat) (hb : bnOK b) (hd : bnOK d) (Q : Int32 → Prop) (QX : String → Prop) (R21 : Int32 → Prop) (hX : ∀ (e9 : String), QX e9 → False) (hR21 : ∀ (v8 : Int32), R21 v8 → V G Y_L_isShown 21 [(0, .ref 436), (1, .ref 0), (2, .int v2), (3, .long v3), (5, .long v5), (7, .int v7), (8, .int v8)] [] (I, L, RT b d t, 457) 0 0 (fun v9 u9 => ∃ (r9 : Int32), v9 = some (.int r9) ∧ u9 = (I, L, RT b d t, 457) ∧ Q r9) (fun _ _ => False)) (h : B_L_isShown_60 v2 v3 v5 v7 v8 I L b d Q QX R21) : V G Y_L_isShown 60 [(0, .ref 436), (1, .ref 0), (2, .int v2), (3, .long v3), (5, .long v5), (7, .int v7), (8, .int v8)] [] (I, L, RT b d t, 457) 0 0 (fun v9 u9 => ∃ (r9 : Int32), v9 = some (.int r9) ∧ u9 = (I, L, RT b d t, 457) ∧ Q r9) (fun _ _ => False) := by
  unfold B_L_isShown_60 at h
  refine v_iinc (v := (v8 + 1)) (ls' := [(8, .int (v8 + 1)), (0, .ref 436), (1, .ref 0), (2, .int v2), (3, .long v3), (5, .long v5), (7, .int v7)]) (pc' := 63) 38 6 rfl rfl rfl rfl (by decide) rfl ?_
  refine v_goto (tgt := 21) 39 rfl (by decide) ?_
  refine V.sub [1, 2, 3, 4, 5, 6, 0] rfl ?_
  exact hR21 (v8 + 1) h
set_option maxHeartbeats 4000000 in
set_option maxRecDepth 100000 in
theorem d_L_isShown_21 {G : GT} {t : Nat} (v2 : Int32) (v3 : Int64) (v5 : Int64) (v7 : Int32) (I : TI) (L : TL) (b : Nat) (d : Nat) (hb : bnOK b) (hd : bnOK d) (Q : Int32 → Prop) (QX : String → Prop) (R21 : Int32 → Prop) (hX : ∀ (e9 : String), QX e9 → False) (hR21 : ∀ (v8 : Int32), R21 v8 → V G Y_L_isShown 21 [(0, .ref 436), (1, .ref 0), (2, .int v2), (3, .long v3), (5, .long v5), (7, .int v7), (8, .int v8)] [] (I, L, RT b d t, 457) 0 0 (fun v9 u9 => ∃ (r9 : Int32), v9 = some (.int r9) ∧ u9 = (I, L, RT b d t, 457) ∧ Q r9) (fun _ _ => False)) (v8 : Int32)  (h : D_L_isShown_21 v2 v3 v5 v7 I L b d Q QX R21 v8) : V G Y_L_isShown 21 [(0, .ref 436), (1, .ref 0), (2, .int v2), (3, .long v3), (5, .long v5), (7, .int v7), (8, .int v8)] [] (I, L, RT b d t, 457) 0 0 (fun v9 u9 => ∃ (r9 : Int32), v9 = some (.int r9) ∧ u9 = (I, L, RT b d t, 457) ∧ Q r9) (fun _ _ => False) := by
  unfold D_L_isShown_21 at h
  refine v_iload (pc' := 23) 14 6 rfl rfl rfl ?_
  refine v_aload_n (pc' := 24) 15 0 rfl rfl rfl rfl ?_
  refine v_getI (pc' := 27) 16 rfl rfl pf_L_74 ly_436 (lay_lt ly_436 (by decide)) ?_
  refine v_icmp_gt (tgt := 66) (pc' := 30) 17 rfl rfl (by decide) (fun hc => ?_) (fun hc => ?_)
  · replace h := h.1 hc
    refine v_iload_n (pc' := 67) 40 2 rfl rfl rfl rfl ?_
    refine v_aload_n (pc' := 68) 41 0 rfl rfl rfl rfl ?_
    refine v_getI (pc' := 71) 42 rfl rfl pf_L_40 ly_436 (lay_lt ly_436 (by decide)) ?_
    refine v_icmp_ge (tgt := 98) (pc' := 74) 43 rfl rfl (by decide) (fun hc => ?_) (fun hc => ?_)
    · replace h := h.1 hc
      refine v_aload_n (pc' := 99) 59 1 rfl rfl rfl rfl ?_
      refine v_iload_n (pc' := 100) 60 2 rfl rfl rfl rfl ?_
      refine v_cV (Y2 := Y_X8_dependsOn) (As := [.int v2]) (b := 0) (pc' := 103) (c1 := 0) (s1 := 0) 61 rfl rfl mf_X8_dependsOn rfl rfl ml_L_175 mi_X8_dependsOn se_X8_dependsOn (ci := 7) rfl ly_0 (lay_lt ly_0 (by decide)) rfl (Nat.le_of_ble_eq_true rfl) ⟨Nat.le_of_ble_eq_true rfl, Nat.le_of_ble_eq_true rfl⟩ rfl rfl (ok_X8_dependsOn v2 I L b d hb hd h (fun _ q9 => hX _ q9)) ?_ ?_
      · intro e9 u9 hx9
        exact hx9.elim
      intro v9 u9 hv9
      obtain ⟨r1317, rfl, rfl, h⟩ := hv9
      refine ⟨fun q => absurd q (Nat.lt_irrefl _), ?_⟩
      show V G Y_L_isShown 103 _ (.int r1317 :: _) _ _ _ _ _
      refine v_istore (ls' := [(8, .int r1317), (0, .ref 436), (1, .ref 0), (2, .int v2), (3, .long v3), (5, .long v5), (7, .int v7)]) (pc' := 105) 62 rfl rfl (by decide) rfl ?_
      refine v_aload_n (pc' := 106) 63 1 rfl rfl rfl rfl ?_
      refine v_getI (pc' := 109) 64 rfl rfl pf_L_40 ly_436 (lay_lt ly_436 (by decide)) ?_
      refine v_istore (ls' := [(9, .int (I 436 3)), (8, .int r1317), (0, .ref 436), (1, .ref 0), (2, .int v2), (3, .long v3), (5, .long v5), (7, .int v7)]) (pc' := 111) 65 rfl rfl (by decide) rfl ?_
      refine V.sub [3, 4, 5, 7, 1, 0] rfl ?_
      obtain ⟨n1318, h⟩ := h
      exact l_L_isShown_111 v2 v3 r1317 I L b d hb hd Q QX hX n1318 v7 (I 436 3) h
    replace h := h.2 hc
    refine v_lload_n (pc' := 75) 44 3 rfl rfl rfl rfl ?_
    refine v_lload (pc' := 77) 45 4 rfl rfl rfl ?_
    refine v_lc_ne (tgt := 96) (pc' := 81) 46 47 rfl rfl rfl (by decide) (fun hc => ?_) (fun hc => ?_)
    · replace h := h.1 hc
      refine v_iconst (v := 0) (pc' := 97) 57 rfl rfl (by decide) ?_
      exact v_bret 58 rfl rfl (by decide) (by decide) (by decide) ⟨_, rfl, rfl, h⟩
    replace h := h.2 hc
    refine v_lload_n (pc' := 82) 48 3 rfl rfl rfl rfl ?_
    refine v_aload_n (pc' := 83) 49 1 rfl rfl rfl rfl ?_
    refine v_iload_n (pc' := 84) 50 2 rfl rfl rfl rfl ?_
    refine v_iconst (v := 1) (pc' := 85) 51 rfl rfl (by decide) ?_
    refine v_cV (Y2 := Y_X8_wave) (As := [.int v2, .int 1]) (b := 0) (pc' := 88) (c1 := 0) (s1 := 0) 52 rfl rfl mf_X8_wave rfl rfl ml_L_168 mi_X8_wave se_X8_wave (ci := 7) rfl ly_0 (lay_lt ly_0 (by decide)) rfl (Nat.le_of_ble_eq_true rfl) ⟨Nat.le_of_ble_eq_true rfl, Nat.le_of_ble_eq_true rfl⟩ rfl rfl (ok_X8_wave v2 (1 : Int32) I L b d hb hd h (fun _ q9 => hX _ q9)) ?_ ?_
    · intro e9 u9 hx9
      exact hx9.elim
    intro v9 u9 hv9
    obtain ⟨r1319, rfl, rfl, h⟩ := hv9
    refine ⟨fun q => absurd q (Nat.lt_irrefl _), ?_⟩
    show V G Y_L_isShown 88 _ (.long r1319 :: _) _ _ _ _ _
    refine v_lc_ne (tgt := 96) (pc' := 92) 53 54 rfl rfl rfl (by decide) (fun hc => ?_) (fun hc => ?_)
    · replace h := h.1 hc
      refine v_iconst (v := 0) (pc' := 97) 57 rfl rfl (by decide) ?_
      exact v_bret 58 rfl rfl (by decide) (by decide) (by decide) ⟨_, rfl, rfl, h⟩
    replace h := h.2 hc
    refine v_iconst (v := 1) (pc' := 93) 55 rfl rfl (by decide) ?_
    refine v_goto (tgt := 97) 56 rfl (by decide) ?_
    exact v_bret 58 rfl rfl (by decide) (by decide) (by decide) ⟨_, rfl, rfl, h⟩
  replace h := h.2 hc
  refine v_aload_n (pc' := 31) 18 1 rfl rfl rfl rfl ?_
  refine v_iload_n (pc' := 32) 19 2 rfl rfl rfl rfl ?_
  refine v_iload (pc' := 34) 20 6 rfl rfl rfl ?_
  refine v_cV (Y2 := Y_X8_stateAt) (As := [.int v2, .int v8]) (b := 0) (pc' := 37) (c1 := 0) (s1 := 0) 21 rfl rfl mf_X8_stateAt rfl rfl ml_L_172 mi_X8_stateAt se_X8_stateAt (ci := 7) rfl ly_0 (lay_lt ly_0 (by decide)) rfl (Nat.le_of_ble_eq_true rfl) ⟨Nat.le_of_ble_eq_true rfl, Nat.le_of_ble_eq_true rfl⟩ rfl rfl (ok_X8_stateAt v2 v8 I L b d hb hd h (fun _ q9 => hX _ q9)) ?_ ?_
  · intro e9 u9 hx9
    exact hx9.elim
  intro v9 u9 hv9
  obtain ⟨r1320, rfl, rfl, h⟩ := hv9
  refine ⟨fun q => absurd q (Nat.lt_irrefl _), ?_⟩
  show V G Y_L_isShown 37 _ (.int r1320 :: _) _ _ _ _ _
  refine v_iconst (v := 2) (pc' := 38) 22 rfl rfl (by decide) ?_
  refine v_icmp_ne (tgt := 60) (pc' := 41) 23 rfl rfl (by decide) (fun hc => ?_) (fun hc => ?_)
  · replace h := h.1 hc
    exact b_L_isShown_60 v2 v3 v5 v7 v8 I L b d hb hd Q QX R21 hX hR21 h
  replace h := h.2 hc
  refine v_lload_n (pc' := 42) 24 3 rfl rfl rfl rfl ?_
  refine v_iload (pc' := 44) 25 6 rfl rfl rfl ?_
  refine v_lshr (pc' := 45) 26 rfl rfl ?_
  refine v_lconst (v := 1) (pc' := 46) 27 rfl rfl (by decide) ?_
  refine v_land (pc' := 47) 28 rfl rfl ?_
  refine v_lload (pc' := 49) 29 4 rfl rfl rfl ?_
  refine v_iload (pc' := 51) 30 6 rfl rfl rfl ?_
  refine v_lshr (pc' := 52) 31 rfl rfl ?_
  refine v_lconst (v := 1) (pc' := 53) 32 rfl rfl (by decide) ?_
  refine v_land (pc' := 54) 33 rfl rfl ?_
  refine v_lc_eq (tgt := 60) (pc' := 58) 34 35 rfl rfl rfl (by decide) (fun hc => ?_) (fun hc => ?_)
  · replace h := h.1 hc
    exact b_L_isShown_60 v2 v3 v5 v7 v8 I L b d hb hd Q QX R21 hX hR21 h
  replace h := h.2 hc
  refine v_iconst (v := 0) (pc' := 59) 36 rfl rfl (by decide) ?_
  exact v_bret 37 rfl rfl (by decide) (by decide) (by decide) ⟨_, rfl, rfl, h⟩
theorem l_L_isShown_21 {G : GT} {t : Nat} (v2 : Int32) (v3 : Int64) (v5 : Int64) (v7 : Int32) (I : TI) (L : TL) (b : Nat) (d : Nat) (hb : bnOK b) (hd : bnOK d) (Q : Int32 → Prop) (QX : String → Prop) (hX : ∀ (e9 : String), QX e9 → False) : ∀ (n9 : Nat) (v8 : Int32), L_L_isShown_21 v2 v3 v5 v7 I L b d Q QX n9 v8 → V G Y_L_isShown 21 [(0, .ref 436), (1, .ref 0), (2, .int v2), (3, .long v3), (5, .long v5), (7, .int v7), (8, .int v8)] [] (I, L, RT b d t, 457) 0 0 (fun v9 u9 => ∃ (r9 : Int32), v9 = some (.int r9) ∧ u9 = (I, L, RT b d t, 457) ∧ Q r9) (fun _ _ => False)
  | 0, _, h => h.elim
  | n9 + 1, v8, h => d_L_isShown_21 v2 v3 v5 v7 I L b d hb hd Q QX _ hX (l_L_isShown_21 v2 v3 v5 v7 I L b d hb hd Q QX hX n9) v8 h
set_option maxHeartbeats 4000000 in
set_option maxRecDepth 100000 in
theorem ok_L_isShown {G : GT} {t : Nat} (p2 : Int32) (I : TI) (L : TL) (b : Nat) (d : Nat) (hb : bnOK b) (hd : bnOK d) {Q : Int32 → Prop} {QX : String → Prop} (h : W_L_isShown p2 I L b d Q QX) (hX : ∀ (e9 : String), QX e9 → False) : MW G Y_L_isShown [.ref 436, .ref 0, .int p2] (I, L, RT b d t, 457) (fun v9 u9 => ∃ (r9 : Int32), v9 = some (.int r9) ∧ u9 = (I, L, RT b d t, 457) ∧ Q r9) (fun _ _ => False) := by
  unfold W_L_isShown at h
  refine MW.intro rfl (by decide) is_L_isShown (Nat.le_of_ble_eq_true rfl) ?_
  show V G Y_L_isShown 0 [(0, .ref 436), (1, .ref 0), (2, .int p2)] [] (I, L, RT b d t, 457) 0 0 _ _
  refine v_aload_n (pc' := 1) 0 1 rfl rfl rfl rfl ?_
  refine v_iload_n (pc' := 2) 1 2 rfl rfl rfl rfl ?_
  refine v_iconst (v := 0) (pc' := 3) 2 rfl rfl (by decide) ?_
  refine v_cV (Y2 := Y_X8_wave) (As := [.int p2, .int 0]) (b := 0) (pc' := 6) (c1 := 0) (s1 := 0) 3 rfl rfl mf_X8_wave rfl rfl ml_L_168 mi_X8_wave se_X8_wave (ci := 7) rfl ly_0 (lay_lt ly_0 (by decide)) rfl (Nat.le_of_ble_eq_true rfl) ⟨Nat.le_of_ble_eq_true rfl, Nat.le_of_ble_eq_true rfl⟩ rfl rfl (ok_X8_wave p2 (0 : Int32) I L b d hb hd h (fun _ q9 => hX _ q9)) ?_ ?_
  · intro e9 u9 hx9
    exact hx9.elim
  intro v9 u9 hv9
  obtain ⟨r1321, rfl, rfl, h⟩ := hv9
  refine ⟨fun q => absurd q (Nat.lt_irrefl _), ?_⟩
  show V G Y_L_isShown 6 _ (.long r1321 :: _) _ _ _ _ _
  refine v_lstore_n (ls' := [(3, .long r1321), (0, .ref 436), (1, .ref 0), (2, .int p2)]) (pc' := 7) 4 rfl rfl rfl (by decide) rfl ?_
  refine v_aload_n (pc' := 8) 5 2 rfl rfl rfl rfl ?_
  refine v_iload_n (pc' := 9) 6 3 rfl rfl rfl rfl ?_
  refine v_iconst (v := 2) (pc' := 10) 7 rfl rfl (by decide) ?_
  refine v_cV (Y2 := Y_X8_wave) (As := [.int p2, .int 2]) (b := 0) (pc' := 13) (c1 := 0) (s1 := 0) 8 rfl rfl mf_X8_wave rfl rfl ml_L_168 mi_X8_wave se_X8_wave (ci := 7) rfl ly_0 (lay_lt ly_0 (by decide)) rfl (Nat.le_of_ble_eq_true rfl) ⟨Nat.le_of_ble_eq_true rfl, Nat.le_of_ble_eq_true rfl⟩ rfl rfl (ok_X8_wave p2 (2 : Int32) I L b d hb hd h (fun _ q9 => hX _ q9)) ?_ ?_
  · intro e9 u9 hx9
    exact hx9.elim
  intro v9 u9 hv9
  obtain ⟨r1322, rfl, rfl, h⟩ := hv9
  refine ⟨fun q => absurd q (Nat.lt_irrefl _), ?_⟩
  show V G Y_L_isShown 13 _ (.long r1322 :: _) _ _ _ _ _
  refine v_lstore (ls' := [(5, .long r1322), (3, .long r1321), (0, .ref 436), (1, .ref 0), (2, .int p2)]) (pc' := 15) 9 rfl rfl (by decide) rfl ?_
  refine v_iconst (v := 1) (pc' := 16) 10 rfl rfl (by decide) ?_
  refine v_istore (ls' := [(7, .int 1), (5, .long r1322), (3, .long r1321), (0, .ref 436), (1, .ref 0), (2, .int p2)]) (pc' := 18) 11 rfl rfl (by decide) rfl ?_
  refine v_iconst (v := 0) (pc' := 19) 12 rfl rfl (by decide) ?_
  refine v_istore (ls' := [(8, .int 0), (7, .int 1), (5, .long r1322), (3, .long r1321), (0, .ref 436), (1, .ref 0), (2, .int p2)]) (pc' := 21) 13 rfl rfl (by decide) rfl ?_
  refine V.sub [4, 5, 6, 3, 2, 1, 0] rfl ?_
  obtain ⟨n1323, h⟩ := h
  exact l_L_isShown_21 p2 r1321 r1322 (1 : Int32) I L b d hb hd Q QX hX n1323 (0 : Int32) h
set_option maxHeartbeats 4000000 in
set_option maxRecDepth 100000 in
theorem d_L_holds_43 {G : GT} {t : Nat} (v3 : Int32) (v4 : Int32) (I : TI) (L : TL) (b : Nat) (d : Nat) (hb : bnOK b) (hd : bnOK d) (Q : Int32 → TI → TL → Prop) (QX : String → TI → TL → Prop) (R9 : Int32 → Int32 → TI → TL → Prop) (R43 : Int32 → Prop) (hX : ∀ (e9 : String) (I9 : TI) (L9 : TL), QX e9 I9 L9 → False) (hR9 : ∀ (v3 : Int32) (v4 : Int32) (I : TI) (L : TL), R9 v3 v4 I L → V G Y_L_holds 9 [(0, .ref 436), (1, .ref 0), (2, .ref 457), (3, .int v3), (4, .int v4)] [] (I, L, RT b d t, 457) 0 0 (fun v9 u9 => ∃ (r9 : Int32) (I9 : TI) (L9 : TL), v9 = some (.int r9) ∧ u9 = (I9, L9, RT b d t, 457) ∧ Q r9 I9 L9) (fun _ _ => False)) (hR43 : ∀ (v5 : Int32), R43 v5 → V G Y_L_holds 43 [(0, .ref 436), (1, .ref 0), (2, .ref 457), (3, .int v3), (4, .int v4), (5, .int v5)] [] (I, L, RT b d t, 457) 0 0 (fun v9 u9 => ∃ (r9 : Int32) (I9 : TI) (L9 : TL), v9 = some (.int r9) ∧ u9 = (I9, L9, RT b d t, 457) ∧ Q r9 I9 L9) (fun _ _ => False)) (v5 : Int32)  (h : D_L_holds_43 G v3 v4 I L b d Q QX R9 R43 v5) : V G Y_L_holds 43 [(0, .ref 436), (1, .ref 0), (2, .ref 457), (3, .int v3), (4, .int v4), (5, .int v5)] [] (I, L, RT b d t, 457) 0 0 (fun v9 u9 => ∃ (r9 : Int32) (I9 : TI) (L9 : TL), v9 = some (.int r9) ∧ u9 = (I9, L9, RT b d t, 457) ∧ Q r9 I9 L9) (fun _ _ => False) := by
  unfold D_L_holds_43 at h
  refine v_iload (pc' := 45) 25 5 rfl rfl rfl ?_
  refine v_aload_n (pc' := 46) 26 0 rfl rfl rfl rfl ?_
  refine v_cV (Y2 := Y_L_nets) (As := []) (b := 436) (pc' := 49) (c1 := 0) (s1 := 0) 27 rfl rfl mf_L_nets rfl rfl ml_L_102 mi_L_nets se_L_nets (ci := 8) rfl ly_436 (lay_lt ly_436 (by decide)) rfl (Nat.le_of_ble_eq_true rfl) ⟨Nat.le_of_ble_eq_true rfl, Nat.le_of_ble_eq_true rfl⟩ rfl rfl (ok_L_nets (Nat.le_of_ble_eq_true rfl) I L h) ?_ ?_
  · intro e9 u9 hx9
    exact hx9.elim
  intro v9 u9 hv9
  obtain ⟨r1338, rfl, rfl, h⟩ := hv9
  refine ⟨fun q => absurd q (Nat.lt_irrefl _), ?_⟩
  show V G Y_L_holds 49 _ (.int r1338 :: _) _ _ _ _ _
  refine v_icmp_ge (tgt := 70) (pc' := 52) 28 rfl rfl (by decide) (fun hc => ?_) (fun hc => ?_)
  · replace h := h.1 hc
    refine v_iinc (v := (v4 + 1)) (ls' := [(4, .int (v4 + 1)), (0, .ref 436), (1, .ref 0), (2, .ref 457), (3, .int v3), (5, .int v5)]) (pc' := 73) 38 4 rfl rfl rfl rfl (by decide) rfl ?_
    refine v_goto (tgt := 9) 39 rfl (by decide) ?_
    refine V.sub [1, 2, 3, 4, 0] rfl ?_
    exact hR9 v3 (v4 + 1) I L h
  replace h := h.2 hc
  refine v_aload_n (pc' := 53) 29 0 rfl rfl rfl rfl ?_
  refine v_aload_n (pc' := 54) 30 1 rfl rfl rfl rfl ?_
  refine v_iload (pc' := 56) 31 5 rfl rfl rfl ?_
  refine v_cV (Y2 := Y_L_isShown) (As := [.ref 0, .int v5]) (b := 436) (pc' := 59) (c1 := 0) (s1 := 0) 32 rfl rfl mf_L_isShown rfl rfl ml_L_141 mi_L_isShown se_L_isShown (ci := 8) rfl ly_436 (lay_lt ly_436 (by decide)) rfl (Nat.le_of_ble_eq_true rfl) ⟨Nat.le_of_ble_eq_true rfl, Nat.le_of_ble_eq_true rfl⟩ rfl rfl (ok_L_isShown v5 I L b d hb hd h (fun _ q9 => hX _ _ _ q9)) ?_ ?_
  · intro e9 u9 hx9
    exact hx9.elim
  intro v9 u9 hv9
  obtain ⟨r1339, rfl, rfl, h⟩ := hv9
  refine ⟨fun q => absurd q (Nat.lt_irrefl _), ?_⟩
  show V G Y_L_holds 59 _ (.int r1339 :: _) _ _ _ _ _
  refine v_if_ne (tgt := 64) (pc' := 62) 33 rfl rfl (by decide) (fun hc => ?_) (fun hc => ?_)
  · replace h := h.1 hc
    refine v_iinc (v := (v5 + 1)) (ls' := [(5, .int (v5 + 1)), (0, .ref 436), (1, .ref 0), (2, .ref 457), (3, .int v3), (4, .int v4)]) (pc' := 67) 36 5 rfl rfl rfl rfl (by decide) rfl ?_
    refine v_goto (tgt := 43) 37 rfl (by decide) ?_
    refine V.sub [1, 2, 3, 4, 5, 0] rfl ?_
    exact hR43 (v5 + 1) h
  replace h := h.2 hc
  refine v_iconst (v := 0) (pc' := 63) 34 rfl rfl (by decide) ?_
  exact v_bret 35 rfl rfl (by decide) (by decide) (by decide) ⟨_, _, _, rfl, rfl, h⟩
theorem l_L_holds_43 {G : GT} {t : Nat} (v3 : Int32) (v4 : Int32) (I : TI) (L : TL) (b : Nat) (d : Nat) (hb : bnOK b) (hd : bnOK d) (Q : Int32 → TI → TL → Prop) (QX : String → TI → TL → Prop) (R9 : Int32 → Int32 → TI → TL → Prop) (hX : ∀ (e9 : String) (I9 : TI) (L9 : TL), QX e9 I9 L9 → False) (hR9 : ∀ (v3 : Int32) (v4 : Int32) (I : TI) (L : TL), R9 v3 v4 I L → V G Y_L_holds 9 [(0, .ref 436), (1, .ref 0), (2, .ref 457), (3, .int v3), (4, .int v4)] [] (I, L, RT b d t, 457) 0 0 (fun v9 u9 => ∃ (r9 : Int32) (I9 : TI) (L9 : TL), v9 = some (.int r9) ∧ u9 = (I9, L9, RT b d t, 457) ∧ Q r9 I9 L9) (fun _ _ => False)) : ∀ (n9 : Nat) (v5 : Int32), L_L_holds_43 G v3 v4 I L b d Q QX R9 n9 v5 → V G Y_L_holds 43 [(0, .ref 436), (1, .ref 0), (2, .ref 457), (3, .int v3), (4, .int v4), (5, .int v5)] [] (I, L, RT b d t, 457) 0 0 (fun v9 u9 => ∃ (r9 : Int32) (I9 : TI) (L9 : TL), v9 = some (.int r9) ∧ u9 = (I9, L9, RT b d t, 457) ∧ Q r9 I9 L9) (fun _ _ => False)
  | 0, _, h => h.elim
  | n9 + 1, v5, h => d_L_holds_43 v3 v4 I L b d hb hd Q QX R9 _ hX hR9 (l_L_holds_43 v3 v4 I L b d hb hd Q QX R9 hX hR9 n9) v5 h
set_option maxHeartbeats 4000000 in
set_option maxRecDepth 100000 in
theorem d_L_holds_9 {G : GT} {t : Nat} (b : Nat) (d : Nat) (hb : bnOK b) (hd : bnOK d) (Q : Int32 → TI → TL → Prop) (QX : String → TI → TL → Prop) (R9 : Int32 → Int32 → TI → TL → Prop) (hX : ∀ (e9 : String) (I9 : TI) (L9 : TL), QX e9 I9 L9 → False) (hR9 : ∀ (v3 : Int32) (v4 : Int32) (I : TI) (L : TL), R9 v3 v4 I L → V G Y_L_holds 9 [(0, .ref 436), (1, .ref 0), (2, .ref 457), (3, .int v3), (4, .int v4)] [] (I, L, RT b d t, 457) 0 0 (fun v9 u9 => ∃ (r9 : Int32) (I9 : TI) (L9 : TL), v9 = some (.int r9) ∧ u9 = (I9, L9, RT b d t, 457) ∧ Q r9 I9 L9) (fun _ _ => False)) (v3 : Int32) (v4 : Int32) (I : TI) (L : TL)  (h : D_L_holds_9 G b d Q QX R9 v3 v4 I L) : V G Y_L_holds 9 [(0, .ref 436), (1, .ref 0), (2, .ref 457), (3, .int v3), (4, .int v4)] [] (I, L, RT b d t, 457) 0 0 (fun v9 u9 => ∃ (r9 : Int32) (I9 : TI) (L9 : TL), v9 = some (.int r9) ∧ u9 = (I9, L9, RT b d t, 457) ∧ Q r9 I9 L9) (fun _ _ => False) := by
  unfold D_L_holds_9 at h
  refine v_iload (pc' := 11) 5 4 rfl rfl rfl ?_
  refine v_bipush (v := 30) (pc' := 13) 6 rfl rfl (by decide) ?_
  refine v_icmp_ge (tgt := 76) (pc' := 16) 7 rfl rfl (by decide) (fun hc => ?_) (fun hc => ?_)
  · replace h := h.1 hc
    refine v_iconst (v := 1) (pc' := 77) 40 rfl rfl (by decide) ?_
    exact v_bret 41 rfl rfl (by decide) (by decide) (by decide) ⟨_, _, _, rfl, rfl, h⟩
  replace h := h.2 hc
  refine v_iload_n (pc' := 17) 8 3 rfl rfl rfl rfl ?_
  refine v_aload_n (pc' := 18) 9 0 rfl rfl rfl rfl ?_
  refine v_aload_n (pc' := 19) 10 1 rfl rfl rfl rfl ?_
  refine v_aload_n (pc' := 20) 11 2 rfl rfl rfl rfl ?_
  refine v_iload (pc' := 22) 12 4 rfl rfl rfl ?_
  refine v_cS (Y2 := Y_L_cell) (As := [.ref 457, .int v4]) (pc' := 25) (c1 := 0) (s1 := 0) 13 rfl rfl mf_L_cell rfl rfl ml_L_70 ms_L_cell rfl (Nat.le_of_ble_eq_true rfl) ⟨Nat.le_of_ble_eq_true rfl, Nat.le_of_ble_eq_true rfl⟩ rfl rfl (ok_L_cell (Nat.le_of_ble_eq_true rfl) v4 I L h) ?_ ?_
  · intro e9 u9 hx9
    exact hx9.elim
  intro v9 u9 hv9
  obtain ⟨r1340, rfl, rfl, h⟩ := hv9
  refine ⟨fun q => absurd q (Nat.lt_irrefl _), ?_⟩
  show V G Y_L_holds 25 _ (.int r1340 :: _) _ _ _ _ _
  refine v_cV (Y2 := Y_L_acts) (As := [.ref 0, .int r1340]) (b := 436) (pc' := 28) (c1 := 0) (s1 := 0) 14 rfl rfl mf_L_acts rfl rfl ml_L_137 mi_L_acts se_L_acts (ci := 8) rfl ly_436 (lay_lt ly_436 (by decide)) rfl (Nat.le_of_ble_eq_true rfl) ⟨Nat.le_of_ble_eq_true rfl, Nat.le_of_ble_eq_true rfl⟩ rfl rfl (ok_L_acts r1340 I L b d hb hd h (fun _ _ _ q9 => hX _ _ _ q9)) ?_ ?_
  · intro e9 u9 hx9
    exact hx9.elim
  intro v9 u9 hv9
  obtain ⟨r1341, I1342, L1343, rfl, rfl, h⟩ := hv9
  refine ⟨fun q => absurd q (Nat.lt_irrefl _), ?_⟩
  show V G Y_L_holds 28 _ (.int r1341 :: _) _ _ _ _ _
  refine v_iadd (pc' := 29) 15 rfl rfl ?_
  refine v_istore_n (ls' := [(3, .int (v3 + r1341)), (0, .ref 436), (1, .ref 0), (2, .ref 457), (4, .int v4)]) (pc' := 30) 16 rfl rfl rfl (by decide) rfl ?_
  refine v_aload_n (pc' := 31) 17 2 rfl rfl rfl rfl ?_
  refine v_cS (Y2 := Y_L_purses) (As := [.ref 0]) (pc' := 34) (c1 := 0) (s1 := 0) 18 rfl rfl mf_L_purses rfl rfl ml_L_135 ms_L_purses rfl (Nat.le_of_ble_eq_true rfl) ⟨Nat.le_of_ble_eq_true rfl, Nat.le_of_ble_eq_true rfl⟩ rfl rfl (ok_L_purses I1342 L1343 b d hb hd h (fun _ q9 => hX _ _ _ q9)) ?_ ?_
  · intro e9 u9 hx9
    exact hx9.elim
  intro v9 u9 hv9
  obtain ⟨r1344, rfl, rfl, h⟩ := hv9
  refine ⟨fun q => absurd q (Nat.lt_irrefl _), ?_⟩
  show V G Y_L_holds 34 _ (.int r1344 :: _) _ _ _ _ _
  refine v_iload_n (pc' := 35) 19 0 rfl rfl rfl rfl ?_
  refine v_icmp_eq (tgt := 40) (pc' := 38) 20 rfl rfl (by decide) (fun hc => ?_) (fun hc => ?_)
  · replace h := h.1 hc
    refine v_iconst (v := 0) (pc' := 41) 23 rfl rfl (by decide) ?_
    refine v_istore (ls' := [(5, .int 0), (3, .int (v3 + r1341)), (0, .ref 436), (1, .ref 0), (2, .ref 457), (4, .int v4)]) (pc' := 43) 24 rfl rfl (by decide) rfl ?_
    refine V.sub [2, 3, 4, 1, 5, 0] rfl ?_
    obtain ⟨n1345, h⟩ := h
    exact l_L_holds_43 (v3 + r1341) v4 I1342 L1343 b d hb hd Q QX R9 hX hR9 n1345 (0 : Int32) h
  replace h := h.2 hc
  refine v_iconst (v := 0) (pc' := 39) 21 rfl rfl (by decide) ?_
  exact v_bret 22 rfl rfl (by decide) (by decide) (by decide) ⟨_, _, _, rfl, rfl, h⟩
theorem l_L_holds_9 {G : GT} {t : Nat} (b : Nat) (d : Nat) (hb : bnOK b) (hd : bnOK d) (Q : Int32 → TI → TL → Prop) (QX : String → TI → TL → Prop) (hX : ∀ (e9 : String) (I9 : TI) (L9 : TL), QX e9 I9 L9 → False) : ∀ (n9 : Nat) (v3 : Int32) (v4 : Int32) (I : TI) (L : TL), L_L_holds_9 G b d Q QX n9 v3 v4 I L → V G Y_L_holds 9 [(0, .ref 436), (1, .ref 0), (2, .ref 457), (3, .int v3), (4, .int v4)] [] (I, L, RT b d t, 457) 0 0 (fun v9 u9 => ∃ (r9 : Int32) (I9 : TI) (L9 : TL), v9 = some (.int r9) ∧ u9 = (I9, L9, RT b d t, 457) ∧ Q r9 I9 L9) (fun _ _ => False)
  | 0, _, _, _, _, h => h.elim
  | n9 + 1, v3, v4, I, L, h => d_L_holds_9 b d hb hd Q QX _ hX (l_L_holds_9 b d hb hd Q QX hX n9) v3 v4 I L h
set_option maxHeartbeats 4000000 in
set_option maxRecDepth 100000 in
theorem ok_L_holds {G : GT} {t : Nat} (I : TI) (L : TL) (b : Nat) (d : Nat) (hb : bnOK b) (hd : bnOK d) {Q : Int32 → TI → TL → Prop} {QX : String → TI → TL → Prop} (h : W_L_holds G I L b d Q QX) (hX : ∀ (e9 : String) (I9 : TI) (L9 : TL), QX e9 I9 L9 → False) : MW G Y_L_holds [.ref 436, .ref 0, .ref 457] (I, L, RT b d t, 457) (fun v9 u9 => ∃ (r9 : Int32) (I9 : TI) (L9 : TL), v9 = some (.int r9) ∧ u9 = (I9, L9, RT b d t, 457) ∧ Q r9 I9 L9) (fun _ _ => False) := by
  unfold W_L_holds at h
  refine MW.intro rfl (by decide) is_L_holds (Nat.le_of_ble_eq_true rfl) ?_
  show V G Y_L_holds 0 [(0, .ref 436), (1, .ref 0), (2, .ref 457)] [] (I, L, RT b d t, 457) 0 0 _ _
  refine v_aload_n (pc' := 1) 0 1 rfl rfl rfl rfl ?_
  refine v_cS (Y2 := Y_L_purses) (As := [.ref 0]) (pc' := 4) (c1 := 0) (s1 := 0) 1 rfl rfl mf_L_purses rfl rfl ml_L_135 ms_L_purses rfl (Nat.le_of_ble_eq_true rfl) ⟨Nat.le_of_ble_eq_true rfl, Nat.le_of_ble_eq_true rfl⟩ rfl rfl (ok_L_purses I L b d hb hd h (fun _ q9 => hX _ _ _ q9)) ?_ ?_
  · intro e9 u9 hx9
    exact hx9.elim
  intro v9 u9 hv9
  obtain ⟨r1346, rfl, rfl, h⟩ := hv9
  refine ⟨fun q => absurd q (Nat.lt_irrefl _), ?_⟩
  show V G Y_L_holds 4 _ (.int r1346 :: _) _ _ _ _ _
  refine v_istore_n (ls' := [(3, .int r1346), (0, .ref 436), (1, .ref 0), (2, .ref 457)]) (pc' := 5) 2 rfl rfl rfl (by decide) rfl ?_
  refine v_bipush (v := 12) (pc' := 7) 3 rfl rfl (by decide) ?_
  refine v_istore (ls' := [(4, .int 12), (3, .int r1346), (0, .ref 436), (1, .ref 0), (2, .ref 457)]) (pc' := 9) 4 rfl rfl (by decide) rfl ?_
  refine V.sub [2, 3, 4, 1, 0] rfl ?_
  obtain ⟨n1347, h⟩ := h
  exact l_L_holds_9 b d hb hd Q QX hX n1347 r1346 (12 : Int32) I L h
