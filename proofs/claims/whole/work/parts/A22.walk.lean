set_option maxHeartbeats 4000000 in
set_option maxRecDepth 100000 in
theorem b_X1_readGates_40 {G : GT} {b d : Nat} (p1 : Nat) (v2 : Int32) (I : TI) (L : TL) (t : Nat) (hp1 : bnOK p1) (ht : txOK t) (Q : TI → Prop) (R2 : Int32 → TI → Prop) (hR2 : ∀ (v2 : Int32) (I : TI), R2 v2 I → V G Y_X1_readGates 2 [(0, .ref 344), (1, .ref p1), (2, .int v2)] [] (I, L, RT b d t, 457) 0 0 (fun v9 u9 => ∃ (I9 : TI), v9 = none ∧ u9 = (I9, L, RT b d t, 457) ∧ Q I9) (fun _ _ => False)) (h : B_X1_readGates_40 p1 v2 I L t Q R2) : V G Y_X1_readGates 40 [(0, .ref 344), (1, .ref p1), (2, .int v2)] [] (I, L, RT b d t, 457) 0 0 (fun v9 u9 => ∃ (I9 : TI), v9 = none ∧ u9 = (I9, L, RT b d t, 457) ∧ Q I9) (fun _ _ => False) := by
  unfold B_X1_readGates_40 at h
  refine v_iinc (v := (v2 + 1)) (ls' := [(2, .int (v2 + 1)), (0, .ref 344), (1, .ref p1)]) (pc' := 43) 21 2 rfl rfl rfl rfl (by decide) rfl ?_
  refine v_goto (tgt := 2) 22 rfl (by decide) ?_
  refine V.sub [1, 2, 0] rfl ?_
  exact hR2 (v2 + 1) I h
set_option maxHeartbeats 4000000 in
set_option maxRecDepth 100000 in
theorem d_X1_readGates_2 {G : GT} {b d : Nat} (p1 : Nat) (L : TL) (t : Nat) (hp1 : bnOK p1) (ht : txOK t) (Q : TI → Prop) (R2 : Int32 → TI → Prop)  (hR2 : ∀ (v2 : Int32) (I : TI), R2 v2 I → V G Y_X1_readGates 2 [(0, .ref 344), (1, .ref p1), (2, .int v2)] [] (I, L, RT b d t, 457) 0 0 (fun v9 u9 => ∃ (I9 : TI), v9 = none ∧ u9 = (I9, L, RT b d t, 457) ∧ Q I9) (fun _ _ => False)) (v2 : Int32) (I : TI)  (h : D_X1_readGates_2 p1 L t Q R2 v2 I) : V G Y_X1_readGates 2 [(0, .ref 344), (1, .ref p1), (2, .int v2)] [] (I, L, RT b d t, 457) 0 0 (fun v9 u9 => ∃ (I9 : TI), v9 = none ∧ u9 = (I9, L, RT b d t, 457) ∧ Q I9) (fun _ _ => False) := by
  unfold D_X1_readGates_2 at h
  refine v_iload_n (pc' := 3) 2 2 rfl rfl rfl rfl ?_
  refine v_bipush (v := 12) (pc' := 5) 3 rfl rfl (by decide) ?_
  refine v_icmp_gt (tgt := 46) (pc' := 8) 4 rfl rfl (by decide) (fun hc => ?_) (fun hc => ?_)
  · replace h := h.1 hc
    exact v_vret 23 rfl rfl (by decide) (by decide) ⟨_, rfl, rfl, h⟩
  replace h := h.2 hc
  refine v_aload_n (pc' := 9) 5 0 rfl rfl rfl rfl ?_
  refine v_ldcS (pc' := 11) 6 rfl rfl sr_X1_105 ?_
  refine v_cV (Y2 := Y_X7_isWord) (As := [.ref 461]) (b := 344) (pc' := 14) (c1 := 0) (s1 := 0) 7 rfl rfl mf_X7_isWord rfl rfl ml_X1_77 mi_X7_isWord se_X7_isWord (ci := 6) rfl ly_344 (lay_lt ly_344 (by decide)) rfl (Nat.le_of_ble_eq_true rfl) ⟨Nat.le_of_ble_eq_true rfl, Nat.le_of_ble_eq_true rfl⟩ rfl rfl (ok_X7_isWord 461 I L t ht h) ?_ ?_
  · intro e9 u9 hx9
    exact hx9.elim
  intro v9 u9 hv9
  obtain ⟨r723, rfl, rfl, h⟩ := hv9
  refine ⟨fun q => absurd q (Nat.lt_irrefl _), ?_⟩
  show V G Y_X1_readGates 14 _ (.int r723 :: _) _ _ _ _ _
  refine v_if_eq (tgt := 46) (pc' := 17) 8 rfl rfl (by decide) (fun hc => ?_) (fun hc => ?_)
  · replace h := h.1 hc
    exact v_vret 23 rfl rfl (by decide) (by decide) ⟨_, rfl, rfl, h⟩
  replace h := h.2 hc
  refine v_iload_n (pc' := 18) 9 2 rfl rfl rfl rfl ?_
  refine v_bipush (v := 12) (pc' := 20) 10 rfl rfl (by decide) ?_
  refine v_icmp_ne (tgt := 31) (pc' := 23) 11 rfl rfl (by decide) (fun hc => ?_) (fun hc => ?_)
  · replace h := h.1 hc
    refine v_aload_n (pc' := 32) 16 0 rfl rfl rfl rfl ?_
    refine v_cV (Y2 := Y_X7_advance) (As := []) (b := 344) (pc' := 35) (c1 := 0) (s1 := 0) 17 rfl rfl mf_X7_advance rfl rfl ml_X1_81 mi_X7_advance se_X7_advance (ci := 6) rfl ly_344 (lay_lt ly_344 (by decide)) rfl (Nat.le_of_ble_eq_true rfl) ⟨Nat.le_of_ble_eq_true rfl, Nat.le_of_ble_eq_true rfl⟩ rfl rfl (ok_X7_advance I L t ht h) ?_ ?_
    · intro e9 u9 hx9
      exact hx9.elim
    intro v9 u9 hv9
    obtain ⟨I724, rfl, rfl, h⟩ := hv9
    refine ⟨fun q => absurd q (Nat.lt_irrefl _), ?_⟩
    show V G Y_X1_readGates 35 _ _ _ _ _ _ _
    refine v_aload_n (pc' := 36) 18 0 rfl rfl rfl rfl ?_
    refine v_aload_n (pc' := 37) 19 1 rfl rfl rfl rfl ?_
    refine v_cS (Y2 := Y_X1_readGate) (As := [.ref 344, .ref p1]) (pc' := 40) (c1 := 0) (s1 := 0) 20 rfl rfl mf_X1_readGate rfl rfl ml_X1_107 ms_X1_readGate rfl (Nat.le_of_ble_eq_true rfl) ⟨Nat.le_of_ble_eq_true rfl, Nat.le_of_ble_eq_true rfl⟩ rfl rfl (ok_X1_readGate p1 I724 L t hp1 ht h) ?_ ?_
    · intro e9 u9 hx9
      exact hx9.elim
    intro v9 u9 hv9
    obtain ⟨I725, rfl, rfl, h⟩ := hv9
    refine ⟨fun q => absurd q (Nat.lt_irrefl _), ?_⟩
    show V G Y_X1_readGates 40 _ _ _ _ _ _ _
    exact b_X1_readGates_40 p1 v2 I725 L t hp1 ht Q R2 hR2 h
  replace h := h.2 hc
  refine v_aload_n (pc' := 24) 12 0 rfl rfl rfl rfl ?_
  refine v_iconst (v := 3) (pc' := 25) 13 rfl rfl (by decide) ?_
  refine v_cV (Y2 := Y_X7_fail) (As := [.int 3]) (b := 344) (pc' := 28) (c1 := 0) (s1 := 0) 14 rfl rfl mf_X7_fail rfl rfl ml_X1_30 mi_X7_fail se_X7_fail (ci := 6) rfl ly_344 (lay_lt ly_344 (by decide)) rfl (Nat.le_of_ble_eq_true rfl) ⟨Nat.le_of_ble_eq_true rfl, Nat.le_of_ble_eq_true rfl⟩ rfl rfl (ok_X7_fail (3 : Int32) I L h) ?_ ?_
  · intro e9 u9 hx9
    exact hx9.elim
  intro v9 u9 hv9
  obtain ⟨I726, rfl, rfl, h⟩ := hv9
  refine ⟨fun q => absurd q (Nat.lt_irrefl _), ?_⟩
  show V G Y_X1_readGates 28 _ _ _ _ _ _ _
  refine v_goto (tgt := 40) 15 rfl (by decide) ?_
  exact b_X1_readGates_40 p1 v2 I726 L t hp1 ht Q R2 hR2 h
theorem l_X1_readGates_2 {G : GT} {b d : Nat} (p1 : Nat) (L : TL) (t : Nat) (hp1 : bnOK p1) (ht : txOK t) (Q : TI → Prop)  : ∀ (n9 : Nat) (v2 : Int32) (I : TI), L_X1_readGates_2 p1 L t Q n9 v2 I → V G Y_X1_readGates 2 [(0, .ref 344), (1, .ref p1), (2, .int v2)] [] (I, L, RT b d t, 457) 0 0 (fun v9 u9 => ∃ (I9 : TI), v9 = none ∧ u9 = (I9, L, RT b d t, 457) ∧ Q I9) (fun _ _ => False)
  | 0, _, _, h => h.elim
  | n9 + 1, v2, I, h => d_X1_readGates_2 p1 L t hp1 ht Q _ (l_X1_readGates_2 p1 L t hp1 ht Q n9) v2 I h
set_option maxHeartbeats 4000000 in
set_option maxRecDepth 100000 in
theorem ok_X1_readGates {G : GT} {b d : Nat} (p1 : Nat) (I : TI) (L : TL) (t : Nat) (hp1 : bnOK p1) (ht : txOK t) {Q : TI → Prop} (h : W_X1_readGates p1 I L t Q) : MW G Y_X1_readGates [.ref 344, .ref p1] (I, L, RT b d t, 457) (fun v9 u9 => ∃ (I9 : TI), v9 = none ∧ u9 = (I9, L, RT b d t, 457) ∧ Q I9) (fun _ _ => False) := by
  unfold W_X1_readGates at h
  refine MW.intro rfl (by decide) is_X1_readGates (Nat.le_of_ble_eq_true rfl) ?_
  show V G Y_X1_readGates 0 [(0, .ref 344), (1, .ref p1)] [] (I, L, RT b d t, 457) 0 0 _ _
  refine v_iconst (v := 0) (pc' := 1) 0 rfl rfl (by decide) ?_
  refine v_istore_n (ls' := [(2, .int 0), (0, .ref 344), (1, .ref p1)]) (pc' := 2) 1 rfl rfl rfl (by decide) rfl ?_
  refine V.sub [1, 2, 0] rfl ?_
  obtain ⟨n727, h⟩ := h
  exact l_X1_readGates_2 p1 L t hp1 ht Q n727 (0 : Int32) I h
set_option maxHeartbeats 4000000 in
set_option maxRecDepth 100000 in
theorem d_X1_readPurses_15 {G : GT} {b d : Nat} (p1 : Nat) (L : TL) (t : Nat) (hp1 : bnOK p1) (ht : txOK t) (Q : TI → Prop) (R15 : Int32 → TI → Prop)  (hR15 : ∀ (v2 : Int32) (I : TI), R15 v2 I → V G Y_X1_readPurses 15 [(0, .ref 344), (1, .ref p1), (2, .int v2)] [] (I, L, RT b d t, 457) 0 0 (fun v9 u9 => ∃ (I9 : TI), v9 = none ∧ u9 = (I9, L, RT b d t, 457) ∧ Q I9) (fun _ _ => False)) (v2 : Int32) (I : TI)  (h : D_X1_readPurses_15 p1 L t Q R15 v2 I) : V G Y_X1_readPurses 15 [(0, .ref 344), (1, .ref p1), (2, .int v2)] [] (I, L, RT b d t, 457) 0 0 (fun v9 u9 => ∃ (I9 : TI), v9 = none ∧ u9 = (I9, L, RT b d t, 457) ∧ Q I9) (fun _ _ => False) := by
  unfold D_X1_readPurses_15 at h
  refine v_iload_n (pc' := 16) 8 2 rfl rfl rfl rfl ?_
  refine v_iconst (v := 3) (pc' := 17) 9 rfl rfl (by decide) ?_
  refine v_icmp_ge (tgt := 42) (pc' := 20) 10 rfl rfl (by decide) (fun hc => ?_) (fun hc => ?_)
  · replace h := h.1 hc
    refine v_aload_n (pc' := 43) 22 0 rfl rfl rfl rfl ?_
    refine v_bipush (v := 59) (pc' := 45) 23 rfl rfl (by decide) ?_
    refine v_cV (Y2 := Y_X7_takeSign) (As := [.int 59]) (b := 344) (pc' := 48) (c1 := 0) (s1 := 0) 24 rfl rfl mf_X7_takeSign rfl rfl ml_X1_71 mi_X7_takeSign se_X7_takeSign (ci := 6) rfl ly_344 (lay_lt ly_344 (by decide)) rfl (Nat.le_of_ble_eq_true rfl) ⟨Nat.le_of_ble_eq_true rfl, Nat.le_of_ble_eq_true rfl⟩ rfl rfl (ok_X7_takeSign (59 : Int32) I L t ht h) ?_ ?_
    · intro e9 u9 hx9
      exact hx9.elim
    intro v9 u9 hv9
    obtain ⟨I740, rfl, rfl, h⟩ := hv9
    refine ⟨fun q => absurd q (Nat.lt_irrefl _), ?_⟩
    show V G Y_X1_readPurses 48 _ _ _ _ _ _ _
    exact v_vret 25 rfl rfl (by decide) (by decide) ⟨_, rfl, rfl, h⟩
  replace h := h.2 hc
  refine v_aload_n (pc' := 21) 11 1 rfl rfl rfl rfl ?_
  refine v_getR (t := (p1 + 6)) (pc' := 24) 12 rfl rfl pf_X1_56 (bn0l hp1) (lay_lt (bn0l hp1) (by decide)) (rt_bn_1 hp1) ?_
  refine v_getR (t := (p1 + 15)) (pc' := 27) 13 rfl rfl pf_X1_135 (bn6l hp1) (lay_lt (bn6l hp1) (by decide)) (rt_st_5 (bn_st hp1)) ?_
  refine v_iload_n (pc' := 28) 14 2 rfl rfl rfl rfl ?_
  refine v_aload_n (pc' := 29) 15 0 rfl rfl rfl rfl ?_
  refine v_iconst (v := 0) (pc' := 30) 16 rfl rfl (by decide) ?_
  refine v_ldc (v := 99999) (pc' := 32) 17 rfl rfl ki_X1_138 ?_
  refine v_cV (Y2 := Y_X7_takeNumber) (As := [.int 0, .int 99999]) (b := 344) (pc' := 35) (c1 := 0) (s1 := 0) 18 rfl rfl mf_X7_takeNumber rfl rfl ml_X1_46 mi_X7_takeNumber se_X7_takeNumber (ci := 6) rfl ly_344 (lay_lt ly_344 (by decide)) rfl (Nat.le_of_ble_eq_true rfl) ⟨Nat.le_of_ble_eq_true rfl, Nat.le_of_ble_eq_true rfl⟩ rfl rfl (ok_X7_takeNumber (0 : Int32) (99999 : Int32) I L t ht h) ?_ ?_
  · intro e9 u9 hx9
    exact hx9.elim
  intro v9 u9 hv9
  obtain ⟨r741, I742, rfl, rfl, h⟩ := hv9
  refine ⟨fun q => absurd q (Nat.lt_irrefl _), ?_⟩
  show V G Y_X1_readPurses 35 _ (.int r741 :: _) _ _ _ _ _
  obtain ⟨hi743, h⟩ := h
  refine v_iast (i := v2) (j := v2.toNatClampNeg) (pc' := 36) 19 rfl rfl (bn15l hp1) (bn15n hp1) (lay_lt (bn15l hp1) (by decide)) hi743 rfl ?_
  refine v_iinc (v := (v2 + 1)) (ls' := [(2, .int (v2 + 1)), (0, .ref 344), (1, .ref p1)]) (pc' := 39) 20 2 rfl rfl rfl rfl (by decide) rfl ?_
  refine v_goto (tgt := 15) 21 rfl (by decide) ?_
  refine V.sub [1, 2, 0] rfl ?_
  exact hR15 (v2 + 1) (up2 I742 (p1 + 15) (v2.toNatClampNeg) r741) h
theorem l_X1_readPurses_15 {G : GT} {b d : Nat} (p1 : Nat) (L : TL) (t : Nat) (hp1 : bnOK p1) (ht : txOK t) (Q : TI → Prop)  : ∀ (n9 : Nat) (v2 : Int32) (I : TI), L_X1_readPurses_15 p1 L t Q n9 v2 I → V G Y_X1_readPurses 15 [(0, .ref 344), (1, .ref p1), (2, .int v2)] [] (I, L, RT b d t, 457) 0 0 (fun v9 u9 => ∃ (I9 : TI), v9 = none ∧ u9 = (I9, L, RT b d t, 457) ∧ Q I9) (fun _ _ => False)
  | 0, _, _, h => h.elim
  | n9 + 1, v2, I, h => d_X1_readPurses_15 p1 L t hp1 ht Q _ (l_X1_readPurses_15 p1 L t hp1 ht Q n9) v2 I h
set_option maxHeartbeats 4000000 in
set_option maxRecDepth 100000 in
theorem ok_X1_readPurses {G : GT} {b d : Nat} (p1 : Nat) (I : TI) (L : TL) (t : Nat) (hp1 : bnOK p1) (ht : txOK t) {Q : TI → Prop} (h : W_X1_readPurses p1 I L t Q) : MW G Y_X1_readPurses [.ref 344, .ref p1] (I, L, RT b d t, 457) (fun v9 u9 => ∃ (I9 : TI), v9 = none ∧ u9 = (I9, L, RT b d t, 457) ∧ Q I9) (fun _ _ => False) := by
  unfold W_X1_readPurses at h
  refine MW.intro rfl (by decide) is_X1_readPurses (Nat.le_of_ble_eq_true rfl) ?_
  show V G Y_X1_readPurses 0 [(0, .ref 344), (1, .ref p1)] [] (I, L, RT b d t, 457) 0 0 _ _
  refine v_aload_n (pc' := 1) 0 0 rfl rfl rfl rfl ?_
  refine v_ldcS (pc' := 3) 1 rfl rfl sr_X1_133 ?_
  refine v_cV (Y2 := Y_X7_isWord) (As := [.ref 469]) (b := 344) (pc' := 6) (c1 := 0) (s1 := 0) 2 rfl rfl mf_X7_isWord rfl rfl ml_X1_77 mi_X7_isWord se_X7_isWord (ci := 6) rfl ly_344 (lay_lt ly_344 (by decide)) rfl (Nat.le_of_ble_eq_true rfl) ⟨Nat.le_of_ble_eq_true rfl, Nat.le_of_ble_eq_true rfl⟩ rfl rfl (ok_X7_isWord 469 I L t ht h) ?_ ?_
  · intro e9 u9 hx9
    exact hx9.elim
  intro v9 u9 hv9
  obtain ⟨r744, rfl, rfl, h⟩ := hv9
  refine ⟨fun q => absurd q (Nat.lt_irrefl _), ?_⟩
  show V G Y_X1_readPurses 6 _ (.int r744 :: _) _ _ _ _ _
  refine v_if_eq (tgt := 48) (pc' := 9) 3 rfl rfl (by decide) (fun hc => ?_) (fun hc => ?_)
  · replace h := h.1 hc
    exact v_vret 25 rfl rfl (by decide) (by decide) ⟨_, rfl, rfl, h⟩
  replace h := h.2 hc
  refine v_aload_n (pc' := 10) 4 0 rfl rfl rfl rfl ?_
  refine v_cV (Y2 := Y_X7_advance) (As := []) (b := 344) (pc' := 13) (c1 := 0) (s1 := 0) 5 rfl rfl mf_X7_advance rfl rfl ml_X1_81 mi_X7_advance se_X7_advance (ci := 6) rfl ly_344 (lay_lt ly_344 (by decide)) rfl (Nat.le_of_ble_eq_true rfl) ⟨Nat.le_of_ble_eq_true rfl, Nat.le_of_ble_eq_true rfl⟩ rfl rfl (ok_X7_advance I L t ht h) ?_ ?_
  · intro e9 u9 hx9
    exact hx9.elim
  intro v9 u9 hv9
  obtain ⟨I745, rfl, rfl, h⟩ := hv9
  refine ⟨fun q => absurd q (Nat.lt_irrefl _), ?_⟩
  show V G Y_X1_readPurses 13 _ _ _ _ _ _ _
  refine v_iconst (v := 0) (pc' := 14) 6 rfl rfl (by decide) ?_
  refine v_istore_n (ls' := [(2, .int 0), (0, .ref 344), (1, .ref p1)]) (pc' := 15) 7 rfl rfl rfl (by decide) rfl ?_
  refine V.sub [1, 2, 0] rfl ?_
  obtain ⟨n746, h⟩ := h
  exact l_X1_readPurses_15 p1 L t hp1 ht Q n746 (0 : Int32) I745 h
set_option maxHeartbeats 4000000 in
set_option maxRecDepth 100000 in
theorem ok_X7_isEnd {G : GT} {b d t : Nat} (I : TI) (L : TL)  {Q : Int32 → Prop} (h : W_X7_isEnd I L Q) : MW G Y_X7_isEnd [.ref 344] (I, L, RT b d t, 457) (fun v9 u9 => ∃ (r9 : Int32), v9 = some (.int r9) ∧ u9 = (I, L, RT b d t, 457) ∧ Q r9) (fun _ _ => False) := by
  unfold W_X7_isEnd at h
  refine MW.intro rfl (by decide) is_X7_isEnd (Nat.le_of_ble_eq_true rfl) ?_
  show V G Y_X7_isEnd 0 [(0, .ref 344)] [] (I, L, RT b d t, 457) 0 0 _ _
  refine v_aload_n (pc' := 1) 0 0 rfl rfl rfl rfl ?_
  refine v_cV (Y2 := Y_X7_failed) (As := []) (b := 344) (pc' := 4) (c1 := 0) (s1 := 0) 1 rfl rfl mf_X7_failed rfl rfl ml_X7_46 mi_X7_failed se_X7_failed (ci := 6) rfl ly_344 (lay_lt ly_344 (by decide)) rfl (Nat.le_of_ble_eq_true rfl) ⟨Nat.le_of_ble_eq_true rfl, Nat.le_of_ble_eq_true rfl⟩ rfl rfl (ok_X7_failed I L h) ?_ ?_
  · intro e9 u9 hx9
    exact hx9.elim
  intro v9 u9 hv9
  obtain ⟨r748, rfl, rfl, h⟩ := hv9
  refine ⟨fun q => absurd q (Nat.lt_irrefl _), ?_⟩
  show V G Y_X7_isEnd 4 _ (.int r748 :: _) _ _ _ _ _
  refine v_if_ne (tgt := 18) (pc' := 7) 2 rfl rfl (by decide) (fun hc => ?_) (fun hc => ?_)
  · replace h := h.1 hc
    refine v_iconst (v := 0) (pc' := 19) 8 rfl rfl (by decide) ?_
    exact v_bret 9 rfl rfl (by decide) (by decide) (by decide) ⟨_, rfl, rfl, h⟩
  replace h := h.2 hc
  refine v_aload_n (pc' := 8) 3 0 rfl rfl rfl rfl ?_
  refine v_getI (pc' := 11) 4 rfl rfl pf_X7_25 ly_344 (lay_lt ly_344 (by decide)) ?_
  refine v_if_ne (tgt := 18) (pc' := 14) 5 rfl rfl (by decide) (fun hc => ?_) (fun hc => ?_)
  · replace h := h.1 hc
    refine v_iconst (v := 0) (pc' := 19) 8 rfl rfl (by decide) ?_
    exact v_bret 9 rfl rfl (by decide) (by decide) (by decide) ⟨_, rfl, rfl, h⟩
  replace h := h.2 hc
  refine v_iconst (v := 1) (pc' := 15) 6 rfl rfl (by decide) ?_
  refine v_goto (tgt := 19) 7 rfl (by decide) ?_
  exact v_bret 9 rfl rfl (by decide) (by decide) (by decide) ⟨_, rfl, rfl, h⟩
set_option maxHeartbeats 4000000 in
set_option maxRecDepth 100000 in
theorem ok_X1_read {G : GT} {b d : Nat} (p1 : Nat) (I : TI) (L : TL) (t : Nat) (hp1 : bnOK p1) (ht : txOK t) {Q : TI → TL → Prop} (h : W_X1_read p1 I L t Q) : MW G Y_X1_read [.ref 344, .ref p1] (I, L, RT b d t, 457) (fun v9 u9 => ∃ (I9 : TI) (L9 : TL), v9 = none ∧ u9 = (I9, L9, RT b d t, 457) ∧ Q I9 L9) (fun _ _ => False) := by
  unfold W_X1_read at h
  refine MW.intro rfl (by decide) is_X1_read (Nat.le_of_ble_eq_true rfl) ?_
  show V G Y_X1_read 0 [(0, .ref 344), (1, .ref p1)] [] (I, L, RT b d t, 457) 0 0 _ _
  refine v_aload_n (pc' := 1) 0 0 rfl rfl rfl rfl ?_
  refine v_aload_n (pc' := 2) 1 1 rfl rfl rfl rfl ?_
  refine v_cS (Y2 := Y_X1_readHead) (As := [.ref 344, .ref p1]) (pc' := 5) (c1 := 0) (s1 := 0) 2 rfl rfl mf_X1_readHead rfl rfl ml_X1_9 ms_X1_readHead rfl (Nat.le_of_ble_eq_true rfl) ⟨Nat.le_of_ble_eq_true rfl, Nat.le_of_ble_eq_true rfl⟩ rfl rfl (ok_X1_readHead p1 I L t hp1 ht h) ?_ ?_
  · intro e9 u9 hx9
    exact hx9.elim
  intro v9 u9 hv9
  obtain ⟨I756, rfl, rfl, h⟩ := hv9
  refine ⟨fun q => absurd q (Nat.lt_irrefl _), ?_⟩
  show V G Y_X1_read 5 _ _ _ _ _ _ _
  refine v_aload_n (pc' := 6) 3 0 rfl rfl rfl rfl ?_
  refine v_aload_n (pc' := 7) 4 1 rfl rfl rfl rfl ?_
  refine v_cS (Y2 := Y_X1_readInputs) (As := [.ref 344, .ref p1]) (pc' := 10) (c1 := 0) (s1 := 0) 5 rfl rfl mf_X1_readInputs rfl rfl ml_X1_15 ms_X1_readInputs rfl (Nat.le_of_ble_eq_true rfl) ⟨Nat.le_of_ble_eq_true rfl, Nat.le_of_ble_eq_true rfl⟩ rfl rfl (ok_X1_readInputs p1 I756 L t hp1 ht h) ?_ ?_
  · intro e9 u9 hx9
    exact hx9.elim
  intro v9 u9 hv9
  obtain ⟨I757, L758, rfl, rfl, h⟩ := hv9
  refine ⟨fun q => absurd q (Nat.lt_irrefl _), ?_⟩
  show V G Y_X1_read 10 _ _ _ _ _ _ _
  refine v_aload_n (pc' := 11) 6 0 rfl rfl rfl rfl ?_
  refine v_aload_n (pc' := 12) 7 1 rfl rfl rfl rfl ?_
  refine v_cS (Y2 := Y_X1_readGates) (As := [.ref 344, .ref p1]) (pc' := 15) (c1 := 0) (s1 := 0) 8 rfl rfl mf_X1_readGates rfl rfl ml_X1_18 ms_X1_readGates rfl (Nat.le_of_ble_eq_true rfl) ⟨Nat.le_of_ble_eq_true rfl, Nat.le_of_ble_eq_true rfl⟩ rfl rfl (ok_X1_readGates p1 I757 L758 t hp1 ht h) ?_ ?_
  · intro e9 u9 hx9
    exact hx9.elim
  intro v9 u9 hv9
  obtain ⟨I759, rfl, rfl, h⟩ := hv9
  refine ⟨fun q => absurd q (Nat.lt_irrefl _), ?_⟩
  show V G Y_X1_read 15 _ _ _ _ _ _ _
  refine v_aload_n (pc' := 16) 9 0 rfl rfl rfl rfl ?_
  refine v_aload_n (pc' := 17) 10 1 rfl rfl rfl rfl ?_
  refine v_cS (Y2 := Y_X1_readPurses) (As := [.ref 344, .ref p1]) (pc' := 20) (c1 := 0) (s1 := 0) 11 rfl rfl mf_X1_readPurses rfl rfl ml_X1_21 ms_X1_readPurses rfl (Nat.le_of_ble_eq_true rfl) ⟨Nat.le_of_ble_eq_true rfl, Nat.le_of_ble_eq_true rfl⟩ rfl rfl (ok_X1_readPurses p1 I759 L758 t hp1 ht h) ?_ ?_
  · intro e9 u9 hx9
    exact hx9.elim
  intro v9 u9 hv9
  obtain ⟨I760, rfl, rfl, h⟩ := hv9
  refine ⟨fun q => absurd q (Nat.lt_irrefl _), ?_⟩
  show V G Y_X1_read 20 _ _ _ _ _ _ _
  refine v_aload_n (pc' := 21) 12 0 rfl rfl rfl rfl ?_
  refine v_cV (Y2 := Y_X7_isEnd) (As := []) (b := 344) (pc' := 24) (c1 := 0) (s1 := 0) 13 rfl rfl mf_X7_isEnd rfl rfl ml_X1_24 mi_X7_isEnd se_X7_isEnd (ci := 6) rfl ly_344 (lay_lt ly_344 (by decide)) rfl (Nat.le_of_ble_eq_true rfl) ⟨Nat.le_of_ble_eq_true rfl, Nat.le_of_ble_eq_true rfl⟩ rfl rfl (ok_X7_isEnd I760 L758 h) ?_ ?_
  · intro e9 u9 hx9
    exact hx9.elim
  intro v9 u9 hv9
  obtain ⟨r761, rfl, rfl, h⟩ := hv9
  refine ⟨fun q => absurd q (Nat.lt_irrefl _), ?_⟩
  show V G Y_X1_read 24 _ (.int r761 :: _) _ _ _ _ _
  refine v_if_ne (tgt := 32) (pc' := 27) 14 rfl rfl (by decide) (fun hc => ?_) (fun hc => ?_)
  · replace h := h.1 hc
    exact v_vret 18 rfl rfl (by decide) (by decide) ⟨_, _, rfl, rfl, h⟩
  replace h := h.2 hc
  refine v_aload_n (pc' := 28) 15 0 rfl rfl rfl rfl ?_
  refine v_iconst (v := 1) (pc' := 29) 16 rfl rfl (by decide) ?_
  refine v_cV (Y2 := Y_X7_fail) (As := [.int 1]) (b := 344) (pc' := 32) (c1 := 0) (s1 := 0) 17 rfl rfl mf_X7_fail rfl rfl ml_X1_30 mi_X7_fail se_X7_fail (ci := 6) rfl ly_344 (lay_lt ly_344 (by decide)) rfl (Nat.le_of_ble_eq_true rfl) ⟨Nat.le_of_ble_eq_true rfl, Nat.le_of_ble_eq_true rfl⟩ rfl rfl (ok_X7_fail (1 : Int32) I760 L758 h) ?_ ?_
  · intro e9 u9 hx9
    exact hx9.elim
  intro v9 u9 hv9
  obtain ⟨I762, rfl, rfl, h⟩ := hv9
  refine ⟨fun q => absurd q (Nat.lt_irrefl _), ?_⟩
  show V G Y_X1_read 32 _ _ _ _ _ _ _
  exact v_vret 18 rfl rfl (by decide) (by decide) ⟨_, _, rfl, rfl, h⟩
set_option maxHeartbeats 4000000 in
set_option maxRecDepth 100000 in
theorem ok_X2_hasNet {G : GT} {b d t : Nat} (p0 : Nat) (p1 : Int32) (I : TI) (L : TL) (hp0 : ckOK p0) {Q : Int32 → Prop} (h : W_X2_hasNet p0 p1 I L Q) : MW G Y_X2_hasNet [.ref p0, .int p1] (I, L, RT b d t, 457) (fun v9 u9 => ∃ (r9 : Int32), v9 = some (.int r9) ∧ u9 = (I, L, RT b d t, 457) ∧ Q r9) (fun _ _ => False) := by
  unfold W_X2_hasNet at h
  refine MW.intro rfl (by decide) is_X2_hasNet (Nat.le_of_ble_eq_true rfl) ?_
  show V G Y_X2_hasNet 0 [(0, .ref p0), (1, .int p1)] [] (I, L, RT b d t, 457) 0 0 _ _
  refine v_iload_n (pc' := 1) 0 1 rfl rfl rfl rfl ?_
  refine v_if_lt (tgt := 16) (pc' := 4) 1 rfl rfl (by decide) (fun hc => ?_) (fun hc => ?_)
  · replace h := h.1 hc
    refine v_iconst (v := 0) (pc' := 17) 8 rfl rfl (by decide) ?_
    exact v_bret 9 rfl rfl (by decide) (by decide) (by decide) ⟨_, rfl, rfl, h⟩
  replace h := h.2 hc
  refine v_iload_n (pc' := 5) 2 1 rfl rfl rfl rfl ?_
  refine v_aload_n (pc' := 6) 3 0 rfl rfl rfl rfl ?_
  refine v_cV (Y2 := Y_X2_nets) (As := []) (b := p0) (pc' := 9) (c1 := 0) (s1 := 0) 4 rfl rfl mf_X2_nets rfl rfl ml_X2_40 mi_X2_nets se_X2_nets (ci := 1) rfl (ck0l hp0) (lay_lt (ck0l hp0) (by decide)) rfl (Nat.le_of_ble_eq_true rfl) ⟨Nat.le_of_ble_eq_true rfl, Nat.le_of_ble_eq_true rfl⟩ rfl rfl (ok_X2_nets p0 I L hp0 h) ?_ ?_
  · intro e9 u9 hx9
    exact hx9.elim
  intro v9 u9 hv9
  obtain ⟨r764, rfl, rfl, h⟩ := hv9
  refine ⟨fun q => absurd q (Nat.lt_irrefl _), ?_⟩
  show V G Y_X2_hasNet 9 _ (.int r764 :: _) _ _ _ _ _
  refine v_icmp_ge (tgt := 16) (pc' := 12) 5 rfl rfl (by decide) (fun hc => ?_) (fun hc => ?_)
  · replace h := h.1 hc
    refine v_iconst (v := 0) (pc' := 17) 8 rfl rfl (by decide) ?_
    exact v_bret 9 rfl rfl (by decide) (by decide) (by decide) ⟨_, rfl, rfl, h⟩
  replace h := h.2 hc
  refine v_iconst (v := 1) (pc' := 13) 6 rfl rfl (by decide) ?_
  refine v_goto (tgt := 17) 7 rfl (by decide) ?_
  exact v_bret 9 rfl rfl (by decide) (by decide) (by decide) ⟨_, rfl, rfl, h⟩
set_option maxHeartbeats 4000000 in
set_option maxRecDepth 100000 in
theorem ok_X2_hasTime {G : GT} {b d t : Nat} (p0 : Nat) (p1 : Int32) (I : TI) (L : TL) (hp0 : ckOK p0) {Q : Int32 → Prop} (h : W_X2_hasTime p0 p1 I L Q) : MW G Y_X2_hasTime [.ref p0, .int p1] (I, L, RT b d t, 457) (fun v9 u9 => ∃ (r9 : Int32), v9 = some (.int r9) ∧ u9 = (I, L, RT b d t, 457) ∧ Q r9) (fun _ _ => False) := by
  unfold W_X2_hasTime at h
  refine MW.intro rfl (by decide) is_X2_hasTime (Nat.le_of_ble_eq_true rfl) ?_
  show V G Y_X2_hasTime 0 [(0, .ref p0), (1, .int p1)] [] (I, L, RT b d t, 457) 0 0 _ _
  refine v_iload_n (pc' := 1) 0 1 rfl rfl rfl rfl ?_
  refine v_if_lt (tgt := 16) (pc' := 4) 1 rfl rfl (by decide) (fun hc => ?_) (fun hc => ?_)
  · replace h := h.1 hc
    refine v_iconst (v := 0) (pc' := 17) 8 rfl rfl (by decide) ?_
    exact v_bret 9 rfl rfl (by decide) (by decide) (by decide) ⟨_, rfl, rfl, h⟩
  replace h := h.2 hc
  refine v_iload_n (pc' := 5) 2 1 rfl rfl rfl rfl ?_
  refine v_aload_n (pc' := 6) 3 0 rfl rfl rfl rfl ?_
  refine v_getI (pc' := 9) 4 rfl rfl pf_X2_31 (ck0l hp0) (lay_lt (ck0l hp0) (by decide)) ?_
  refine v_icmp_gt (tgt := 16) (pc' := 12) 5 rfl rfl (by decide) (fun hc => ?_) (fun hc => ?_)
  · replace h := h.1 hc
    refine v_iconst (v := 0) (pc' := 17) 8 rfl rfl (by decide) ?_
    exact v_bret 9 rfl rfl (by decide) (by decide) (by decide) ⟨_, rfl, rfl, h⟩
  replace h := h.2 hc
  refine v_iconst (v := 1) (pc' := 13) 6 rfl rfl (by decide) ?_
  refine v_goto (tgt := 17) 7 rfl (by decide) ?_
  exact v_bret 9 rfl rfl (by decide) (by decide) (by decide) ⟨_, rfl, rfl, h⟩
set_option maxHeartbeats 4000000 in
set_option maxRecDepth 100000 in
theorem ok_X3_start {G : GT} {b d t : Nat} (p0 : Nat) (p1 : Int32) (p2 : Int32) (p3 : Int32) (p4 : Int32) (p5 : Int32) (p6 : Int32) (I : TI) (L : TL) (hp0 : LAY p0 = 2) {Q : TI → Prop} (h : W_X3_start p0 p1 p2 p3 p4 p5 p6 I L Q) : MW G Y_X3_start [.ref p0, .int p1, .int p2, .int p3, .int p4, .int p5, .int p6] (I, L, RT b d t, 457) (fun v9 u9 => ∃ (I9 : TI), v9 = none ∧ u9 = (I9, L, RT b d t, 457) ∧ Q I9) (fun _ _ => False) := by
  unfold W_X3_start at h
  refine MW.intro rfl (by decide) is_X3_start (Nat.le_of_ble_eq_true rfl) ?_
  show V G Y_X3_start 0 [(0, .ref p0), (1, .int p1), (2, .int p2), (3, .int p3), (4, .int p4), (5, .int p5), (6, .int p6)] [] (I, L, RT b d t, 457) 0 0 _ _
  refine v_aload_n (pc' := 1) 0 0 rfl rfl rfl rfl ?_
  refine v_iload_n (pc' := 2) 1 1 rfl rfl rfl rfl ?_
  refine v_putI (pc' := 5) 2 rfl rfl pf_X3_15 (fun q => absurd q (by decide)) hp0 (lay_lt hp0 (by decide)) ?_
  refine v_aload_n (pc' := 6) 3 0 rfl rfl rfl rfl ?_
  refine v_iload_n (pc' := 7) 4 2 rfl rfl rfl rfl ?_
  refine v_putI (pc' := 10) 5 rfl rfl pf_X3_18 (fun q => absurd q (by decide)) hp0 (lay_lt hp0 (by decide)) ?_
  refine v_aload_n (pc' := 11) 6 0 rfl rfl rfl rfl ?_
  refine v_iload_n (pc' := 12) 7 3 rfl rfl rfl rfl ?_
  refine v_putI (pc' := 15) 8 rfl rfl pf_X3_21 (fun q => absurd q (by decide)) hp0 (lay_lt hp0 (by decide)) ?_
  refine v_aload_n (pc' := 16) 9 0 rfl rfl rfl rfl ?_
  refine v_iload (pc' := 18) 10 4 rfl rfl rfl ?_
  refine v_putI (pc' := 21) 11 rfl rfl pf_X3_24 (fun q => absurd q (by decide)) hp0 (lay_lt hp0 (by decide)) ?_
  refine v_aload_n (pc' := 22) 12 0 rfl rfl rfl rfl ?_
  refine v_iload (pc' := 24) 13 5 rfl rfl rfl ?_
  refine v_putI (pc' := 27) 14 rfl rfl pf_X3_27 (fun q => absurd q (by decide)) hp0 (lay_lt hp0 (by decide)) ?_
  refine nm_M (e := (up2 (up2 (up2 (up2 (up2 I p0 0 p1) p0 1 p2) p0 2 p3) p0 3 p4) p0 4 p5)) (fun I766 hI766 => ?_)
  replace h := h I766 hI766
  refine v_aload_n (pc' := 28) 15 0 rfl rfl rfl rfl ?_
  refine v_iload (pc' := 30) 16 6 rfl rfl rfl ?_
  obtain ⟨hz767, h⟩ := h
  refine v_putZ (pc' := 33) 17 rfl rfl pf_X3_30 (fun q => absurd q (by decide)) hp0 (lay_lt hp0 (by decide)) hz767 ?_
  refine v_aload_n (pc' := 34) 18 0 rfl rfl rfl rfl ?_
  refine v_iconst (v := 0) (pc' := 35) 19 rfl rfl (by decide) ?_
  refine v_putI (pc' := 38) 20 rfl rfl pf_X3_34 (fun q => absurd q (by decide)) hp0 (lay_lt hp0 (by decide)) ?_
  refine v_aload_n (pc' := 39) 21 0 rfl rfl rfl rfl ?_
  refine v_iconst (v := -1) (pc' := 40) 22 rfl rfl (by decide) ?_
  refine v_putI (pc' := 43) 23 rfl rfl pf_X3_9 (fun q => absurd q (by decide)) hp0 (lay_lt hp0 (by decide)) ?_
  exact v_vret 24 rfl rfl (by decide) (by decide) ⟨_, rfl, rfl, h⟩
set_option maxHeartbeats 4000000 in
set_option maxRecDepth 100000 in
theorem ok_X3_copyFrom {G : GT} {b d t : Nat} (p0 : Nat) (p1 : Nat) (I : TI) (L : TL) (hp0 : LAY p0 = 2) (hp1 : LAY p1 = 2) {Q : TI → Prop} (h : W_X3_copyFrom p0 p1 I L Q) : MW G Y_X3_copyFrom [.ref p0, .ref p1] (I, L, RT b d t, 457) (fun v9 u9 => ∃ (I9 : TI), v9 = none ∧ u9 = (I9, L, RT b d t, 457) ∧ Q I9) (fun _ _ => False) := by
  unfold W_X3_copyFrom at h
  refine MW.intro rfl (by decide) is_X3_copyFrom (Nat.le_of_ble_eq_true rfl) ?_
  show V G Y_X3_copyFrom 0 [(0, .ref p0), (1, .ref p1)] [] (I, L, RT b d t, 457) 0 0 _ _
  refine v_aload_n (pc' := 1) 0 0 rfl rfl rfl rfl ?_
  refine v_aload_n (pc' := 2) 1 1 rfl rfl rfl rfl ?_
  refine v_getI (pc' := 5) 2 rfl rfl pf_X3_15 hp1 (lay_lt hp1 (by decide)) ?_
  refine v_aload_n (pc' := 6) 3 1 rfl rfl rfl rfl ?_
  refine v_getI (pc' := 9) 4 rfl rfl pf_X3_18 hp1 (lay_lt hp1 (by decide)) ?_
  refine v_aload_n (pc' := 10) 5 1 rfl rfl rfl rfl ?_
  refine v_getI (pc' := 13) 6 rfl rfl pf_X3_21 hp1 (lay_lt hp1 (by decide)) ?_
  refine v_aload_n (pc' := 14) 7 1 rfl rfl rfl rfl ?_
  refine v_getI (pc' := 17) 8 rfl rfl pf_X3_24 hp1 (lay_lt hp1 (by decide)) ?_
  refine v_aload_n (pc' := 18) 9 1 rfl rfl rfl rfl ?_
  refine v_getI (pc' := 21) 10 rfl rfl pf_X3_27 hp1 (lay_lt hp1 (by decide)) ?_
  refine v_aload_n (pc' := 22) 11 1 rfl rfl rfl rfl ?_
  refine v_getZ (pc' := 25) 12 rfl rfl pf_X3_30 hp1 (lay_lt hp1 (by decide)) ?_
  refine v_cV (Y2 := Y_X3_start) (As := [.int (I p1 0), .int (I p1 1), .int (I p1 2), .int (I p1 3), .int (I p1 4), .int (I p1 5)]) (b := p0) (pc' := 28) (c1 := 0) (s1 := 0) 13 rfl rfl mf_X3_start rfl rfl ml_X3_37 mi_X3_start se_X3_start (ci := 2) rfl hp0 (lay_lt hp0 (by decide)) rfl (Nat.le_of_ble_eq_true rfl) ⟨Nat.le_of_ble_eq_true rfl, Nat.le_of_ble_eq_true rfl⟩ rfl rfl (ok_X3_start p0 (I p1 0) (I p1 1) (I p1 2) (I p1 3) (I p1 4) (I p1 5) I L hp0 h) ?_ ?_
  · intro e9 u9 hx9
    exact hx9.elim
  intro v9 u9 hv9
  obtain ⟨I769, rfl, rfl, h⟩ := hv9
  refine ⟨fun q => absurd q (Nat.lt_irrefl _), ?_⟩
  show V G Y_X3_copyFrom 28 _ _ _ _ _ _ _
  refine v_aload_n (pc' := 29) 14 0 rfl rfl rfl rfl ?_
  refine v_aload_n (pc' := 30) 15 1 rfl rfl rfl rfl ?_
  refine v_getI (pc' := 33) 16 rfl rfl pf_X3_34 hp1 (lay_lt hp1 (by decide)) ?_
  refine v_putI (pc' := 36) 17 rfl rfl pf_X3_34 (fun q => absurd q (by decide)) hp0 (lay_lt hp0 (by decide)) ?_
  refine v_aload_n (pc' := 37) 18 0 rfl rfl rfl rfl ?_
  refine v_aload_n (pc' := 38) 19 1 rfl rfl rfl rfl ?_
  refine v_getI (pc' := 41) 20 rfl rfl pf_X3_9 hp1 (lay_lt hp1 (by decide)) ?_
  refine v_putI (pc' := 44) 21 rfl rfl pf_X3_9 (fun q => absurd q (by decide)) hp0 (lay_lt hp0 (by decide)) ?_
  refine nm_M (e := (up2 (up2 I769 p0 6 (I769 p1 6)) p0 7 ((up2 I769 p0 6 (I769 p1 6)) p1 7))) (fun I770 hI770 => ?_)
  replace h := h I770 hI770
  exact v_vret 22 rfl rfl (by decide) (by decide) ⟨_, rfl, rfl, h⟩
set_option maxHeartbeats 4000000 in
set_option maxRecDepth 100000 in
theorem ok_X3_times {G : GT} {b d t : Nat} (p0 : Nat) (I : TI) (L : TL) (hp0 : LAY p0 = 2) {Q : Int32 → Prop} (h : W_X3_times p0 I L Q) : MW G Y_X3_times [.ref p0] (I, L, RT b d t, 457) (fun v9 u9 => ∃ (r9 : Int32), v9 = some (.int r9) ∧ u9 = (I, L, RT b d t, 457) ∧ Q r9) (fun _ _ => False) := by
  unfold W_X3_times at h
  refine MW.intro rfl (by decide) is_X3_times (Nat.le_of_ble_eq_true rfl) ?_
  show V G Y_X3_times 0 [(0, .ref p0)] [] (I, L, RT b d t, 457) 0 0 _ _
  refine v_aload_n (pc' := 1) 0 0 rfl rfl rfl rfl ?_
  refine v_getI (pc' := 4) 1 rfl rfl pf_X3_21 hp0 (lay_lt hp0 (by decide)) ?_
  refine v_aload_n (pc' := 5) 2 0 rfl rfl rfl rfl ?_
  refine v_getI (pc' := 8) 3 rfl rfl pf_X3_18 hp0 (lay_lt hp0 (by decide)) ?_
  refine v_isub (pc' := 9) 4 rfl rfl ?_
  refine v_iconst (v := 1) (pc' := 10) 5 rfl rfl (by decide) ?_
  refine v_iadd (pc' := 11) 6 rfl rfl ?_
  exact v_iret 7 rfl rfl (by decide) (by decide) ⟨_, rfl, rfl, h⟩
set_option maxHeartbeats 4000000 in
set_option maxRecDepth 100000 in
theorem b_X3_loserBy_17 {G : GT} {b d t : Nat} (p0 : Nat) (s0 : Int32) (I : TI) (L : TL) (hp0 : LAY p0 = 2) (Q : Int32 → Prop)  (h : B_X3_loserBy_17 p0 s0 I L Q) : V G Y_X3_loserBy 17 [(0, .ref p0)] [.int s0] (I, L, RT b d t, 457) 0 0 (fun v9 u9 => ∃ (r9 : Int32), v9 = some (.int r9) ∧ u9 = (I, L, RT b d t, 457) ∧ Q r9) (fun _ _ => False) := by
  unfold B_X3_loserBy_17 at h
  refine v_aload_n (pc' := 18) 11 0 rfl rfl rfl rfl ?_
  refine v_getZ (pc' := 21) 12 rfl rfl pf_X3_30 hp0 (lay_lt hp0 (by decide)) ?_
  refine v_icmp_ne (tgt := 33) (pc' := 24) 13 rfl rfl (by decide) (fun hc => ?_) (fun hc => ?_)
  · replace h := h.1 hc
    refine v_aload_n (pc' := 34) 19 0 rfl rfl rfl rfl ?_
    refine v_getI (pc' := 37) 20 rfl rfl pf_X3_27 hp0 (lay_lt hp0 (by decide)) ?_
    exact v_iret 21 rfl rfl (by decide) (by decide) ⟨_, rfl, rfl, h⟩
  replace h := h.2 hc
  refine v_iconst (v := 1) (pc' := 25) 14 rfl rfl (by decide) ?_
  refine v_aload_n (pc' := 26) 15 0 rfl rfl rfl rfl ?_
  refine v_getI (pc' := 29) 16 rfl rfl pf_X3_27 hp0 (lay_lt hp0 (by decide)) ?_
  refine v_isub (pc' := 30) 17 rfl rfl ?_
  refine v_goto (tgt := 37) 18 rfl (by decide) ?_
  exact v_iret 21 rfl rfl (by decide) (by decide) ⟨_, rfl, rfl, h⟩
set_option maxHeartbeats 4000000 in
set_option maxRecDepth 100000 in
theorem ok_X3_loserBy {G : GT} {b d t : Nat} (p0 : Nat) (p1 : Int32) (I : TI) (L : TL) (hp0 : LAY p0 = 2) {Q : Int32 → Prop} (h : W_X3_loserBy p0 p1 I L Q) : MW G Y_X3_loserBy [.ref p0, .int p1] (I, L, RT b d t, 457) (fun v9 u9 => ∃ (r9 : Int32), v9 = some (.int r9) ∧ u9 = (I, L, RT b d t, 457) ∧ Q r9) (fun _ _ => False) := by
  unfold W_X3_loserBy at h
  refine MW.intro rfl (by decide) is_X3_loserBy (Nat.le_of_ble_eq_true rfl) ?_
  show V G Y_X3_loserBy 0 [(0, .ref p0), (1, .int p1)] [] (I, L, RT b d t, 457) 0 0 _ _
  refine v_iload_n (pc' := 1) 0 1 rfl rfl rfl rfl ?_
  refine v_iconst (v := -1) (pc' := 2) 1 rfl rfl (by decide) ?_
  refine v_icmp_ne (tgt := 7) (pc' := 5) 2 rfl rfl (by decide) (fun hc => ?_) (fun hc => ?_)
  · replace h := h.1 hc
    refine v_iload_n (pc' := 8) 5 1 rfl rfl rfl rfl ?_
    refine v_iconst (v := 1) (pc' := 9) 6 rfl rfl (by decide) ?_
    refine v_icmp_ne (tgt := 16) (pc' := 12) 7 rfl rfl (by decide) (fun hc => ?_) (fun hc => ?_)
    · replace h := h.1 hc
      refine v_iconst (v := 0) (pc' := 17) 10 rfl rfl (by decide) ?_
      refine V.sub [0] rfl ?_
      exact b_X3_loserBy_17 p0 (0 : Int32) I L hp0 Q h
    replace h := h.2 hc
    refine v_iconst (v := 1) (pc' := 13) 8 rfl rfl (by decide) ?_
    refine v_goto (tgt := 17) 9 rfl (by decide) ?_
    refine V.sub [0] rfl ?_
    exact b_X3_loserBy_17 p0 (1 : Int32) I L hp0 Q h
  replace h := h.2 hc
  refine v_iconst (v := -1) (pc' := 6) 3 rfl rfl (by decide) ?_
  exact v_iret 4 rfl rfl (by decide) (by decide) ⟨_, rfl, rfl, h⟩
set_option maxHeartbeats 4000000 in
set_option maxRecDepth 100000 in
theorem d_X6_copyFrom_115 {G : GT} {b d t : Nat} (p0 : Nat) (p1 : Nat) (L : TL) (hp0 : stOK p0) (hp1 : stOK p1) (Q : TI → TL → Prop) (R115 : Int32 → TI → Prop)  (hR115 : ∀ (v2 : Int32) (I : TI), R115 v2 I → V G Y_X6_copyFrom 115 [(0, .ref p0), (1, .ref p1), (2, .int v2)] [] (I, L, RT b d t, 457) 0 0 (fun v9 u9 => ∃ (I9 : TI) (L9 : TL), v9 = none ∧ u9 = (I9, L9, RT b d t, 457) ∧ Q I9 L9) (fun _ _ => False)) (v2 : Int32) (I : TI)  (h : D_X6_copyFrom_115 p0 p1 L Q R115 v2 I) : V G Y_X6_copyFrom 115 [(0, .ref p0), (1, .ref p1), (2, .int v2)] [] (I, L, RT b d t, 457) 0 0 (fun v9 u9 => ∃ (I9 : TI) (L9 : TL), v9 = none ∧ u9 = (I9, L9, RT b d t, 457) ∧ Q I9 L9) (fun _ _ => False) := by
  unfold D_X6_copyFrom_115 at h
  refine v_iload_n (pc' := 116) 65 2 rfl rfl rfl rfl ?_
  refine v_aload_n (pc' := 117) 66 0 rfl rfl rfl rfl ?_
  refine v_getI (pc' := 120) 67 rfl rfl pf_X6_39 (st0l hp0) (lay_lt (st0l hp0) (by decide)) ?_
  refine v_icmp_ge (tgt := 144) (pc' := 123) 68 rfl rfl (by decide) (fun hc => ?_) (fun hc => ?_)
  · replace h := h.1 hc
    refine v_aload_n (pc' := 145) 80 0 rfl rfl rfl rfl ?_
    refine v_aload_n (pc' := 146) 81 1 rfl rfl rfl rfl ?_
    refine v_getI (pc' := 149) 82 rfl rfl pf_X6_43 (st0l hp1) (lay_lt (st0l hp1) (by decide)) ?_
    refine v_putI (pc' := 152) 83 rfl rfl pf_X6_43 (fun q => absurd q (by decide)) (st0l hp0) (lay_lt (st0l hp0) (by decide)) ?_
    exact v_vret 84 rfl rfl (by decide) (by decide) ⟨_, _, rfl, rfl, h⟩
  replace h := h.2 hc
  refine v_aload_n (pc' := 124) 69 0 rfl rfl rfl rfl ?_
  refine v_getR (t := (p0 + 10)) (pc' := 127) 70 rfl rfl pf_X6_35 (st0l hp0) (lay_lt (st0l hp0) (by decide)) (rt_st_6 hp0) ?_
  refine v_iload_n (pc' := 128) 71 2 rfl rfl rfl rfl ?_
  obtain ⟨hi778, h⟩ := h
  refine v_aald5 (i := v2) (r := ((p0 + 11) + v2.toNatClampNeg)) (j := v2.toNatClampNeg) (pc' := 129) 72 rfl rfl (st10l hp0) (st10n hp0) (lay_lt (st10l hp0) (by decide)) hi778 rfl (rt_dis hp0 (vp_nat hi778)) ?_
  refine v_aload_n (pc' := 130) 73 1 rfl rfl rfl rfl ?_
  refine v_getR (t := (p1 + 10)) (pc' := 133) 74 rfl rfl pf_X6_35 (st0l hp1) (lay_lt (st0l hp1) (by decide)) (rt_st_6 hp1) ?_
  refine v_iload_n (pc' := 134) 75 2 rfl rfl rfl rfl ?_
  obtain ⟨hi779, h⟩ := h
  refine v_aald5 (i := v2) (r := ((p1 + 11) + v2.toNatClampNeg)) (j := v2.toNatClampNeg) (pc' := 135) 76 rfl rfl (st10l hp1) (st10n hp1) (lay_lt (st10l hp1) (by decide)) hi779 rfl (rt_dis hp1 (vp_nat hi779)) ?_
  refine v_cV (Y2 := Y_X3_copyFrom) (As := [.ref ((p1 + 11) + v2.toNatClampNeg)]) (b := ((p0 + 11) + v2.toNatClampNeg)) (pc' := 138) (c1 := 0) (s1 := 0) 77 rfl rfl mf_X3_copyFrom rfl rfl ml_X6_63 mi_X3_copyFrom se_X3_copyFrom (ci := 2) rfl (st_disl hp0 (vp_nat hi778)) (lay_lt (st_disl hp0 (vp_nat hi778)) (by decide)) rfl (Nat.le_of_ble_eq_true rfl) ⟨Nat.le_of_ble_eq_true rfl, Nat.le_of_ble_eq_true rfl⟩ rfl rfl (ok_X3_copyFrom ((p0 + 11) + v2.toNatClampNeg) ((p1 + 11) + v2.toNatClampNeg) I L (st_disl hp0 (vp_nat hi778)) (st_disl hp1 (vp_nat hi779)) h) ?_ ?_
  · intro e9 u9 hx9
    exact hx9.elim
  intro v9 u9 hv9
  obtain ⟨I780, rfl, rfl, h⟩ := hv9
  refine ⟨fun q => absurd q (Nat.lt_irrefl _), ?_⟩
  show V G Y_X6_copyFrom 138 _ _ _ _ _ _ _
  refine v_iinc (v := (v2 + 1)) (ls' := [(2, .int (v2 + 1)), (0, .ref p0), (1, .ref p1)]) (pc' := 141) 78 2 rfl rfl rfl rfl (by decide) rfl ?_
  refine v_goto (tgt := 115) 79 rfl (by decide) ?_
  refine V.sub [1, 2, 0] rfl ?_
  exact hR115 (v2 + 1) I780 h
theorem l_X6_copyFrom_115 {G : GT} {b d t : Nat} (p0 : Nat) (p1 : Nat) (L : TL) (hp0 : stOK p0) (hp1 : stOK p1) (Q : TI → TL → Prop)  : ∀ (n9 : Nat) (v2 : Int32) (I : TI), L_X6_copyFrom_115 p0 p1 L Q n9 v2 I → V G Y_X6_copyFrom 115 [(0, .ref p0), (1, .ref p1), (2, .int v2)] [] (I, L, RT b d t, 457) 0 0 (fun v9 u9 => ∃ (I9 : TI) (L9 : TL), v9 = none ∧ u9 = (I9, L9, RT b d t, 457) ∧ Q I9 L9) (fun _ _ => False)
  | 0, _, _, h => h.elim
  | n9 + 1, v2, I, h => d_X6_copyFrom_115 p0 p1 L hp0 hp1 Q _ (l_X6_copyFrom_115 p0 p1 L hp0 hp1 Q n9) v2 I h
set_option maxHeartbeats 4000000 in
set_option maxRecDepth 100000 in
theorem d_X6_copyFrom_2 {G : GT} {b d t : Nat} (p0 : Nat) (p1 : Nat) (L : TL) (hp0 : stOK p0) (hp1 : stOK p1) (Q : TI → TL → Prop) (R2 : Int32 → TI → Prop)  (hR2 : ∀ (v2 : Int32) (I : TI), R2 v2 I → V G Y_X6_copyFrom 2 [(0, .ref p0), (1, .ref p1), (2, .int v2)] [] (I, L, RT b d t, 457) 0 0 (fun v9 u9 => ∃ (I9 : TI) (L9 : TL), v9 = none ∧ u9 = (I9, L9, RT b d t, 457) ∧ Q I9 L9) (fun _ _ => False)) (v2 : Int32) (I : TI)  (h : D_X6_copyFrom_2 p0 p1 L Q R2 v2 I) : V G Y_X6_copyFrom 2 [(0, .ref p0), (1, .ref p1), (2, .int v2)] [] (I, L, RT b d t, 457) 0 0 (fun v9 u9 => ∃ (I9 : TI) (L9 : TL), v9 = none ∧ u9 = (I9, L9, RT b d t, 457) ∧ Q I9 L9) (fun _ _ => False) := by
  unfold D_X6_copyFrom_2 at h
  refine v_iload_n (pc' := 3) 2 2 rfl rfl rfl rfl ?_
  refine v_iconst (v := 3) (pc' := 4) 3 rfl rfl (by decide) ?_
  refine v_icmp_ge (tgt := 32) (pc' := 7) 4 rfl rfl (by decide) (fun hc => ?_) (fun hc => ?_)
  · replace h := h.1 hc
    refine v_aload_n (pc' := 33) 19 1 rfl rfl rfl rfl ?_
    refine v_getR (t := (p1 + 5)) (pc' := 36) 20 rfl rfl pf_X6_16 (st0l hp1) (lay_lt (st0l hp1) (by decide)) (rt_st_1 hp1) ?_
    refine v_iconst (v := 0) (pc' := 37) 21 rfl rfl (by decide) ?_
    refine v_aload_n (pc' := 38) 22 0 rfl rfl rfl rfl ?_
    refine v_getR (t := (p0 + 5)) (pc' := 41) 23 rfl rfl pf_X6_16 (st0l hp0) (lay_lt (st0l hp0) (by decide)) (rt_st_1 hp0) ?_
    refine v_iconst (v := 0) (pc' := 42) 24 rfl rfl (by decide) ?_
    refine v_iconst (v := 4) (pc' := 43) 25 rfl rfl (by decide) ?_
    refine v_copyl (pc' := 46) 26 rfl rfl cp_X6_57 (st5l hp1) (st5l hp0) (st5n hp1) (st5n hp0) (lay_lt (st5l hp1) (by decide)) (lay_lt (st5l hp0) (by decide)) (by decide) (by decide) (by decide) (by decide) (by decide) (by decide) (by decide) ?_
    refine v_aload_n (pc' := 47) 27 1 rfl rfl rfl rfl ?_
    refine v_getR (t := (p1 + 6)) (pc' := 50) 28 rfl rfl pf_X6_20 (st0l hp1) (lay_lt (st0l hp1) (by decide)) (rt_st_2 hp1) ?_
    refine v_iconst (v := 0) (pc' := 51) 29 rfl rfl (by decide) ?_
    refine v_aload_n (pc' := 52) 30 0 rfl rfl rfl rfl ?_
    refine v_getR (t := (p0 + 6)) (pc' := 55) 31 rfl rfl pf_X6_20 (st0l hp0) (lay_lt (st0l hp0) (by decide)) (rt_st_2 hp0) ?_
    refine v_iconst (v := 0) (pc' := 56) 32 rfl rfl (by decide) ?_
    refine v_bipush (v := 16) (pc' := 58) 33 rfl rfl (by decide) ?_
    refine v_copyl (pc' := 61) 34 rfl rfl cp_X6_57 (st6l hp1) (st6l hp0) (st6n hp1) (st6n hp0) (lay_lt (st6l hp1) (by decide)) (lay_lt (st6l hp0) (by decide)) (by decide) (by decide) (by decide) (by decide) (by decide) (by decide) (by decide) ?_
    refine nm_N (e := (cpy (cpy L (p1 + 5) (p0 + 5) 0 0 4) (p1 + 6) (p0 + 6) 0 0 16)) (fun L781 hL781 => ?_)
    replace h := h L781 hL781
    refine v_aload_n (pc' := 62) 35 1 rfl rfl rfl rfl ?_
    refine v_getR (t := (p1 + 7)) (pc' := 65) 36 rfl rfl pf_X6_23 (st0l hp1) (lay_lt (st0l hp1) (by decide)) (rt_st_3 hp1) ?_
    refine v_iconst (v := 0) (pc' := 66) 37 rfl rfl (by decide) ?_
    refine v_aload_n (pc' := 67) 38 0 rfl rfl rfl rfl ?_
    refine v_getR (t := (p0 + 7)) (pc' := 70) 39 rfl rfl pf_X6_23 (st0l hp0) (lay_lt (st0l hp0) (by decide)) (rt_st_3 hp0) ?_
    refine v_iconst (v := 0) (pc' := 71) 40 rfl rfl (by decide) ?_
    refine v_bipush (v := 16) (pc' := 73) 41 rfl rfl (by decide) ?_
    refine v_copyl (pc' := 76) 42 rfl rfl cp_X6_57 (st7l hp1) (st7l hp0) (st7n hp1) (st7n hp0) (lay_lt (st7l hp1) (by decide)) (lay_lt (st7l hp0) (by decide)) (by decide) (by decide) (by decide) (by decide) (by decide) (by decide) (by decide) ?_
    refine v_aload_n (pc' := 77) 43 1 rfl rfl rfl rfl ?_
    refine v_getR (t := (p1 + 8)) (pc' := 80) 44 rfl rfl pf_X6_26 (st0l hp1) (lay_lt (st0l hp1) (by decide)) (rt_st_4 hp1) ?_
    refine v_iconst (v := 0) (pc' := 81) 45 rfl rfl (by decide) ?_
    refine v_aload_n (pc' := 82) 46 0 rfl rfl rfl rfl ?_
    refine v_getR (t := (p0 + 8)) (pc' := 85) 47 rfl rfl pf_X6_26 (st0l hp0) (lay_lt (st0l hp0) (by decide)) (rt_st_4 hp0) ?_
    refine v_iconst (v := 0) (pc' := 86) 48 rfl rfl (by decide) ?_
    refine v_bipush (v := 16) (pc' := 88) 49 rfl rfl (by decide) ?_
    refine v_copyl (pc' := 91) 50 rfl rfl cp_X6_57 (st8l hp1) (st8l hp0) (st8n hp1) (st8n hp0) (lay_lt (st8l hp1) (by decide)) (lay_lt (st8l hp0) (by decide)) (by decide) (by decide) (by decide) (by decide) (by decide) (by decide) (by decide) ?_
    refine nm_N (e := (cpy (cpy L781 (p1 + 7) (p0 + 7) 0 0 16) (p1 + 8) (p0 + 8) 0 0 16)) (fun L782 hL782 => ?_)
    replace h := h L782 hL782
    refine v_aload_n (pc' := 92) 51 1 rfl rfl rfl rfl ?_
    refine v_getR (t := (p1 + 9)) (pc' := 95) 52 rfl rfl pf_X6_29 (st0l hp1) (lay_lt (st0l hp1) (by decide)) (rt_st_5 hp1) ?_
    refine v_iconst (v := 0) (pc' := 96) 53 rfl rfl (by decide) ?_
    refine v_aload_n (pc' := 97) 54 0 rfl rfl rfl rfl ?_
    refine v_getR (t := (p0 + 9)) (pc' := 100) 55 rfl rfl pf_X6_29 (st0l hp0) (lay_lt (st0l hp0) (by decide)) (rt_st_5 hp0) ?_
    refine v_iconst (v := 0) (pc' := 101) 56 rfl rfl (by decide) ?_
    refine v_iconst (v := 3) (pc' := 102) 57 rfl rfl (by decide) ?_
    refine v_copyi (pc' := 105) 58 rfl rfl cp_X6_57 (st9l hp1) (st9l hp0) (st9n hp1) (st9n hp0) (lay_lt (st9l hp1) (by decide)) (lay_lt (st9l hp0) (by decide)) (by decide) (by decide) (by decide) (by decide) (by decide) (by decide) (by decide) ?_
    refine v_aload_n (pc' := 106) 59 0 rfl rfl rfl rfl ?_
    refine v_aload_n (pc' := 107) 60 1 rfl rfl rfl rfl ?_
    refine v_getI (pc' := 110) 61 rfl rfl pf_X6_39 (st0l hp1) (lay_lt (st0l hp1) (by decide)) ?_
    refine v_putI (pc' := 113) 62 rfl rfl pf_X6_39 (fun q => absurd q (by decide)) (st0l hp0) (lay_lt (st0l hp0) (by decide)) ?_
    refine nm_M (e := (up2 (cpy I (p1 + 9) (p0 + 9) 0 0 3) p0 7 ((cpy I (p1 + 9) (p0 + 9) 0 0 3) p1 7))) (fun I783 hI783 => ?_)
    replace h := h I783 hI783
    refine v_iconst (v := 0) (pc' := 114) 63 rfl rfl (by decide) ?_
    refine v_istore_n (ls' := [(2, .int 0), (0, .ref p0), (1, .ref p1)]) (pc' := 115) 64 rfl rfl rfl (by decide) rfl ?_
    refine V.sub [1, 2, 0] rfl ?_
    obtain ⟨n784, h⟩ := h
    exact l_X6_copyFrom_115 p0 p1 L782 hp0 hp1 Q n784 (0 : Int32) I783 h
  replace h := h.2 hc
  refine v_aload_n (pc' := 8) 5 1 rfl rfl rfl rfl ?_
  refine v_getR (t := (p1 + 1)) (pc' := 11) 6 rfl rfl pf_X6_11 (st0l hp1) (lay_lt (st0l hp1) (by decide)) (rt_st_0 hp1) ?_
  refine v_iload_n (pc' := 12) 7 2 rfl rfl rfl rfl ?_
  obtain ⟨hi785, h⟩ := h
  refine v_aald6 (i := v2) (r := ((p1 + 2) + v2.toNatClampNeg)) (j := v2.toNatClampNeg) (pc' := 13) 8 rfl rfl (st1l hp1) (st1n hp1) (lay_lt (st1l hp1) (by decide)) hi785 rfl (rt_row hp1 (vp_nat hi785)) ?_
  refine v_iconst (v := 0) (pc' := 14) 9 rfl rfl (by decide) ?_
  refine v_aload_n (pc' := 15) 10 0 rfl rfl rfl rfl ?_
  refine v_getR (t := (p0 + 1)) (pc' := 18) 11 rfl rfl pf_X6_11 (st0l hp0) (lay_lt (st0l hp0) (by decide)) (rt_st_0 hp0) ?_
  refine v_iload_n (pc' := 19) 12 2 rfl rfl rfl rfl ?_
  obtain ⟨hi786, h⟩ := h
  refine v_aald6 (i := v2) (r := ((p0 + 2) + v2.toNatClampNeg)) (j := v2.toNatClampNeg) (pc' := 20) 13 rfl rfl (st1l hp0) (st1n hp0) (lay_lt (st1l hp0) (by decide)) hi786 rfl (rt_row hp0 (vp_nat hi786)) ?_
  refine v_iconst (v := 0) (pc' := 21) 14 rfl rfl (by decide) ?_
  refine v_bipush (v := 16) (pc' := 23) 15 rfl rfl (by decide) ?_
  refine v_copyi (pc' := 26) 16 rfl rfl cp_X6_57 (st_rowl hp1 (vp_nat hi785)) (st_rowl hp0 (vp_nat hi786)) (st_rown hp1 (vp_nat hi785)) (st_rown hp0 (vp_nat hi786)) (lay_lt (st_rowl hp1 (vp_nat hi785)) (by decide)) (lay_lt (st_rowl hp0 (vp_nat hi786)) (by decide)) (by decide) (by decide) (by decide) (by decide) (by decide) (by decide) (by decide) ?_
  refine nm_M (e := (cpy I ((p1 + 2) + v2.toNatClampNeg) ((p0 + 2) + v2.toNatClampNeg) 0 0 16)) (fun I787 hI787 => ?_)
  replace h := h I787 hI787
  refine v_iinc (v := (v2 + 1)) (ls' := [(2, .int (v2 + 1)), (0, .ref p0), (1, .ref p1)]) (pc' := 29) 17 2 rfl rfl rfl rfl (by decide) rfl ?_
  refine v_goto (tgt := 2) 18 rfl (by decide) ?_
  refine V.sub [1, 2, 0] rfl ?_
  exact hR2 (v2 + 1) I787 h
theorem l_X6_copyFrom_2 {G : GT} {b d t : Nat} (p0 : Nat) (p1 : Nat) (L : TL) (hp0 : stOK p0) (hp1 : stOK p1) (Q : TI → TL → Prop)  : ∀ (n9 : Nat) (v2 : Int32) (I : TI), L_X6_copyFrom_2 p0 p1 L Q n9 v2 I → V G Y_X6_copyFrom 2 [(0, .ref p0), (1, .ref p1), (2, .int v2)] [] (I, L, RT b d t, 457) 0 0 (fun v9 u9 => ∃ (I9 : TI) (L9 : TL), v9 = none ∧ u9 = (I9, L9, RT b d t, 457) ∧ Q I9 L9) (fun _ _ => False)
  | 0, _, _, h => h.elim
  | n9 + 1, v2, I, h => d_X6_copyFrom_2 p0 p1 L hp0 hp1 Q _ (l_X6_copyFrom_2 p0 p1 L hp0 hp1 Q n9) v2 I h
set_option maxHeartbeats 4000000 in
set_option maxRecDepth 100000 in
theorem ok_X6_copyFrom {G : GT} {b d t : Nat} (p0 : Nat) (p1 : Nat) (I : TI) (L : TL) (hp0 : stOK p0) (hp1 : stOK p1) {Q : TI → TL → Prop} (h : W_X6_copyFrom p0 p1 I L Q) : MW G Y_X6_copyFrom [.ref p0, .ref p1] (I, L, RT b d t, 457) (fun v9 u9 => ∃ (I9 : TI) (L9 : TL), v9 = none ∧ u9 = (I9, L9, RT b d t, 457) ∧ Q I9 L9) (fun _ _ => False) := by
  unfold W_X6_copyFrom at h
  refine MW.intro rfl (by decide) is_X6_copyFrom (Nat.le_of_ble_eq_true rfl) ?_
  show V G Y_X6_copyFrom 0 [(0, .ref p0), (1, .ref p1)] [] (I, L, RT b d t, 457) 0 0 _ _
  refine v_iconst (v := 0) (pc' := 1) 0 rfl rfl (by decide) ?_
  refine v_istore_n (ls' := [(2, .int 0), (0, .ref p0), (1, .ref p1)]) (pc' := 2) 1 rfl rfl rfl (by decide) rfl ?_
  refine V.sub [1, 2, 0] rfl ?_
  obtain ⟨n788, h⟩ := h
  exact l_X6_copyFrom_2 p0 p1 L hp0 hp1 Q n788 (0 : Int32) I h
set_option maxHeartbeats 4000000 in
set_option maxRecDepth 100000 in
theorem b_X4_record_33 {G : GT} {b d t : Nat} (p1 : Nat) (s1 : Int32) (I : TI) (L : TL) (hp1 : stOK p1) (Q : TI → TL → Prop)  (h : B_X4_record_33 p1 s1 I L Q) : V G Y_X4_record 33 [(0, .ref 1)] [.int s1, .ref 1] (I, L, RT b d t, 457) 0 0 (fun v9 u9 => ∃ (I9 : TI) (L9 : TL), v9 = none ∧ u9 = (I9, L9, RT b d t, 457) ∧ Q I9 L9) (fun _ _ => False) := by
  unfold B_X4_record_33 at h
  refine v_putI (pc' := 36) 18 rfl rfl pf_X4_30 (fun q => absurd q (by decide)) ly_1 (lay_lt ly_1 (by decide)) ?_
  refine v_aload_n (pc' := 37) 19 0 rfl rfl rfl rfl ?_
  refine v_aload_n (pc' := 38) 20 0 rfl rfl rfl rfl ?_
  refine v_getI (pc' := 41) 21 rfl rfl pf_X4_26 ly_1 (lay_lt ly_1 (by decide)) ?_
  refine v_iconst (v := 1) (pc' := 42) 22 rfl rfl (by decide) ?_
  refine v_iadd (pc' := 43) 23 rfl rfl ?_
  refine v_bipush (v := 10) (pc' := 45) 24 rfl rfl (by decide) ?_
  refine v_mmin (pc' := 48) 25 rfl rfl mm_X4_37 (Nat.le_of_ble_eq_true rfl) (by decide) (by decide) ⟨Nat.le_of_ble_eq_true rfl, Nat.le_of_ble_eq_true rfl⟩ ?_
  refine v_putI (pc' := 51) 26 rfl rfl pf_X4_26 (fun q => absurd q (by decide)) ly_1 (lay_lt ly_1 (by decide)) ?_
  refine nm_M (e := (up2 (up2 I 1 4 s1) 1 3 (mnI (((up2 I 1 4 s1) 1 3) + 1) (10 : Int32)))) (fun I795 hI795 => ?_)
  replace h := h I795 hI795
  exact v_vret 27 rfl rfl (by decide) (by decide) ⟨_, _, rfl, rfl, h⟩
set_option maxHeartbeats 4000000 in
set_option maxRecDepth 100000 in
theorem ok_X4_record {G : GT} {b d t : Nat} (p1 : Nat) (I : TI) (L : TL) (hp1 : stOK p1) {Q : TI → TL → Prop} (h : W_X4_record p1 I L Q) : MW G Y_X4_record [.ref 1, .ref p1] (I, L, RT b d t, 457) (fun v9 u9 => ∃ (I9 : TI) (L9 : TL), v9 = none ∧ u9 = (I9, L9, RT b d t, 457) ∧ Q I9 L9) (fun _ _ => False) := by
  unfold W_X4_record at h
  refine MW.intro rfl (by decide) is_X4_record (Nat.le_of_ble_eq_true rfl) ?_
  show V G Y_X4_record 0 [(0, .ref 1), (1, .ref p1)] [] (I, L, RT b d t, 457) 0 0 _ _
  refine v_aload_n (pc' := 1) 0 0 rfl rfl rfl rfl ?_
  refine v_getR (t := 2) (pc' := 4) 1 rfl rfl pf_X4_11 ly_1 (lay_lt ly_1 (by decide)) rt_1_0 ?_
  refine v_aload_n (pc' := 5) 2 0 rfl rfl rfl rfl ?_
  refine v_getI (pc' := 8) 3 rfl rfl pf_X4_30 ly_1 (lay_lt ly_1 (by decide)) ?_
  obtain ⟨hi796, h⟩ := h
  refine v_aald4 (i := (I 1 4)) (r := (34 + 31 * (I 1 4).toNatClampNeg)) (j := (I 1 4).toNatClampNeg) (pc' := 9) 4 rfl rfl ly_2 ln_2 (lay_lt ly_2 (by decide)) hi796 rfl (rt_hs (vp_nat hi796)) ?_
  refine v_aload_n (pc' := 10) 5 1 rfl rfl rfl rfl ?_
  refine v_cV (Y2 := Y_X6_copyFrom) (As := [.ref p1]) (b := (34 + 31 * (I 1 4).toNatClampNeg)) (pc' := 13) (c1 := 0) (s1 := 0) 6 rfl rfl mf_X6_copyFrom rfl rfl ml_X4_33 mi_X6_copyFrom se_X6_copyFrom (ci := 5) rfl (st0l (hs_row (vp_nat hi796))) (lay_lt (st0l (hs_row (vp_nat hi796))) (by decide)) rfl (Nat.le_of_ble_eq_true rfl) ⟨Nat.le_of_ble_eq_true rfl, Nat.le_of_ble_eq_true rfl⟩ rfl rfl (ok_X6_copyFrom (34 + 31 * (I 1 4).toNatClampNeg) p1 I L (hs_row (vp_nat hi796)) hp1 h) ?_ ?_
  · intro e9 u9 hx9
    exact hx9.elim
  intro v9 u9 hv9
  obtain ⟨I797, L798, rfl, rfl, h⟩ := hv9
  refine ⟨fun q => absurd q (Nat.lt_irrefl _), ?_⟩
  show V G Y_X4_record 13 _ _ _ _ _ _ _
  refine v_aload_n (pc' := 14) 7 0 rfl rfl rfl rfl ?_
  refine v_aload_n (pc' := 15) 8 0 rfl rfl rfl rfl ?_
  refine v_getI (pc' := 18) 9 rfl rfl pf_X4_30 ly_1 (lay_lt ly_1 (by decide)) ?_
  refine v_bipush (v := 9) (pc' := 20) 10 rfl rfl (by decide) ?_
  refine v_icmp_ne (tgt := 27) (pc' := 23) 11 rfl rfl (by decide) (fun hc => ?_) (fun hc => ?_)
  · replace h := h.1 hc
    refine v_aload_n (pc' := 28) 14 0 rfl rfl rfl rfl ?_
    refine v_getI (pc' := 31) 15 rfl rfl pf_X4_30 ly_1 (lay_lt ly_1 (by decide)) ?_
    refine v_iconst (v := 1) (pc' := 32) 16 rfl rfl (by decide) ?_
    refine v_iadd (pc' := 33) 17 rfl rfl ?_
    refine V.sub [0] rfl ?_
    exact b_X4_record_33 p1 ((I797 1 4) + 1) I797 L798 hp1 Q h
  replace h := h.2 hc
  refine v_iconst (v := 0) (pc' := 24) 12 rfl rfl (by decide) ?_
  refine v_goto (tgt := 33) 13 rfl (by decide) ?_
  refine V.sub [0] rfl ?_
  exact b_X4_record_33 p1 (0 : Int32) I797 L798 hp1 Q h
set_option maxHeartbeats 4000000 in
set_option maxRecDepth 100000 in
theorem b_X4_takeBack_19 {G : GT} {b d t : Nat} (p1 : Nat) (s1 : Int32) (I : TI) (L : TL) (hp1 : stOK p1) (Q : TI → TL → Prop)  (h : B_X4_takeBack_19 p1 s1 I L Q) : V G Y_X4_takeBack 19 [(0, .ref 1), (1, .ref p1)] [.int s1, .ref 1] (I, L, RT b d t, 457) 0 0 (fun v9 u9 => ∃ (I9 : TI) (L9 : TL), v9 = none ∧ u9 = (I9, L9, RT b d t, 457) ∧ Q I9 L9) (fun _ _ => False) := by
  unfold B_X4_takeBack_19 at h
  refine v_putI (pc' := 22) 10 rfl rfl pf_X4_30 (fun q => absurd q (by decide)) ly_1 (lay_lt ly_1 (by decide)) ?_
  refine v_aload_n (pc' := 23) 11 0 rfl rfl rfl rfl ?_
  refine v_dup (pc' := 24) 12 rfl rfl rfl ?_
  refine v_getI (pc' := 27) 13 rfl rfl pf_X4_26 ly_1 (lay_lt ly_1 (by decide)) ?_
  refine v_iconst (v := 1) (pc' := 28) 14 rfl rfl (by decide) ?_
  refine v_isub (pc' := 29) 15 rfl rfl ?_
  refine v_putI (pc' := 32) 16 rfl rfl pf_X4_26 (fun q => absurd q (by decide)) ly_1 (lay_lt ly_1 (by decide)) ?_
  refine v_aload_n (pc' := 33) 17 1 rfl rfl rfl rfl ?_
  refine v_aload_n (pc' := 34) 18 0 rfl rfl rfl rfl ?_
  refine v_getR (t := 2) (pc' := 37) 19 rfl rfl pf_X4_11 ly_1 (lay_lt ly_1 (by decide)) rt_1_0 ?_
  refine v_aload_n (pc' := 38) 20 0 rfl rfl rfl rfl ?_
  refine v_getI (pc' := 41) 21 rfl rfl pf_X4_30 ly_1 (lay_lt ly_1 (by decide)) ?_
  obtain ⟨hi805, h⟩ := h
  refine v_aald4 (i := ((up2 (up2 I 1 4 s1) 1 3 (((up2 I 1 4 s1) 1 3) - 1)) 1 4)) (r := (34 + 31 * ((up2 (up2 I 1 4 s1) 1 3 (((up2 I 1 4 s1) 1 3) - 1)) 1 4).toNatClampNeg)) (j := ((up2 (up2 I 1 4 s1) 1 3 (((up2 I 1 4 s1) 1 3) - 1)) 1 4).toNatClampNeg) (pc' := 42) 22 rfl rfl ly_2 ln_2 (lay_lt ly_2 (by decide)) hi805 rfl (rt_hs (vp_nat hi805)) ?_
  refine v_cV (Y2 := Y_X6_copyFrom) (As := [.ref (34 + 31 * ((up2 (up2 I 1 4 s1) 1 3 (((up2 I 1 4 s1) 1 3) - 1)) 1 4).toNatClampNeg)]) (b := p1) (pc' := 45) (c1 := 0) (s1 := 0) 23 rfl rfl mf_X6_copyFrom rfl rfl ml_X4_33 mi_X6_copyFrom se_X6_copyFrom (ci := 5) rfl (st0l hp1) (lay_lt (st0l hp1) (by decide)) rfl (Nat.le_of_ble_eq_true rfl) ⟨Nat.le_of_ble_eq_true rfl, Nat.le_of_ble_eq_true rfl⟩ rfl rfl (ok_X6_copyFrom p1 (34 + 31 * ((up2 (up2 I 1 4 s1) 1 3 (((up2 I 1 4 s1) 1 3) - 1)) 1 4).toNatClampNeg) (up2 (up2 I 1 4 s1) 1 3 (((up2 I 1 4 s1) 1 3) - 1)) L hp1 (hs_row (vp_nat hi805)) h) ?_ ?_
  · intro e9 u9 hx9
    exact hx9.elim
  intro v9 u9 hv9
  obtain ⟨I806, L807, rfl, rfl, h⟩ := hv9
  refine ⟨fun q => absurd q (Nat.lt_irrefl _), ?_⟩
  show V G Y_X4_takeBack 45 _ _ _ _ _ _ _
  exact v_vret 24 rfl rfl (by decide) (by decide) ⟨_, _, rfl, rfl, h⟩
set_option maxHeartbeats 4000000 in
set_option maxRecDepth 100000 in
theorem ok_X4_takeBack {G : GT} {b d t : Nat} (p1 : Nat) (I : TI) (L : TL) (hp1 : stOK p1) {Q : TI → TL → Prop} (h : W_X4_takeBack p1 I L Q) : MW G Y_X4_takeBack [.ref 1, .ref p1] (I, L, RT b d t, 457) (fun v9 u9 => ∃ (I9 : TI) (L9 : TL), v9 = none ∧ u9 = (I9, L9, RT b d t, 457) ∧ Q I9 L9) (fun _ _ => False) := by
  unfold W_X4_takeBack at h
  refine MW.intro rfl (by decide) is_X4_takeBack (Nat.le_of_ble_eq_true rfl) ?_
  show V G Y_X4_takeBack 0 [(0, .ref 1), (1, .ref p1)] [] (I, L, RT b d t, 457) 0 0 _ _
  refine v_aload_n (pc' := 1) 0 0 rfl rfl rfl rfl ?_
  refine v_aload_n (pc' := 2) 1 0 rfl rfl rfl rfl ?_
  refine v_getI (pc' := 5) 2 rfl rfl pf_X4_30 ly_1 (lay_lt ly_1 (by decide)) ?_
  refine v_if_ne (tgt := 13) (pc' := 8) 3 rfl rfl (by decide) (fun hc => ?_) (fun hc => ?_)
  · replace h := h.1 hc
    refine v_aload_n (pc' := 14) 6 0 rfl rfl rfl rfl ?_
    refine v_getI (pc' := 17) 7 rfl rfl pf_X4_30 ly_1 (lay_lt ly_1 (by decide)) ?_
    refine v_iconst (v := 1) (pc' := 18) 8 rfl rfl (by decide) ?_
    refine v_isub (pc' := 19) 9 rfl rfl ?_
    exact b_X4_takeBack_19 p1 ((I 1 4) - 1) I L hp1 Q h
  replace h := h.2 hc
  refine v_bipush (v := 9) (pc' := 10) 4 rfl rfl (by decide) ?_
  refine v_goto (tgt := 19) 5 rfl (by decide) ?_
  exact b_X4_takeBack_19 p1 (9 : Int32) I L hp1 Q h
set_option maxHeartbeats 4000000 in
set_option maxRecDepth 100000 in
theorem ok_X4_keep {G : GT} {b d t : Nat} (p1 : Nat) (I : TI) (L : TL) (hp1 : stOK p1) {Q : TI → TL → Prop} (h : W_X4_keep p1 I L Q) : MW G Y_X4_keep [.ref 1, .ref p1] (I, L, RT b d t, 457) (fun v9 u9 => ∃ (I9 : TI) (L9 : TL), v9 = none ∧ u9 = (I9, L9, RT b d t, 457) ∧ Q I9 L9) (fun _ _ => False) := by
  unfold W_X4_keep at h
  refine MW.intro rfl (by decide) is_X4_keep (Nat.le_of_ble_eq_true rfl) ?_
  show V G Y_X4_keep 0 [(0, .ref 1), (1, .ref p1)] [] (I, L, RT b d t, 457) 0 0 _ _
  refine v_aload_n (pc' := 1) 0 0 rfl rfl rfl rfl ?_
  refine v_getR (t := 3) (pc' := 4) 1 rfl rfl pf_X4_18 ly_1 (lay_lt ly_1 (by decide)) rt_1_1 ?_
  refine v_aload_n (pc' := 5) 2 1 rfl rfl rfl rfl ?_
  refine v_cV (Y2 := Y_X6_copyFrom) (As := [.ref p1]) (b := 3) (pc' := 8) (c1 := 0) (s1 := 0) 3 rfl rfl mf_X6_copyFrom rfl rfl ml_X4_33 mi_X6_copyFrom se_X6_copyFrom (ci := 5) rfl (st0l st_3) (lay_lt (st0l st_3) (by decide)) rfl (Nat.le_of_ble_eq_true rfl) ⟨Nat.le_of_ble_eq_true rfl, Nat.le_of_ble_eq_true rfl⟩ rfl rfl (ok_X6_copyFrom 3 p1 I L st_3 hp1 h) ?_ ?_
  · intro e9 u9 hx9
    exact hx9.elim
  intro v9 u9 hv9
  obtain ⟨I810, L811, rfl, rfl, h⟩ := hv9
  refine ⟨fun q => absurd q (Nat.lt_irrefl _), ?_⟩
  show V G Y_X4_keep 8 _ _ _ _ _ _ _
  refine v_aload_n (pc' := 9) 4 0 rfl rfl rfl rfl ?_
  refine v_iconst (v := 1) (pc' := 10) 5 rfl rfl (by decide) ?_
  refine v_putZ (pc' := 13) 6 rfl rfl pf_X4_22 (fun q => absurd q (by decide)) ly_1 (lay_lt ly_1 (by decide)) (by decide) ?_
  exact v_vret 7 rfl rfl (by decide) (by decide) ⟨_, _, rfl, rfl, h⟩
set_option maxHeartbeats 4000000 in
set_option maxRecDepth 100000 in
theorem ok_X4_bringBack {G : GT} {b d t : Nat} (p1 : Nat) (I : TI) (L : TL) (hp1 : stOK p1) {Q : TI → TL → Prop} (h : W_X4_bringBack p1 I L Q) : MW G Y_X4_bringBack [.ref 1, .ref p1] (I, L, RT b d t, 457) (fun v9 u9 => ∃ (I9 : TI) (L9 : TL), v9 = none ∧ u9 = (I9, L9, RT b d t, 457) ∧ Q I9 L9) (fun _ _ => False) := by
  unfold W_X4_bringBack at h
  refine MW.intro rfl (by decide) is_X4_bringBack (Nat.le_of_ble_eq_true rfl) ?_
  show V G Y_X4_bringBack 0 [(0, .ref 1), (1, .ref p1)] [] (I, L, RT b d t, 457) 0 0 _ _
  refine v_aload_n (pc' := 1) 0 1 rfl rfl rfl rfl ?_
  refine v_aload_n (pc' := 2) 1 0 rfl rfl rfl rfl ?_
  refine v_getR (t := 3) (pc' := 5) 2 rfl rfl pf_X4_18 ly_1 (lay_lt ly_1 (by decide)) rt_1_1 ?_
  refine v_cV (Y2 := Y_X6_copyFrom) (As := [.ref 3]) (b := p1) (pc' := 8) (c1 := 0) (s1 := 0) 3 rfl rfl mf_X6_copyFrom rfl rfl ml_X4_33 mi_X6_copyFrom se_X6_copyFrom (ci := 5) rfl (st0l hp1) (lay_lt (st0l hp1) (by decide)) rfl (Nat.le_of_ble_eq_true rfl) ⟨Nat.le_of_ble_eq_true rfl, Nat.le_of_ble_eq_true rfl⟩ rfl rfl (ok_X6_copyFrom p1 3 I L hp1 st_3 h) ?_ ?_
  · intro e9 u9 hx9
    exact hx9.elim
  intro v9 u9 hv9
  obtain ⟨I814, L815, rfl, rfl, h⟩ := hv9
  refine ⟨fun q => absurd q (Nat.lt_irrefl _), ?_⟩
  show V G Y_X4_bringBack 8 _ _ _ _ _ _ _
  refine v_aload_n (pc' := 9) 4 0 rfl rfl rfl rfl ?_
  refine v_iconst (v := 0) (pc' := 10) 5 rfl rfl (by decide) ?_
  refine v_putI (pc' := 13) 6 rfl rfl pf_X4_26 (fun q => absurd q (by decide)) ly_1 (lay_lt ly_1 (by decide)) ?_
  exact v_vret 7 rfl rfl (by decide) (by decide) ⟨_, _, rfl, rfl, h⟩
set_option maxHeartbeats 4000000 in
set_option maxRecDepth 100000 in
theorem ok_X4_discardAll {G : GT} {b d t : Nat} (I : TI) (L : TL)  {Q : TI → Prop} (h : W_X4_discardAll I L Q) : MW G Y_X4_discardAll [.ref 1] (I, L, RT b d t, 457) (fun v9 u9 => ∃ (I9 : TI), v9 = none ∧ u9 = (I9, L, RT b d t, 457) ∧ Q I9) (fun _ _ => False) := by
  unfold W_X4_discardAll at h
  refine MW.intro rfl (by decide) is_X4_discardAll (Nat.le_of_ble_eq_true rfl) ?_
  show V G Y_X4_discardAll 0 [(0, .ref 1)] [] (I, L, RT b d t, 457) 0 0 _ _
  refine v_aload_n (pc' := 1) 0 0 rfl rfl rfl rfl ?_
  refine v_iconst (v := 0) (pc' := 2) 1 rfl rfl (by decide) ?_
  refine v_putI (pc' := 5) 2 rfl rfl pf_X4_26 (fun q => absurd q (by decide)) ly_1 (lay_lt ly_1 (by decide)) ?_
  refine v_aload_n (pc' := 6) 3 0 rfl rfl rfl rfl ?_
  refine v_iconst (v := 0) (pc' := 7) 4 rfl rfl (by decide) ?_
  refine v_putZ (pc' := 10) 5 rfl rfl pf_X4_22 (fun q => absurd q (by decide)) ly_1 (lay_lt ly_1 (by decide)) (by decide) ?_
  exact v_vret 6 rfl rfl (by decide) (by decide) ⟨_, rfl, rfl, h⟩
set_option maxHeartbeats 4000000 in
set_option maxRecDepth 100000 in
theorem ok_X5_beginTest {G : GT} {b d t : Nat} (I : TI) (L : TL)  {Q : TI → Prop} (h : W_X5_beginTest I L Q) : MW G Y_X5_beginTest [.ref 346] (I, L, RT b d t, 457) (fun v9 u9 => ∃ (I9 : TI), v9 = none ∧ u9 = (I9, L, RT b d t, 457) ∧ Q I9) (fun _ _ => False) := by
  unfold W_X5_beginTest at h
  refine MW.intro rfl (by decide) is_X5_beginTest (Nat.le_of_ble_eq_true rfl) ?_
  show V G Y_X5_beginTest 0 [(0, .ref 346)] [] (I, L, RT b d t, 457) 0 0 _ _
  refine v_aload_n (pc' := 1) 0 0 rfl rfl rfl rfl ?_
  refine v_iconst (v := 0) (pc' := 2) 1 rfl rfl (by decide) ?_
  refine v_putI (pc' := 5) 2 rfl rfl pf_X5_29 (fun q => absurd q (by decide)) ly_346 (lay_lt ly_346 (by decide)) ?_
  refine v_aload_n (pc' := 6) 3 0 rfl rfl rfl rfl ?_
  refine v_aload_n (pc' := 7) 4 0 rfl rfl rfl rfl ?_
  refine v_getI (pc' := 10) 5 rfl rfl pf_X5_26 ly_346 (lay_lt ly_346 (by decide)) ?_
  refine v_putI (pc' := 13) 6 rfl rfl pf_X5_32 (fun q => absurd q (by decide)) ly_346 (lay_lt ly_346 (by decide)) ?_
  exact v_vret 7 rfl rfl (by decide) (by decide) ⟨_, rfl, rfl, h⟩
set_option maxHeartbeats 4000000 in
set_option maxRecDepth 100000 in
theorem b_X5_openFactors_103 {G : GT} {b d : Nat} (v3 : Int32) (I : TI) (L : TL) (t : Nat) (ht : txOK t) (Q : TI → Prop) (R9 : Int32 → Int32 → TI → Prop) (hR9 : ∀ (v2 : Int32) (v3 : Int32) (I : TI), R9 v2 v3 I → V G Y_X5_openFactors 9 [(0, .ref 346), (1, .ref 344), (2, .int v2), (3, .int v3)] [] (I, L, RT b d t, 457) 0 0 (fun v9 u9 => ∃ (I9 : TI), v9 = none ∧ u9 = (I9, L, RT b d t, 457) ∧ Q I9) (fun _ _ => False)) (h : B_X5_openFactors_103 v3 I L t Q R9) : V G Y_X5_openFactors 103 [(0, .ref 346), (1, .ref 344), (3, .int v3)] [] (I, L, RT b d t, 457) 0 0 (fun v9 u9 => ∃ (I9 : TI), v9 = none ∧ u9 = (I9, L, RT b d t, 457) ∧ Q I9) (fun _ _ => False) := by
  unfold B_X5_openFactors_103 at h
  refine v_aload_n (pc' := 104) 55 1 rfl rfl rfl rfl ?_
  refine v_ldcS (pc' := 106) 56 rfl rfl sr_X5_69 ?_
  refine v_cV (Y2 := Y_X7_isWord) (As := [.ref 467]) (b := 344) (pc' := 109) (c1 := 0) (s1 := 0) 57 rfl rfl mf_X7_isWord rfl rfl ml_X5_71 mi_X7_isWord se_X7_isWord (ci := 6) rfl ly_344 (lay_lt ly_344 (by decide)) rfl (Nat.le_of_ble_eq_true rfl) ⟨Nat.le_of_ble_eq_true rfl, Nat.le_of_ble_eq_true rfl⟩ rfl rfl (ok_X7_isWord 467 I L t ht h) ?_ ?_
  · intro e9 u9 hx9
    exact hx9.elim
  intro v9 u9 hv9
  obtain ⟨r834, rfl, rfl, h⟩ := hv9
  refine ⟨fun q => absurd q (Nat.lt_irrefl _), ?_⟩
  show V G Y_X5_openFactors 109 _ (.int r834 :: _) _ _ _ _ _
  refine v_istore_n (ls' := [(2, .int r834), (0, .ref 346), (1, .ref 344), (3, .int v3)]) (pc' := 110) 58 rfl rfl rfl (by decide) rfl ?_
  refine v_iinc (v := (v3 + 1)) (ls' := [(3, .int (v3 + 1)), (2, .int r834), (0, .ref 346), (1, .ref 344)]) (pc' := 113) 59 3 rfl rfl rfl rfl (by decide) rfl ?_
  refine v_goto (tgt := 9) 60 rfl (by decide) ?_
  refine V.sub [2, 3, 1, 0] rfl ?_
  exact hR9 r834 (v3 + 1) I h
set_option maxHeartbeats 4000000 in
set_option maxRecDepth 100000 in
theorem b_X5_openFactors_99 {G : GT} {b d : Nat} (v3 : Int32) (I : TI) (L : TL) (t : Nat) (ht : txOK t) (Q : TI → Prop) (R9 : Int32 → Int32 → TI → Prop) (hR9 : ∀ (v2 : Int32) (v3 : Int32) (I : TI), R9 v2 v3 I → V G Y_X5_openFactors 9 [(0, .ref 346), (1, .ref 344), (2, .int v2), (3, .int v3)] [] (I, L, RT b d t, 457) 0 0 (fun v9 u9 => ∃ (I9 : TI), v9 = none ∧ u9 = (I9, L, RT b d t, 457) ∧ Q I9) (fun _ _ => False)) (h : B_X5_openFactors_99 v3 I L t Q R9) : V G Y_X5_openFactors 99 [(0, .ref 346), (1, .ref 344), (3, .int v3)] [] (I, L, RT b d t, 457) 0 0 (fun v9 u9 => ∃ (I9 : TI), v9 = none ∧ u9 = (I9, L, RT b d t, 457) ∧ Q I9) (fun _ _ => False) := by
  unfold B_X5_openFactors_99 at h
  refine v_aload_n (pc' := 100) 53 1 rfl rfl rfl rfl ?_
  refine v_cV (Y2 := Y_X7_advance) (As := []) (b := 344) (pc' := 103) (c1 := 0) (s1 := 0) 54 rfl rfl mf_X7_advance rfl rfl ml_X5_84 mi_X7_advance se_X7_advance (ci := 6) rfl ly_344 (lay_lt ly_344 (by decide)) rfl (Nat.le_of_ble_eq_true rfl) ⟨Nat.le_of_ble_eq_true rfl, Nat.le_of_ble_eq_true rfl⟩ rfl rfl (ok_X7_advance I L t ht h) ?_ ?_
  · intro e9 u9 hx9
    exact hx9.elim
  intro v9 u9 hv9
  obtain ⟨I835, rfl, rfl, h⟩ := hv9
  refine ⟨fun q => absurd q (Nat.lt_irrefl _), ?_⟩
  show V G Y_X5_openFactors 103 _ _ _ _ _ _ _
  exact b_X5_openFactors_103 v3 I835 L t ht Q R9 hR9 h
set_option maxHeartbeats 4000000 in
set_option maxRecDepth 100000 in
theorem b_X5_openFactors_28 {G : GT} {b d : Nat} (v2 : Int32) (v3 : Int32) (I : TI) (L : TL) (t : Nat) (ht : txOK t) (Q : TI → Prop) (R9 : Int32 → Int32 → TI → Prop) (hR9 : ∀ (v2 : Int32) (v3 : Int32) (I : TI), R9 v2 v3 I → V G Y_X5_openFactors 9 [(0, .ref 346), (1, .ref 344), (2, .int v2), (3, .int v3)] [] (I, L, RT b d t, 457) 0 0 (fun v9 u9 => ∃ (I9 : TI), v9 = none ∧ u9 = (I9, L, RT b d t, 457) ∧ Q I9) (fun _ _ => False)) (h : B_X5_openFactors_28 v2 v3 I L t Q R9) : V G Y_X5_openFactors 28 [(0, .ref 346), (1, .ref 344), (2, .int v2), (3, .int v3)] [] (I, L, RT b d t, 457) 0 0 (fun v9 u9 => ∃ (I9 : TI), v9 = none ∧ u9 = (I9, L, RT b d t, 457) ∧ Q I9) (fun _ _ => False) := by
  unfold B_X5_openFactors_28 at h
  refine v_aload_n (pc' := 29) 15 0 rfl rfl rfl rfl ?_
  refine v_getI (pc' := 32) 16 rfl rfl pf_X5_22 ly_346 (lay_lt ly_346 (by decide)) ?_
  refine v_bipush (v := 6) (pc' := 34) 17 rfl rfl (by decide) ?_
  refine v_icmp_lt (tgt := 45) (pc' := 37) 18 rfl rfl (by decide) (fun hc => ?_) (fun hc => ?_)
  · replace h := h.1 hc
    refine v_aload_n (pc' := 46) 23 0 rfl rfl rfl rfl ?_
    refine v_getR (t := 347) (pc' := 49) 24 rfl rfl pf_X5_9 ly_346 (lay_lt ly_346 (by decide)) rt_346_0 ?_
    refine v_aload_n (pc' := 50) 25 0 rfl rfl rfl rfl ?_
    refine v_getI (pc' := 53) 26 rfl rfl pf_X5_22 ly_346 (lay_lt ly_346 (by decide)) ?_
    refine v_iload_n (pc' := 54) 27 2 rfl rfl rfl rfl ?_
    obtain ⟨hi836, h⟩ := h
    refine v_zast (i := (I 346 3)) (j := (I 346 3).toNatClampNeg) (pc' := 55) 28 rfl rfl ly_347 ln_347 (lay_lt ly_347 (by decide)) hi836 rfl ?_
    refine v_aload_n (pc' := 56) 29 0 rfl rfl rfl rfl ?_
    refine v_getR (t := 348) (pc' := 59) 30 rfl rfl pf_X5_15 ly_346 (lay_lt ly_346 (by decide)) rt_346_1 ?_
    refine v_aload_n (pc' := 60) 31 0 rfl rfl rfl rfl ?_
    refine v_getI (pc' := 63) 32 rfl rfl pf_X5_22 ly_346 (lay_lt ly_346 (by decide)) ?_
    refine v_aload_n (pc' := 64) 33 0 rfl rfl rfl rfl ?_
    refine v_getI (pc' := 67) 34 rfl rfl pf_X5_29 ly_346 (lay_lt ly_346 (by decide)) ?_
    obtain ⟨hi837, h⟩ := h
    refine v_iast (i := ((up2 I 347 ((I 346 3).toNatClampNeg) (v2 &&& 1)) 346 3)) (j := ((up2 I 347 ((I 346 3).toNatClampNeg) (v2 &&& 1)) 346 3).toNatClampNeg) (pc' := 68) 35 rfl rfl ly_348 ln_348 (lay_lt ly_348 (by decide)) hi837 rfl ?_
    refine nm_M (e := (up2 (up2 I 347 ((I 346 3).toNatClampNeg) (v2 &&& 1)) 348 (((up2 I 347 ((I 346 3).toNatClampNeg) (v2 &&& 1)) 346 3).toNatClampNeg) ((up2 I 347 ((I 346 3).toNatClampNeg) (v2 &&& 1)) 346 5))) (fun I838 hI838 => ?_)
    replace h := h I838 hI838
    refine v_aload_n (pc' := 69) 36 0 rfl rfl rfl rfl ?_
    refine v_getR (t := 349) (pc' := 72) 37 rfl rfl pf_X5_19 ly_346 (lay_lt ly_346 (by decide)) rt_346_2 ?_
    refine v_aload_n (pc' := 73) 38 0 rfl rfl rfl rfl ?_
    refine v_getI (pc' := 76) 39 rfl rfl pf_X5_22 ly_346 (lay_lt ly_346 (by decide)) ?_
    refine v_aload_n (pc' := 77) 40 0 rfl rfl rfl rfl ?_
    refine v_getI (pc' := 80) 41 rfl rfl pf_X5_32 ly_346 (lay_lt ly_346 (by decide)) ?_
    obtain ⟨hi839, h⟩ := h
    refine v_iast (i := (I838 346 3)) (j := (I838 346 3).toNatClampNeg) (pc' := 81) 42 rfl rfl ly_349 ln_349 (lay_lt ly_349 (by decide)) hi839 rfl ?_
    refine v_aload_n (pc' := 82) 43 0 rfl rfl rfl rfl ?_
    refine v_dup (pc' := 83) 44 rfl rfl rfl ?_
    refine v_getI (pc' := 86) 45 rfl rfl pf_X5_22 ly_346 (lay_lt ly_346 (by decide)) ?_
    refine v_iconst (v := 1) (pc' := 87) 46 rfl rfl (by decide) ?_
    refine v_iadd (pc' := 88) 47 rfl rfl ?_
    refine v_putI (pc' := 91) 48 rfl rfl pf_X5_22 (fun q => absurd q (by decide)) ly_346 (lay_lt ly_346 (by decide)) ?_
    refine nm_M (e := (up2 (up2 I838 349 ((I838 346 3).toNatClampNeg) (I838 346 6)) 346 3 (((up2 I838 349 ((I838 346 3).toNatClampNeg) (I838 346 6)) 346 3) + 1))) (fun I840 hI840 => ?_)
    replace h := h I840 hI840
    refine v_iload_n (pc' := 92) 49 2 rfl rfl rfl rfl ?_
    refine v_if_ne (tgt := 99) (pc' := 95) 50 rfl rfl (by decide) (fun hc => ?_) (fun hc => ?_)
    · replace h := h.1 hc
      refine V.sub [0, 1, 3] rfl ?_
      exact b_X5_openFactors_99 v3 I840 L t ht Q R9 hR9 h
    replace h := h.2 hc
    refine v_aload_n (pc' := 96) 51 0 rfl rfl rfl rfl ?_
    refine v_cV (Y2 := Y_X5_beginTest) (As := []) (b := 346) (pc' := 99) (c1 := 0) (s1 := 0) 52 rfl rfl mf_X5_beginTest rfl rfl ml_X5_47 mi_X5_beginTest se_X5_beginTest (ci := 4) rfl ly_346 (lay_lt ly_346 (by decide)) rfl (Nat.le_of_ble_eq_true rfl) ⟨Nat.le_of_ble_eq_true rfl, Nat.le_of_ble_eq_true rfl⟩ rfl rfl (ok_X5_beginTest I840 L h) ?_ ?_
    · intro e9 u9 hx9
      exact hx9.elim
    intro v9 u9 hv9
    obtain ⟨I841, rfl, rfl, h⟩ := hv9
    refine ⟨fun q => absurd q (Nat.lt_irrefl _), ?_⟩
    show V G Y_X5_openFactors 99 _ _ _ _ _ _ _
    refine V.sub [0, 1, 3] rfl ?_
    exact b_X5_openFactors_99 v3 I841 L t ht Q R9 hR9 h
  replace h := h.2 hc
  refine v_aload_n (pc' := 38) 19 1 rfl rfl rfl rfl ?_
  refine v_iconst (v := 3) (pc' := 39) 20 rfl rfl (by decide) ?_
  refine v_cV (Y2 := Y_X7_fail) (As := [.int 3]) (b := 344) (pc' := 42) (c1 := 0) (s1 := 0) 21 rfl rfl mf_X7_fail rfl rfl ml_X5_81 mi_X7_fail se_X7_fail (ci := 6) rfl ly_344 (lay_lt ly_344 (by decide)) rfl (Nat.le_of_ble_eq_true rfl) ⟨Nat.le_of_ble_eq_true rfl, Nat.le_of_ble_eq_true rfl⟩ rfl rfl (ok_X7_fail (3 : Int32) I L h) ?_ ?_
  · intro e9 u9 hx9
    exact hx9.elim
  intro v9 u9 hv9
  obtain ⟨I842, rfl, rfl, h⟩ := hv9
  refine ⟨fun q => absurd q (Nat.lt_irrefl _), ?_⟩
  show V G Y_X5_openFactors 42 _ _ _ _ _ _ _
  refine v_goto (tgt := 103) 22 rfl (by decide) ?_
  refine V.sub [0, 1, 3] rfl ?_
  exact b_X5_openFactors_103 v3 I842 L t ht Q R9 hR9 h
set_option maxHeartbeats 4000000 in
set_option maxRecDepth 100000 in
theorem d_X5_openFactors_9 {G : GT} {b d : Nat} (L : TL) (t : Nat) (ht : txOK t) (Q : TI → Prop) (R9 : Int32 → Int32 → TI → Prop)  (hR9 : ∀ (v2 : Int32) (v3 : Int32) (I : TI), R9 v2 v3 I → V G Y_X5_openFactors 9 [(0, .ref 346), (1, .ref 344), (2, .int v2), (3, .int v3)] [] (I, L, RT b d t, 457) 0 0 (fun v9 u9 => ∃ (I9 : TI), v9 = none ∧ u9 = (I9, L, RT b d t, 457) ∧ Q I9) (fun _ _ => False)) (v2 : Int32) (v3 : Int32) (I : TI)  (h : D_X5_openFactors_9 L t Q R9 v2 v3 I) : V G Y_X5_openFactors 9 [(0, .ref 346), (1, .ref 344), (2, .int v2), (3, .int v3)] [] (I, L, RT b d t, 457) 0 0 (fun v9 u9 => ∃ (I9 : TI), v9 = none ∧ u9 = (I9, L, RT b d t, 457) ∧ Q I9) (fun _ _ => False) := by
  unfold D_X5_openFactors_9 at h
  refine v_iload_n (pc' := 10) 6 3 rfl rfl rfl rfl ?_
  refine v_bipush (v := 6) (pc' := 12) 7 rfl rfl (by decide) ?_
  refine v_icmp_gt (tgt := 116) (pc' := 15) 8 rfl rfl (by decide) (fun hc => ?_) (fun hc => ?_)
  · replace h := h.1 hc
    exact v_vret 61 rfl rfl (by decide) (by decide) ⟨_, rfl, rfl, h⟩
  replace h := h.2 hc
  refine v_iload_n (pc' := 16) 9 2 rfl rfl rfl rfl ?_
  refine v_if_ne (tgt := 28) (pc' := 19) 10 rfl rfl (by decide) (fun hc => ?_) (fun hc => ?_)
  · replace h := h.1 hc
    exact b_X5_openFactors_28 v2 v3 I L t ht Q R9 hR9 h
  replace h := h.2 hc
  refine v_aload_n (pc' := 20) 11 1 rfl rfl rfl rfl ?_
  refine v_bipush (v := 40) (pc' := 22) 12 rfl rfl (by decide) ?_
  refine v_cV (Y2 := Y_X7_isSign) (As := [.int 40]) (b := 344) (pc' := 25) (c1 := 0) (s1 := 0) 13 rfl rfl mf_X7_isSign rfl rfl ml_X5_77 mi_X7_isSign se_X7_isSign (ci := 6) rfl ly_344 (lay_lt ly_344 (by decide)) rfl (Nat.le_of_ble_eq_true rfl) ⟨Nat.le_of_ble_eq_true rfl, Nat.le_of_ble_eq_true rfl⟩ rfl rfl (ok_X7_isSign (40 : Int32) I L t ht h) ?_ ?_
  · intro e9 u9 hx9
    exact hx9.elim
  intro v9 u9 hv9
  obtain ⟨r843, rfl, rfl, h⟩ := hv9
  refine ⟨fun q => absurd q (Nat.lt_irrefl _), ?_⟩
  show V G Y_X5_openFactors 25 _ (.int r843 :: _) _ _ _ _ _
  refine v_if_eq (tgt := 116) (pc' := 28) 14 rfl rfl (by decide) (fun hc => ?_) (fun hc => ?_)
  · replace h := h.1 hc
    exact v_vret 61 rfl rfl (by decide) (by decide) ⟨_, rfl, rfl, h⟩
  replace h := h.2 hc
  exact b_X5_openFactors_28 v2 v3 I L t ht Q R9 hR9 h
theorem l_X5_openFactors_9 {G : GT} {b d : Nat} (L : TL) (t : Nat) (ht : txOK t) (Q : TI → Prop)  : ∀ (n9 : Nat) (v2 : Int32) (v3 : Int32) (I : TI), L_X5_openFactors_9 L t Q n9 v2 v3 I → V G Y_X5_openFactors 9 [(0, .ref 346), (1, .ref 344), (2, .int v2), (3, .int v3)] [] (I, L, RT b d t, 457) 0 0 (fun v9 u9 => ∃ (I9 : TI), v9 = none ∧ u9 = (I9, L, RT b d t, 457) ∧ Q I9) (fun _ _ => False)
  | 0, _, _, _, h => h.elim
  | n9 + 1, v2, v3, I, h => d_X5_openFactors_9 L t ht Q _ (l_X5_openFactors_9 L t ht Q n9) v2 v3 I h
set_option maxHeartbeats 4000000 in
set_option maxRecDepth 100000 in
theorem ok_X5_openFactors {G : GT} {b d : Nat} (I : TI) (L : TL) (t : Nat) (ht : txOK t) {Q : TI → Prop} (h : W_X5_openFactors I L t Q) : MW G Y_X5_openFactors [.ref 346, .ref 344] (I, L, RT b d t, 457) (fun v9 u9 => ∃ (I9 : TI), v9 = none ∧ u9 = (I9, L, RT b d t, 457) ∧ Q I9) (fun _ _ => False) := by
  unfold W_X5_openFactors at h
  refine MW.intro rfl (by decide) is_X5_openFactors (Nat.le_of_ble_eq_true rfl) ?_
  show V G Y_X5_openFactors 0 [(0, .ref 346), (1, .ref 344)] [] (I, L, RT b d t, 457) 0 0 _ _
  refine v_aload_n (pc' := 1) 0 1 rfl rfl rfl rfl ?_
  refine v_ldcS (pc' := 3) 1 rfl rfl sr_X5_69 ?_
  refine v_cV (Y2 := Y_X7_isWord) (As := [.ref 467]) (b := 344) (pc' := 6) (c1 := 0) (s1 := 0) 2 rfl rfl mf_X7_isWord rfl rfl ml_X5_71 mi_X7_isWord se_X7_isWord (ci := 6) rfl ly_344 (lay_lt ly_344 (by decide)) rfl (Nat.le_of_ble_eq_true rfl) ⟨Nat.le_of_ble_eq_true rfl, Nat.le_of_ble_eq_true rfl⟩ rfl rfl (ok_X7_isWord 467 I L t ht h) ?_ ?_
  · intro e9 u9 hx9
    exact hx9.elim
  intro v9 u9 hv9
  obtain ⟨r844, rfl, rfl, h⟩ := hv9
  refine ⟨fun q => absurd q (Nat.lt_irrefl _), ?_⟩
  show V G Y_X5_openFactors 6 _ (.int r844 :: _) _ _ _ _ _
  refine v_istore_n (ls' := [(2, .int r844), (0, .ref 346), (1, .ref 344)]) (pc' := 7) 3 rfl rfl rfl (by decide) rfl ?_
  refine v_iconst (v := 0) (pc' := 8) 4 rfl rfl (by decide) ?_
  refine v_istore_n (ls' := [(3, .int 0), (2, .int r844), (0, .ref 346), (1, .ref 344)]) (pc' := 9) 5 rfl rfl rfl (by decide) rfl ?_
  refine V.sub [2, 3, 1, 0] rfl ?_
  obtain ⟨n845, h⟩ := h
  exact l_X5_openFactors_9 L t ht Q n845 r844 (0 : Int32) I h
set_option maxHeartbeats 4000000 in
set_option maxRecDepth 100000 in
theorem ok_X8_propertyWord {G : GT} {b d t : Nat} (p0 : Int32) (I : TI) (L : TL)  {Q : Nat → Prop} (h : W_X8_propertyWord p0 I L Q) : MW G Y_X8_propertyWord [.int p0] (I, L, RT b d t, 457) (fun v9 u9 => ∃ (r9 : Nat), v9 = some (.ref r9) ∧ u9 = (I, L, RT b d t, 457) ∧ Q r9) (fun _ _ => False) := by
  unfold W_X8_propertyWord at h
  refine MW.intro rfl (by decide) is_X8_propertyWord (Nat.le_of_ble_eq_true rfl) ?_
  show V G Y_X8_propertyWord 0 [(0, .int p0)] [] (I, L, RT b d t, 457) 0 0 _ _
  refine v_iload_n (pc' := 1) 0 0 rfl rfl rfl rfl ?_
  refine v_ts (clo := 0) (chi := 7) (dt := 78) 1 8 [48, 51, 54, 58, 62, 66, 70, 74] rfl (by decide) (by decide) (by decide) (by decide) (by decide) ?_ (fun hc => ?_)
  · intro j9 t9 ht9 hj9 hx9
    match j9, ht9, hj9, hx9 with
    | 0, ht9, hj9, hx9 =>
      cases ht9
      replace hx9 := hx9.trans (show Int32.ofInt _ = (0 : Int32) by decide)
      replace h := h.1 hx9
      refine v_ldcS (pc' := 50) 2 rfl rfl sr_X8_179 ?_
      exact v_aret 3 rfl rfl (by decide) (by decide) ⟨_, rfl, rfl, h⟩
    | 1, ht9, hj9, hx9 =>
      cases ht9
      replace hx9 := hx9.trans (show Int32.ofInt _ = (1 : Int32) by decide)
      replace h := h.2.1 hx9
      refine v_ldcS (pc' := 53) 4 rfl rfl sr_X8_199 ?_
      exact v_aret 5 rfl rfl (by decide) (by decide) ⟨_, rfl, rfl, h⟩
    | 2, ht9, hj9, hx9 =>
      cases ht9
      replace hx9 := hx9.trans (show Int32.ofInt _ = (2 : Int32) by decide)
      replace h := h.2.2.1 hx9
      refine v_ldcSW (pc' := 57) 6 rfl rfl sr_X8_422 ?_
      exact v_aret 7 rfl rfl (by decide) (by decide) ⟨_, rfl, rfl, h⟩
    | 3, ht9, hj9, hx9 =>
      cases ht9
      replace hx9 := hx9.trans (show Int32.ofInt _ = (3 : Int32) by decide)
      replace h := h.2.2.2.1 hx9
      refine v_ldcSW (pc' := 61) 8 rfl rfl sr_X8_423 ?_
      exact v_aret 9 rfl rfl (by decide) (by decide) ⟨_, rfl, rfl, h⟩
    | 4, ht9, hj9, hx9 =>
      cases ht9
      replace hx9 := hx9.trans (show Int32.ofInt _ = (4 : Int32) by decide)
      replace h := h.2.2.2.2.1 hx9
      refine v_ldcSW (pc' := 65) 10 rfl rfl sr_X8_425 ?_
      exact v_aret 11 rfl rfl (by decide) (by decide) ⟨_, rfl, rfl, h⟩
    | 5, ht9, hj9, hx9 =>
      cases ht9
      replace hx9 := hx9.trans (show Int32.ofInt _ = (5 : Int32) by decide)
      replace h := h.2.2.2.2.2.1 hx9
      refine v_ldcSW (pc' := 69) 12 rfl rfl sr_X8_427 ?_
      exact v_aret 13 rfl rfl (by decide) (by decide) ⟨_, rfl, rfl, h⟩
    | 6, ht9, hj9, hx9 =>
      cases ht9
      replace hx9 := hx9.trans (show Int32.ofInt _ = (6 : Int32) by decide)
      replace h := h.2.2.2.2.2.2.1 hx9
      refine v_ldcSW (pc' := 73) 14 rfl rfl sr_X8_429 ?_
      exact v_aret 15 rfl rfl (by decide) (by decide) ⟨_, rfl, rfl, h⟩
    | 7, ht9, hj9, hx9 =>
      cases ht9
      replace hx9 := hx9.trans (show Int32.ofInt _ = (7 : Int32) by decide)
      replace h := h.2.2.2.2.2.2.2.1 hx9
      refine v_ldcSW (pc' := 77) 16 rfl rfl sr_X8_431 ?_
      exact v_aret 17 rfl rfl (by decide) (by decide) ⟨_, rfl, rfl, h⟩
    | q9 + 8, ht9, hj9, hx9 => exact absurd hj9 (by omega)
  replace h := h.2.2.2.2.2.2.2.2 hc
  refine v_ldcSW (pc' := 81) 18 rfl rfl sr_X8_432 ?_
  exact v_aret 19 rfl rfl (by decide) (by decide) ⟨_, rfl, rfl, h⟩
set_option maxHeartbeats 4000000 in
set_option maxRecDepth 100000 in
theorem d_X5_readOperand_2 {G : GT} {b d : Nat} (I : TI) (L : TL) (t : Nat) (ht : txOK t) (Q : Int32 → TI → Prop) (R2 : Int32 → Prop)  (hR2 : ∀ (v1 : Int32), R2 v1 → V G Y_X5_readOperand 2 [(0, .ref 344), (1, .int v1)] [] (I, L, RT b d t, 457) 0 0 (fun v9 u9 => ∃ (r9 : Int32) (I9 : TI), v9 = some (.int r9) ∧ u9 = (I9, L, RT b d t, 457) ∧ Q r9 I9) (fun _ _ => False)) (v1 : Int32)  (h : D_X5_readOperand_2 I L t Q R2 v1) : V G Y_X5_readOperand 2 [(0, .ref 344), (1, .int v1)] [] (I, L, RT b d t, 457) 0 0 (fun v9 u9 => ∃ (r9 : Int32) (I9 : TI), v9 = some (.int r9) ∧ u9 = (I9, L, RT b d t, 457) ∧ Q r9 I9) (fun _ _ => False) := by
  unfold D_X5_readOperand_2 at h
  refine v_iload_n (pc' := 3) 2 1 rfl rfl rfl rfl ?_
  refine v_bipush (v := 9) (pc' := 5) 3 rfl rfl (by decide) ?_
  refine v_icmp_ge (tgt := 35) (pc' := 8) 4 rfl rfl (by decide) (fun hc => ?_) (fun hc => ?_)
  · replace h := h.1 hc
    refine v_aload_n (pc' := 36) 18 0 rfl rfl rfl rfl ?_
    refine v_iconst (v := 0) (pc' := 37) 19 rfl rfl (by decide) ?_
    refine v_sipush (v := 9999) (pc' := 40) 20 rfl rfl (by decide) ?_
    refine v_cV (Y2 := Y_X7_takeNumber) (As := [.int 0, .int 9999]) (b := 344) (pc' := 43) (c1 := 0) (s1 := 0) 21 rfl rfl mf_X7_takeNumber rfl rfl ml_X5_107 mi_X7_takeNumber se_X7_takeNumber (ci := 6) rfl ly_344 (lay_lt ly_344 (by decide)) rfl (Nat.le_of_ble_eq_true rfl) ⟨Nat.le_of_ble_eq_true rfl, Nat.le_of_ble_eq_true rfl⟩ rfl rfl (ok_X7_takeNumber (0 : Int32) (9999 : Int32) I L t ht h) ?_ ?_
    · intro e9 u9 hx9
      exact hx9.elim
    intro v9 u9 hv9
    obtain ⟨r856, I857, rfl, rfl, h⟩ := hv9
    refine ⟨fun q => absurd q (Nat.lt_irrefl _), ?_⟩
    show V G Y_X5_readOperand 43 _ (.int r856 :: _) _ _ _ _ _
    exact v_iret 22 rfl rfl (by decide) (by decide) ⟨_, _, rfl, rfl, h⟩
  replace h := h.2 hc
  refine v_aload_n (pc' := 9) 5 0 rfl rfl rfl rfl ?_
  refine v_iload_n (pc' := 10) 6 1 rfl rfl rfl rfl ?_
  refine v_cNS (Y2 := Y_X8_propertyWord) (As := [.int v1]) (pc' := 13) (c1 := 0) (s1 := 0) 7 rfl rfl mf_X8_propertyWord rfl rfl nt_X5_103 ms_X8_propertyWord rfl (Nat.le_of_ble_eq_true rfl) ⟨Nat.le_of_ble_eq_true rfl, Nat.le_of_ble_eq_true rfl⟩ rfl rfl (ok_X8_propertyWord v1 I L h) ?_ ?_
  · intro e9 u9 hx9
    exact hx9.elim
  intro v9 u9 hv9
  obtain ⟨r858, rfl, rfl, h⟩ := hv9
  refine ⟨fun q => absurd q (Nat.lt_irrefl _), ?_⟩
  show V G Y_X5_readOperand 13 _ (.ref r858 :: _) _ _ _ _ _
  refine v_cV (Y2 := Y_X7_isWord) (As := [.ref r858]) (b := 344) (pc' := 16) (c1 := 0) (s1 := 0) 8 rfl rfl mf_X7_isWord rfl rfl ml_X5_71 mi_X7_isWord se_X7_isWord (ci := 6) rfl ly_344 (lay_lt ly_344 (by decide)) rfl (Nat.le_of_ble_eq_true rfl) ⟨Nat.le_of_ble_eq_true rfl, Nat.le_of_ble_eq_true rfl⟩ rfl rfl (ok_X7_isWord r858 I L t ht h) ?_ ?_
  · intro e9 u9 hx9
    exact hx9.elim
  intro v9 u9 hv9
  obtain ⟨r859, rfl, rfl, h⟩ := hv9
  refine ⟨fun q => absurd q (Nat.lt_irrefl _), ?_⟩
  show V G Y_X5_readOperand 16 _ (.int r859 :: _) _ _ _ _ _
  refine v_if_eq (tgt := 29) (pc' := 19) 9 rfl rfl (by decide) (fun hc => ?_) (fun hc => ?_)
  · replace h := h.1 hc
    refine v_iinc (v := (v1 + 1)) (ls' := [(1, .int (v1 + 1)), (0, .ref 344)]) (pc' := 32) 16 1 rfl rfl rfl rfl (by decide) rfl ?_
    refine v_goto (tgt := 2) 17 rfl (by decide) ?_
    refine V.sub [1, 0] rfl ?_
    exact hR2 (v1 + 1) h
  replace h := h.2 hc
  refine v_aload_n (pc' := 20) 10 0 rfl rfl rfl rfl ?_
  refine v_cV (Y2 := Y_X7_advance) (As := []) (b := 344) (pc' := 23) (c1 := 0) (s1 := 0) 11 rfl rfl mf_X7_advance rfl rfl ml_X5_84 mi_X7_advance se_X7_advance (ci := 6) rfl ly_344 (lay_lt ly_344 (by decide)) rfl (Nat.le_of_ble_eq_true rfl) ⟨Nat.le_of_ble_eq_true rfl, Nat.le_of_ble_eq_true rfl⟩ rfl rfl (ok_X7_advance I L t ht h) ?_ ?_
  · intro e9 u9 hx9
    exact hx9.elim
  intro v9 u9 hv9
  obtain ⟨I860, rfl, rfl, h⟩ := hv9
  refine ⟨fun q => absurd q (Nat.lt_irrefl _), ?_⟩
  show V G Y_X5_readOperand 23 _ _ _ _ _ _ _
  refine v_sipush (v := 10000) (pc' := 26) 12 rfl rfl (by decide) ?_
  refine v_iload_n (pc' := 27) 13 1 rfl rfl rfl rfl ?_
  refine v_iadd (pc' := 28) 14 rfl rfl ?_
  exact v_iret 15 rfl rfl (by decide) (by decide) ⟨_, _, rfl, rfl, h⟩
theorem l_X5_readOperand_2 {G : GT} {b d : Nat} (I : TI) (L : TL) (t : Nat) (ht : txOK t) (Q : Int32 → TI → Prop)  : ∀ (n9 : Nat) (v1 : Int32), L_X5_readOperand_2 I L t Q n9 v1 → V G Y_X5_readOperand 2 [(0, .ref 344), (1, .int v1)] [] (I, L, RT b d t, 457) 0 0 (fun v9 u9 => ∃ (r9 : Int32) (I9 : TI), v9 = some (.int r9) ∧ u9 = (I9, L, RT b d t, 457) ∧ Q r9 I9) (fun _ _ => False)
  | 0, _, h => h.elim
  | n9 + 1, v1, h => d_X5_readOperand_2 I L t ht Q _ (l_X5_readOperand_2 I L t ht Q n9) v1 h
set_option maxHeartbeats 4000000 in
set_option maxRecDepth 100000 in
theorem ok_X5_readOperand {G : GT} {b d : Nat} (I : TI) (L : TL) (t : Nat) (ht : txOK t) {Q : Int32 → TI → Prop} (h : W_X5_readOperand I L t Q) : MW G Y_X5_readOperand [.ref 344] (I, L, RT b d t, 457) (fun v9 u9 => ∃ (r9 : Int32) (I9 : TI), v9 = some (.int r9) ∧ u9 = (I9, L, RT b d t, 457) ∧ Q r9 I9) (fun _ _ => False) := by
  unfold W_X5_readOperand at h
  refine MW.intro rfl (by decide) is_X5_readOperand (Nat.le_of_ble_eq_true rfl) ?_
  show V G Y_X5_readOperand 0 [(0, .ref 344)] [] (I, L, RT b d t, 457) 0 0 _ _
  refine v_iconst (v := 0) (pc' := 1) 0 rfl rfl (by decide) ?_
  refine v_istore_n (ls' := [(1, .int 0), (0, .ref 344)]) (pc' := 2) 1 rfl rfl rfl (by decide) rfl ?_
  refine V.sub [1, 0] rfl ?_
  obtain ⟨n861, h⟩ := h
  exact l_X5_readOperand_2 I L t ht Q n861 (0 : Int32) h
set_option maxHeartbeats 4000000 in
set_option maxRecDepth 100000 in
theorem b_X5_comparison_174 {G : GT} {b d : Nat} (p2 : Nat) (v3 : Int32) (v4 : Int32) (v5 : Int32) (v6 : Int32) (v7 : Int32) (v8 : Int32) (I : TI) (L : TL) (t : Nat) (hp2 : bnOK p2) (ht : txOK t) (Q : Int32 → TI → Prop) (R61 : Int32 → Int32 → Prop) (hR61 : ∀ (v7 : Int32) (v8 : Int32), R61 v7 v8 → V G Y_X5_comparison 61 [(2, .ref p2), (3, .int v3), (4, .int v4), (5, .int v5), (6, .int v6), (7, .int v7), (8, .int v8)] [] (I, L, RT b d t, 457) 0 0 (fun v9 u9 => ∃ (r9 : Int32) (I9 : TI), v9 = some (.int r9) ∧ u9 = (I9, L, RT b d t, 457) ∧ Q r9 I9) (fun _ _ => False)) (h : B_X5_comparison_174 p2 v3 v4 v5 v6 v7 v8 I L t Q R61) : V G Y_X5_comparison 174 [(2, .ref p2), (3, .int v3), (4, .int v4), (5, .int v5), (6, .int v6), (7, .int v7), (8, .int v8)] [] (I, L, RT b d t, 457) 0 0 (fun v9 u9 => ∃ (r9 : Int32) (I9 : TI), v9 = some (.int r9) ∧ u9 = (I9, L, RT b d t, 457) ∧ Q r9 I9) (fun _ _ => False) := by
  unfold B_X5_comparison_174 at h
  refine v_iinc (v := (v8 + 1)) (ls' := [(8, .int (v8 + 1)), (2, .ref p2), (3, .int v3), (4, .int v4), (5, .int v5), (6, .int v6), (7, .int v7)]) (pc' := 177) 83 6 rfl rfl rfl rfl (by decide) rfl ?_
  refine v_goto (tgt := 61) 84 rfl (by decide) ?_
  refine V.sub [1, 2, 3, 4, 5, 6, 0] rfl ?_
  exact hR61 v7 (v8 + 1) h
set_option maxHeartbeats 4000000 in
set_option maxRecDepth 100000 in
theorem b_X5_comparison_165 {G : GT} {b d : Nat} (p2 : Nat) (v3 : Int32) (v4 : Int32) (v5 : Int32) (v6 : Int32) (v7 : Int32) (v8 : Int32) (I : TI) (L : TL) (t : Nat) (hp2 : bnOK p2) (ht : txOK t) (Q : Int32 → TI → Prop) (R61 : Int32 → Int32 → Prop) (hR61 : ∀ (v7 : Int32) (v8 : Int32), R61 v7 v8 → V G Y_X5_comparison 61 [(2, .ref p2), (3, .int v3), (4, .int v4), (5, .int v5), (6, .int v6), (7, .int v7), (8, .int v8)] [] (I, L, RT b d t, 457) 0 0 (fun v9 u9 => ∃ (r9 : Int32) (I9 : TI), v9 = some (.int r9) ∧ u9 = (I9, L, RT b d t, 457) ∧ Q r9 I9) (fun _ _ => False)) (h : B_X5_comparison_165 p2 v3 v4 v5 v6 v7 v8 I L t Q R61) : V G Y_X5_comparison 165 [(2, .ref p2), (3, .int v3), (4, .int v4), (5, .int v5), (6, .int v6), (7, .int v7), (8, .int v8)] [] (I, L, RT b d t, 457) 0 0 (fun v9 u9 => ∃ (r9 : Int32) (I9 : TI), v9 = some (.int r9) ∧ u9 = (I9, L, RT b d t, 457) ∧ Q r9 I9) (fun _ _ => False) := by
  unfold B_X5_comparison_165 at h
  refine v_iload (pc' := 167) 77 5 rfl rfl rfl ?_
  refine v_iconst (v := 1) (pc' := 168) 78 rfl rfl (by decide) ?_
  refine v_iload (pc' := 170) 79 6 rfl rfl rfl ?_
  refine v_ishl (pc' := 171) 80 rfl rfl ?_
  refine v_ior (pc' := 172) 81 rfl rfl ?_
  refine nm_I (e := (v7 ||| ((1 : Int32) <<< (v8 &&& 31)))) (fun x930 hx930 => ?_)
  replace h := h x930 hx930
  refine v_istore (ls' := [(7, .int x930), (2, .ref p2), (3, .int v3), (4, .int v4), (5, .int v5), (6, .int v6), (8, .int v8)]) (pc' := 174) 82 rfl rfl (by decide) rfl ?_
  refine V.sub [1, 2, 3, 4, 5, 0, 6] rfl ?_
  exact b_X5_comparison_174 p2 v3 v4 v5 v6 x930 v8 I L t hp2 ht Q R61 hR61 h
set_option maxHeartbeats 4000000 in
set_option maxRecDepth 100000 in
theorem b_X5_comparison_148 {G : GT} {b d : Nat} (p2 : Nat) (v3 : Int32) (v4 : Int32) (v5 : Int32) (v6 : Int32) (v7 : Int32) (v8 : Int32) (v9 : Int32) (v10 : Int32) (I : TI) (L : TL) (t : Nat) (hp2 : bnOK p2) (ht : txOK t) (Q : Int32 → TI → Prop) (R61 : Int32 → Int32 → Prop) (hR61 : ∀ (v7 : Int32) (v8 : Int32), R61 v7 v8 → V G Y_X5_comparison 61 [(2, .ref p2), (3, .int v3), (4, .int v4), (5, .int v5), (6, .int v6), (7, .int v7), (8, .int v8)] [] (I, L, RT b d t, 457) 0 0 (fun v9 u9 => ∃ (r9 : Int32) (I9 : TI), v9 = some (.int r9) ∧ u9 = (I9, L, RT b d t, 457) ∧ Q r9 I9) (fun _ _ => False)) (h : B_X5_comparison_148 p2 v3 v4 v5 v6 v7 v8 v9 v10 I L t Q R61) : V G Y_X5_comparison 148 [(2, .ref p2), (3, .int v3), (4, .int v4), (5, .int v5), (6, .int v6), (7, .int v7), (8, .int v8), (9, .int v9), (10, .int v10)] [] (I, L, RT b d t, 457) 0 0 (fun v9 u9 => ∃ (r9 : Int32) (I9 : TI), v9 = some (.int r9) ∧ u9 = (I9, L, RT b d t, 457) ∧ Q r9 I9) (fun _ _ => False) := by
  unfold B_X5_comparison_148 at h
  refine v_iload (pc' := 150) 70 2 rfl rfl rfl ?_
  refine v_if_ne (tgt := 174) (pc' := 153) 71 rfl rfl (by decide) (fun hc => ?_) (fun hc => ?_)
  · replace h := h.1 hc
    refine V.sub [0, 1, 2, 3, 4, 5, 6] rfl ?_
    exact b_X5_comparison_174 p2 v3 v4 v5 v6 v7 v8 I L t hp2 ht Q R61 hR61 h
  replace h := h.2 hc
  refine v_iload (pc' := 155) 72 3 rfl rfl rfl ?_
  refine v_if_ne (tgt := 174) (pc' := 158) 73 rfl rfl (by decide) (fun hc => ?_) (fun hc => ?_)
  · replace h := h.1 hc
    refine V.sub [0, 1, 2, 3, 4, 5, 6] rfl ?_
    exact b_X5_comparison_174 p2 v3 v4 v5 v6 v7 v8 I L t hp2 ht Q R61 hR61 h
  replace h := h.2 hc
  refine v_iload (pc' := 160) 74 7 rfl rfl rfl ?_
  refine v_iload (pc' := 162) 75 8 rfl rfl rfl ?_
  refine v_icmp_ne (tgt := 174) (pc' := 165) 76 rfl rfl (by decide) (fun hc => ?_) (fun hc => ?_)
  · replace h := h.1 hc
    refine V.sub [0, 1, 2, 3, 4, 5, 6] rfl ?_
    exact b_X5_comparison_174 p2 v3 v4 v5 v6 v7 v8 I L t hp2 ht Q R61 hR61 h
  replace h := h.2 hc
  refine V.sub [0, 1, 2, 3, 4, 5, 6] rfl ?_
  exact b_X5_comparison_165 p2 v3 v4 v5 v6 v7 v8 I L t hp2 ht Q R61 hR61 h
set_option maxHeartbeats 4000000 in
set_option maxRecDepth 100000 in
theorem b_X5_comparison_136 {G : GT} {b d : Nat} (p2 : Nat) (v3 : Int32) (v4 : Int32) (v5 : Int32) (v6 : Int32) (v7 : Int32) (v8 : Int32) (v9 : Int32) (v10 : Int32) (I : TI) (L : TL) (t : Nat) (hp2 : bnOK p2) (ht : txOK t) (Q : Int32 → TI → Prop) (R61 : Int32 → Int32 → Prop) (hR61 : ∀ (v7 : Int32) (v8 : Int32), R61 v7 v8 → V G Y_X5_comparison 61 [(2, .ref p2), (3, .int v3), (4, .int v4), (5, .int v5), (6, .int v6), (7, .int v7), (8, .int v8)] [] (I, L, RT b d t, 457) 0 0 (fun v9 u9 => ∃ (r9 : Int32) (I9 : TI), v9 = some (.int r9) ∧ u9 = (I9, L, RT b d t, 457) ∧ Q r9 I9) (fun _ _ => False)) (h : B_X5_comparison_136 p2 v3 v4 v5 v6 v7 v8 v9 v10 I L t Q R61) : V G Y_X5_comparison 136 [(2, .ref p2), (3, .int v3), (4, .int v4), (5, .int v5), (6, .int v6), (7, .int v7), (8, .int v8), (9, .int v9), (10, .int v10)] [] (I, L, RT b d t, 457) 0 0 (fun v9 u9 => ∃ (r9 : Int32) (I9 : TI), v9 = some (.int r9) ∧ u9 = (I9, L, RT b d t, 457) ∧ Q r9 I9) (fun _ _ => False) := by
  unfold B_X5_comparison_136 at h
  refine v_iload (pc' := 138) 65 3 rfl rfl rfl ?_
  refine v_if_eq (tgt := 148) (pc' := 141) 66 rfl rfl (by decide) (fun hc => ?_) (fun hc => ?_)
  · replace h := h.1 hc
    exact b_X5_comparison_148 p2 v3 v4 v5 v6 v7 v8 v9 v10 I L t hp2 ht Q R61 hR61 h
  replace h := h.2 hc
  refine v_iload (pc' := 143) 67 7 rfl rfl rfl ?_
  refine v_iload (pc' := 145) 68 8 rfl rfl rfl ?_
  refine v_icmp_gt (tgt := 165) (pc' := 148) 69 rfl rfl (by decide) (fun hc => ?_) (fun hc => ?_)
  · replace h := h.1 hc
    refine V.sub [0, 1, 2, 3, 4, 5, 6] rfl ?_
    exact b_X5_comparison_165 p2 v3 v4 v5 v6 v7 v8 I L t hp2 ht Q R61 hR61 h
  replace h := h.2 hc
  exact b_X5_comparison_148 p2 v3 v4 v5 v6 v7 v8 v9 v10 I L t hp2 ht Q R61 hR61 h
set_option maxHeartbeats 4000000 in
set_option maxRecDepth 100000 in
theorem b_X5_comparison_122 {G : GT} {b d : Nat} (p2 : Nat) (v3 : Int32) (v4 : Int32) (v5 : Int32) (v6 : Int32) (v7 : Int32) (v8 : Int32) (v9 : Int32) (s0 : Int32) (I : TI) (L : TL) (t : Nat) (hp2 : bnOK p2) (ht : txOK t) (Q : Int32 → TI → Prop) (R61 : Int32 → Int32 → Prop) (hR61 : ∀ (v7 : Int32) (v8 : Int32), R61 v7 v8 → V G Y_X5_comparison 61 [(2, .ref p2), (3, .int v3), (4, .int v4), (5, .int v5), (6, .int v6), (7, .int v7), (8, .int v8)] [] (I, L, RT b d t, 457) 0 0 (fun v9 u9 => ∃ (r9 : Int32) (I9 : TI), v9 = some (.int r9) ∧ u9 = (I9, L, RT b d t, 457) ∧ Q r9 I9) (fun _ _ => False)) (h : B_X5_comparison_122 p2 v3 v4 v5 v6 v7 v8 v9 s0 I L t Q R61) : V G Y_X5_comparison 122 [(2, .ref p2), (3, .int v3), (4, .int v4), (5, .int v5), (6, .int v6), (7, .int v7), (8, .int v8), (9, .int v9)] [.int s0] (I, L, RT b d t, 457) 0 0 (fun v9 u9 => ∃ (r9 : Int32) (I9 : TI), v9 = some (.int r9) ∧ u9 = (I9, L, RT b d t, 457) ∧ Q r9 I9) (fun _ _ => False) := by
  unfold B_X5_comparison_122 at h
  refine v_istore (ls' := [(10, .int s0), (2, .ref p2), (3, .int v3), (4, .int v4), (5, .int v5), (6, .int v6), (7, .int v7), (8, .int v8), (9, .int v9)]) (pc' := 124) 59 rfl rfl (by decide) rfl ?_
  refine v_iload (pc' := 126) 60 3 rfl rfl rfl ?_
  refine v_if_eq (tgt := 136) (pc' := 129) 61 rfl rfl (by decide) (fun hc => ?_) (fun hc => ?_)
  · replace h := h.1 hc
    refine V.sub [1, 2, 3, 4, 5, 6, 7, 8, 0] rfl ?_
    exact b_X5_comparison_136 p2 v3 v4 v5 v6 v7 v8 v9 s0 I L t hp2 ht Q R61 hR61 h
  replace h := h.2 hc
  refine v_iload (pc' := 131) 62 8 rfl rfl rfl ?_
  refine v_iload (pc' := 133) 63 0 rfl rfl rfl ?_
  refine v_icmp_lt (tgt := 165) (pc' := 136) 64 rfl rfl (by decide) (fun hc => ?_) (fun hc => ?_)
  · replace h := h.1 hc
    refine V.sub [1, 2, 3, 4, 5, 6, 7] rfl ?_
    exact b_X5_comparison_165 p2 v3 v4 v5 v6 v7 v8 I L t hp2 ht Q R61 hR61 h
  replace h := h.2 hc
  refine V.sub [1, 2, 3, 4, 5, 6, 7, 8, 0] rfl ?_
  exact b_X5_comparison_136 p2 v3 v4 v5 v6 v7 v8 v9 s0 I L t hp2 ht Q R61 hR61 h
set_option maxHeartbeats 4000000 in
set_option maxRecDepth 100000 in
theorem b_X5_comparison_95 {G : GT} {b d : Nat} (p2 : Nat) (v3 : Int32) (v4 : Int32) (v5 : Int32) (v6 : Int32) (v7 : Int32) (v8 : Int32) (s0 : Int32) (I : TI) (L : TL) (t : Nat) (hp2 : bnOK p2) (ht : txOK t) (Q : Int32 → TI → Prop) (R61 : Int32 → Int32 → Prop) (hR61 : ∀ (v7 : Int32) (v8 : Int32), R61 v7 v8 → V G Y_X5_comparison 61 [(2, .ref p2), (3, .int v3), (4, .int v4), (5, .int v5), (6, .int v6), (7, .int v7), (8, .int v8)] [] (I, L, RT b d t, 457) 0 0 (fun v9 u9 => ∃ (r9 : Int32) (I9 : TI), v9 = some (.int r9) ∧ u9 = (I9, L, RT b d t, 457) ∧ Q r9 I9) (fun _ _ => False)) (h : B_X5_comparison_95 p2 v3 v4 v5 v6 v7 v8 s0 I L t Q R61) : V G Y_X5_comparison 95 [(2, .ref p2), (3, .int v3), (4, .int v4), (5, .int v5), (6, .int v6), (7, .int v7), (8, .int v8)] [.int s0] (I, L, RT b d t, 457) 0 0 (fun v9 u9 => ∃ (r9 : Int32) (I9 : TI), v9 = some (.int r9) ∧ u9 = (I9, L, RT b d t, 457) ∧ Q r9 I9) (fun _ _ => False) := by
  unfold B_X5_comparison_95 at h
  refine v_istore (ls' := [(9, .int s0), (2, .ref p2), (3, .int v3), (4, .int v4), (5, .int v5), (6, .int v6), (7, .int v7), (8, .int v8)]) (pc' := 97) 47 rfl rfl (by decide) rfl ?_
  refine v_iload (pc' := 99) 48 5 rfl rfl rfl ?_
  refine v_sipush (v := 10000) (pc' := 102) 49 rfl rfl (by decide) ?_
  refine v_icmp_ge (tgt := 110) (pc' := 105) 50 rfl rfl (by decide) (fun hc => ?_) (fun hc => ?_)
  · replace h := h.1 hc
    refine v_aload_n (pc' := 111) 53 1 rfl rfl rfl rfl ?_
    refine v_iload (pc' := 113) 54 7 rfl rfl rfl ?_
    refine v_iload (pc' := 115) 55 5 rfl rfl rfl ?_
    refine v_sipush (v := 10000) (pc' := 118) 56 rfl rfl (by decide) ?_
    refine v_isub (pc' := 119) 57 rfl rfl ?_
    refine v_cV (Y2 := Y_X0_propertyOf) (As := [.int v8, .int (v6 - 10000)]) (b := p2) (pc' := 122) (c1 := 0) (s1 := 0) 58 rfl rfl mf_X0_propertyOf rfl rfl ml_X5_99 mi_X0_propertyOf se_X0_propertyOf (ci := 0) rfl (bn0l hp2) (lay_lt (bn0l hp2) (by decide)) rfl (Nat.le_of_ble_eq_true rfl) ⟨Nat.le_of_ble_eq_true rfl, Nat.le_of_ble_eq_true rfl⟩ rfl rfl (ok_X0_propertyOf p2 v8 (v6 - 10000) I L hp2 h) ?_ ?_
    · intro e9 u9 hx9
      exact hx9.elim
    intro v9 u9 hv9
    obtain ⟨r931, rfl, rfl, h⟩ := hv9
    refine ⟨fun q => absurd q (Nat.lt_irrefl _), ?_⟩
    show V G Y_X5_comparison 122 _ (.int r931 :: _) _ _ _ _ _
    refine V.sub [1, 2, 3, 4, 5, 6, 7, 0] rfl ?_
    exact b_X5_comparison_122 p2 v3 v4 v5 v6 v7 v8 s0 r931 I L t hp2 ht Q R61 hR61 h
  replace h := h.2 hc
  refine v_iload (pc' := 107) 51 5 rfl rfl rfl ?_
  refine v_goto (tgt := 122) 52 rfl (by decide) ?_
  refine V.sub [1, 2, 3, 4, 5, 6, 7, 0] rfl ?_
  exact b_X5_comparison_122 p2 v3 v4 v5 v6 v7 v8 s0 v6 I L t hp2 ht Q R61 hR61 h
set_option maxHeartbeats 4000000 in
set_option maxRecDepth 100000 in
theorem d_X5_comparison_61 {G : GT} {b d : Nat} (p2 : Nat) (v3 : Int32) (v4 : Int32) (v5 : Int32) (v6 : Int32) (I : TI) (L : TL) (t : Nat) (hp2 : bnOK p2) (ht : txOK t) (Q : Int32 → TI → Prop) (R61 : Int32 → Int32 → Prop)  (hR61 : ∀ (v7 : Int32) (v8 : Int32), R61 v7 v8 → V G Y_X5_comparison 61 [(2, .ref p2), (3, .int v3), (4, .int v4), (5, .int v5), (6, .int v6), (7, .int v7), (8, .int v8)] [] (I, L, RT b d t, 457) 0 0 (fun v9 u9 => ∃ (r9 : Int32) (I9 : TI), v9 = some (.int r9) ∧ u9 = (I9, L, RT b d t, 457) ∧ Q r9 I9) (fun _ _ => False)) (v7 : Int32) (v8 : Int32)  (h : D_X5_comparison_61 p2 v3 v4 v5 v6 I L t Q R61 v7 v8) : V G Y_X5_comparison 61 [(2, .ref p2), (3, .int v3), (4, .int v4), (5, .int v5), (6, .int v6), (7, .int v7), (8, .int v8)] [] (I, L, RT b d t, 457) 0 0 (fun v9 u9 => ∃ (r9 : Int32) (I9 : TI), v9 = some (.int r9) ∧ u9 = (I9, L, RT b d t, 457) ∧ Q r9 I9) (fun _ _ => False) := by
  unfold D_X5_comparison_61 at h
  refine v_iload (pc' := 63) 31 6 rfl rfl rfl ?_
  refine v_aload_n (pc' := 64) 32 0 rfl rfl rfl rfl ?_
  refine v_getR (t := (p2 + 1)) (pc' := 67) 33 rfl rfl pf_X5_35 (bn0l hp2) (lay_lt (bn0l hp2) (by decide)) (rt_bn_0 hp2) ?_
  refine v_cV (Y2 := Y_X2_nets) (As := []) (b := (p2 + 1)) (pc' := 70) (c1 := 0) (s1 := 0) 34 rfl rfl mf_X2_nets rfl rfl ml_X5_41 mi_X2_nets se_X2_nets (ci := 1) rfl (bn1l hp2) (lay_lt (bn1l hp2) (by decide)) rfl (Nat.le_of_ble_eq_true rfl) ⟨Nat.le_of_ble_eq_true rfl, Nat.le_of_ble_eq_true rfl⟩ rfl rfl (ok_X2_nets (p2 + 1) I L (bn_ck hp2) h) ?_ ?_
  · intro e9 u9 hx9
    exact hx9.elim
  intro v9 u9 hv9
  obtain ⟨r932, rfl, rfl, h⟩ := hv9
  refine ⟨fun q => absurd q (Nat.lt_irrefl _), ?_⟩
  show V G Y_X5_comparison 70 _ (.int r932 :: _) _ _ _ _ _
  refine v_icmp_ge (tgt := 180) (pc' := 73) 35 rfl rfl (by decide) (fun hc => ?_) (fun hc => ?_)
  · replace h := h.1 hc
    refine v_iload (pc' := 182) 85 5 rfl rfl rfl ?_
    exact v_iret 86 rfl rfl (by decide) (by decide) ⟨_, _, rfl, rfl, h⟩
  replace h := h.2 hc
  refine v_iload_n (pc' := 74) 36 1 rfl rfl rfl rfl ?_
  refine v_sipush (v := 10000) (pc' := 77) 37 rfl rfl (by decide) ?_
  refine v_icmp_ge (tgt := 84) (pc' := 80) 38 rfl rfl (by decide) (fun hc => ?_) (fun hc => ?_)
  · replace h := h.1 hc
    refine v_aload_n (pc' := 85) 41 0 rfl rfl rfl rfl ?_
    refine v_iload (pc' := 87) 42 6 rfl rfl rfl ?_
    refine v_iload_n (pc' := 88) 43 1 rfl rfl rfl rfl ?_
    refine v_sipush (v := 10000) (pc' := 91) 44 rfl rfl (by decide) ?_
    refine v_isub (pc' := 92) 45 rfl rfl ?_
    refine v_cV (Y2 := Y_X0_propertyOf) (As := [.int v8, .int (v3 - 10000)]) (b := p2) (pc' := 95) (c1 := 0) (s1 := 0) 46 rfl rfl mf_X0_propertyOf rfl rfl ml_X5_99 mi_X0_propertyOf se_X0_propertyOf (ci := 0) rfl (bn0l hp2) (lay_lt (bn0l hp2) (by decide)) rfl (Nat.le_of_ble_eq_true rfl) ⟨Nat.le_of_ble_eq_true rfl, Nat.le_of_ble_eq_true rfl⟩ rfl rfl (ok_X0_propertyOf p2 v8 (v3 - 10000) I L hp2 h) ?_ ?_
    · intro e9 u9 hx9
      exact hx9.elim
    intro v9 u9 hv9
    obtain ⟨r933, rfl, rfl, h⟩ := hv9
    refine ⟨fun q => absurd q (Nat.lt_irrefl _), ?_⟩
    show V G Y_X5_comparison 95 _ (.int r933 :: _) _ _ _ _ _
    exact b_X5_comparison_95 p2 v3 v4 v5 v6 v7 v8 r933 I L t hp2 ht Q R61 hR61 h
  replace h := h.2 hc
  refine v_iload_n (pc' := 81) 39 1 rfl rfl rfl rfl ?_
  refine v_goto (tgt := 95) 40 rfl (by decide) ?_
  exact b_X5_comparison_95 p2 v3 v4 v5 v6 v7 v8 v3 I L t hp2 ht Q R61 hR61 h
theorem l_X5_comparison_61 {G : GT} {b d : Nat} (p2 : Nat) (v3 : Int32) (v4 : Int32) (v5 : Int32) (v6 : Int32) (I : TI) (L : TL) (t : Nat) (hp2 : bnOK p2) (ht : txOK t) (Q : Int32 → TI → Prop)  : ∀ (n9 : Nat) (v7 : Int32) (v8 : Int32), L_X5_comparison_61 p2 v3 v4 v5 v6 I L t Q n9 v7 v8 → V G Y_X5_comparison 61 [(2, .ref p2), (3, .int v3), (4, .int v4), (5, .int v5), (6, .int v6), (7, .int v7), (8, .int v8)] [] (I, L, RT b d t, 457) 0 0 (fun v9 u9 => ∃ (r9 : Int32) (I9 : TI), v9 = some (.int r9) ∧ u9 = (I9, L, RT b d t, 457) ∧ Q r9 I9) (fun _ _ => False)
  | 0, _, _, h => h.elim
  | n9 + 1, v7, v8, h => d_X5_comparison_61 p2 v3 v4 v5 v6 I L t hp2 ht Q _ (l_X5_comparison_61 p2 v3 v4 v5 v6 I L t hp2 ht Q n9) v7 v8 h
set_option maxHeartbeats 4000000 in
set_option maxRecDepth 100000 in
theorem b_X5_comparison_45 {G : GT} {b d : Nat} (p2 : Nat) (v3 : Int32) (v4 : Int32) (v5 : Int32) (I : TI) (L : TL) (t : Nat) (hp2 : bnOK p2) (ht : txOK t) (Q : Int32 → TI → Prop)  (h : B_X5_comparison_45 p2 v3 v4 v5 I L t Q) : V G Y_X5_comparison 45 [(1, .ref 344), (2, .ref p2), (3, .int v3), (4, .int v4), (5, .int v5)] [] (I, L, RT b d t, 457) 0 0 (fun v9 u9 => ∃ (r9 : Int32) (I9 : TI), v9 = some (.int r9) ∧ u9 = (I9, L, RT b d t, 457) ∧ Q r9 I9) (fun _ _ => False) := by
  unfold B_X5_comparison_45 at h
  refine v_aload_n (pc' := 46) 22 0 rfl rfl rfl rfl ?_
  refine v_cV (Y2 := Y_X7_advance) (As := []) (b := 344) (pc' := 49) (c1 := 0) (s1 := 0) 23 rfl rfl mf_X7_advance rfl rfl ml_X5_84 mi_X7_advance se_X7_advance (ci := 6) rfl ly_344 (lay_lt ly_344 (by decide)) rfl (Nat.le_of_ble_eq_true rfl) ⟨Nat.le_of_ble_eq_true rfl, Nat.le_of_ble_eq_true rfl⟩ rfl rfl (ok_X7_advance I L t ht h) ?_ ?_
  · intro e9 u9 hx9
    exact hx9.elim
  intro v9 u9 hv9
  obtain ⟨I934, rfl, rfl, h⟩ := hv9
  refine ⟨fun q => absurd q (Nat.lt_irrefl _), ?_⟩
  show V G Y_X5_comparison 49 _ _ _ _ _ _ _
  refine v_aload_n (pc' := 50) 24 0 rfl rfl rfl rfl ?_
  refine v_cS (Y2 := Y_X5_readOperand) (As := [.ref 344]) (pc' := 53) (c1 := 0) (s1 := 0) 25 rfl rfl mf_X5_readOperand rfl rfl ml_X5_95 ms_X5_readOperand rfl (Nat.le_of_ble_eq_true rfl) ⟨Nat.le_of_ble_eq_true rfl, Nat.le_of_ble_eq_true rfl⟩ rfl rfl (ok_X5_readOperand I934 L t ht h) ?_ ?_
  · intro e9 u9 hx9
    exact hx9.elim
  intro v9 u9 hv9
  obtain ⟨r935, I936, rfl, rfl, h⟩ := hv9
  refine ⟨fun q => absurd q (Nat.lt_irrefl _), ?_⟩
  show V G Y_X5_comparison 53 _ (.int r935 :: _) _ _ _ _ _
  refine v_istore (ls' := [(6, .int r935), (1, .ref 344), (2, .ref p2), (3, .int v3), (4, .int v4), (5, .int v5)]) (pc' := 55) 26 rfl rfl (by decide) rfl ?_
  refine v_iconst (v := 0) (pc' := 56) 27 rfl rfl (by decide) ?_
  refine v_istore (ls' := [(7, .int 0), (6, .int r935), (1, .ref 344), (2, .ref p2), (3, .int v3), (4, .int v4), (5, .int v5)]) (pc' := 58) 28 rfl rfl (by decide) rfl ?_
  refine v_iconst (v := 0) (pc' := 59) 29 rfl rfl (by decide) ?_
  refine v_istore (ls' := [(8, .int 0), (7, .int 0), (6, .int r935), (1, .ref 344), (2, .ref p2), (3, .int v3), (4, .int v4), (5, .int v5)]) (pc' := 61) 30 rfl rfl (by decide) rfl ?_
  refine V.sub [4, 5, 6, 7, 2, 1, 0] rfl ?_
  obtain ⟨n937, h⟩ := h
  exact l_X5_comparison_61 p2 v3 v4 v5 r935 I936 L t hp2 ht Q n937 (0 : Int32) (0 : Int32) h
set_option maxHeartbeats 4000000 in
set_option maxRecDepth 100000 in
theorem ok_X5_comparison {G : GT} {b d : Nat} (p2 : Nat) (I : TI) (L : TL) (t : Nat) (hp2 : bnOK p2) (ht : txOK t) {Q : Int32 → TI → Prop} (h : W_X5_comparison p2 I L t Q) : MW G Y_X5_comparison [.ref 346, .ref 344, .ref p2] (I, L, RT b d t, 457) (fun v9 u9 => ∃ (r9 : Int32) (I9 : TI), v9 = some (.int r9) ∧ u9 = (I9, L, RT b d t, 457) ∧ Q r9 I9) (fun _ _ => False) := by
  unfold W_X5_comparison at h
  refine MW.intro rfl (by decide) is_X5_comparison (Nat.le_of_ble_eq_true rfl) ?_
  show V G Y_X5_comparison 0 [(0, .ref 346), (1, .ref 344), (2, .ref p2)] [] (I, L, RT b d t, 457) 0 0 _ _
  refine v_aload_n (pc' := 1) 0 1 rfl rfl rfl rfl ?_
  refine v_cS (Y2 := Y_X5_readOperand) (As := [.ref 344]) (pc' := 4) (c1 := 0) (s1 := 0) 1 rfl rfl mf_X5_readOperand rfl rfl ml_X5_95 ms_X5_readOperand rfl (Nat.le_of_ble_eq_true rfl) ⟨Nat.le_of_ble_eq_true rfl, Nat.le_of_ble_eq_true rfl⟩ rfl rfl (ok_X5_readOperand I L t ht h) ?_ ?_
  · intro e9 u9 hx9
    exact hx9.elim
  intro v9 u9 hv9
  obtain ⟨r938, I939, rfl, rfl, h⟩ := hv9
  refine ⟨fun q => absurd q (Nat.lt_irrefl _), ?_⟩
  show V G Y_X5_comparison 4 _ (.int r938 :: _) _ _ _ _ _
  refine v_istore_n (ls' := [(3, .int r938), (0, .ref 346), (1, .ref 344), (2, .ref p2)]) (pc' := 5) 2 rfl rfl rfl (by decide) rfl ?_
  refine v_aload_n (pc' := 6) 3 2 rfl rfl rfl rfl ?_
  refine v_bipush (v := 60) (pc' := 8) 4 rfl rfl (by decide) ?_
  refine v_cV (Y2 := Y_X7_isSign) (As := [.int 60]) (b := 344) (pc' := 11) (c1 := 0) (s1 := 0) 5 rfl rfl mf_X7_isSign rfl rfl ml_X5_77 mi_X7_isSign se_X7_isSign (ci := 6) rfl ly_344 (lay_lt ly_344 (by decide)) rfl (Nat.le_of_ble_eq_true rfl) ⟨Nat.le_of_ble_eq_true rfl, Nat.le_of_ble_eq_true rfl⟩ rfl rfl (ok_X7_isSign (60 : Int32) I939 L t ht h) ?_ ?_
  · intro e9 u9 hx9
    exact hx9.elim
  intro v9 u9 hv9
  obtain ⟨r940, rfl, rfl, h⟩ := hv9
  refine ⟨fun q => absurd q (Nat.lt_irrefl _), ?_⟩
  show V G Y_X5_comparison 11 _ (.int r940 :: _) _ _ _ _ _
  refine v_istore (ls' := [(4, .int r940), (3, .int r938), (0, .ref 346), (1, .ref 344), (2, .ref p2)]) (pc' := 13) 6 rfl rfl (by decide) rfl ?_
  refine v_aload_n (pc' := 14) 7 3 rfl rfl rfl rfl ?_
  refine v_bipush (v := 62) (pc' := 16) 8 rfl rfl (by decide) ?_
  refine v_cV (Y2 := Y_X7_isSign) (As := [.int 62]) (b := 344) (pc' := 19) (c1 := 0) (s1 := 0) 9 rfl rfl mf_X7_isSign rfl rfl ml_X5_77 mi_X7_isSign se_X7_isSign (ci := 6) rfl ly_344 (lay_lt ly_344 (by decide)) rfl (Nat.le_of_ble_eq_true rfl) ⟨Nat.le_of_ble_eq_true rfl, Nat.le_of_ble_eq_true rfl⟩ rfl rfl (ok_X7_isSign (62 : Int32) I939 L t ht h) ?_ ?_
  · intro e9 u9 hx9
    exact hx9.elim
  intro v9 u9 hv9
  obtain ⟨r941, rfl, rfl, h⟩ := hv9
  refine ⟨fun q => absurd q (Nat.lt_irrefl _), ?_⟩
  show V G Y_X5_comparison 19 _ (.int r941 :: _) _ _ _ _ _
  refine v_istore (ls' := [(5, .int r941), (4, .int r940), (3, .int r938), (0, .ref 346), (1, .ref 344), (2, .ref p2)]) (pc' := 21) 10 rfl rfl (by decide) rfl ?_
  refine v_iload (pc' := 23) 11 1 rfl rfl rfl ?_
  refine v_if_ne (tgt := 45) (pc' := 26) 12 rfl rfl (by decide) (fun hc => ?_) (fun hc => ?_)
  · replace h := h.1 hc
    refine V.sub [4, 5, 2, 1, 0] rfl ?_
    exact b_X5_comparison_45 p2 r938 r940 r941 I939 L t hp2 ht Q h
  replace h := h.2 hc
  refine v_iload (pc' := 28) 13 0 rfl rfl rfl ?_
  refine v_if_ne (tgt := 45) (pc' := 31) 14 rfl rfl (by decide) (fun hc => ?_) (fun hc => ?_)
  · replace h := h.1 hc
    refine V.sub [4, 5, 2, 1, 0] rfl ?_
    exact b_X5_comparison_45 p2 r938 r940 r941 I939 L t hp2 ht Q h
  replace h := h.2 hc
  refine v_aload_n (pc' := 32) 15 4 rfl rfl rfl rfl ?_
  refine v_bipush (v := 61) (pc' := 34) 16 rfl rfl (by decide) ?_
  refine v_cV (Y2 := Y_X7_isSign) (As := [.int 61]) (b := 344) (pc' := 37) (c1 := 0) (s1 := 0) 17 rfl rfl mf_X7_isSign rfl rfl ml_X5_77 mi_X7_isSign se_X7_isSign (ci := 6) rfl ly_344 (lay_lt ly_344 (by decide)) rfl (Nat.le_of_ble_eq_true rfl) ⟨Nat.le_of_ble_eq_true rfl, Nat.le_of_ble_eq_true rfl⟩ rfl rfl (ok_X7_isSign (61 : Int32) I939 L t ht h) ?_ ?_
  · intro e9 u9 hx9
    exact hx9.elim
  intro v9 u9 hv9
  obtain ⟨r942, rfl, rfl, h⟩ := hv9
  refine ⟨fun q => absurd q (Nat.lt_irrefl _), ?_⟩
  show V G Y_X5_comparison 37 _ (.int r942 :: _) _ _ _ _ _
  refine v_if_ne (tgt := 45) (pc' := 40) 18 rfl rfl (by decide) (fun hc => ?_) (fun hc => ?_)
  · replace h := h.1 hc
    refine V.sub [4, 5, 2, 1, 0] rfl ?_
    exact b_X5_comparison_45 p2 r938 r940 r941 I939 L t hp2 ht Q h
  replace h := h.2 hc
  refine v_aload_n (pc' := 41) 19 4 rfl rfl rfl rfl ?_
  refine v_iconst (v := 1) (pc' := 42) 20 rfl rfl (by decide) ?_
  refine v_cV (Y2 := Y_X7_fail) (As := [.int 1]) (b := 344) (pc' := 45) (c1 := 0) (s1 := 0) 21 rfl rfl mf_X7_fail rfl rfl ml_X5_81 mi_X7_fail se_X7_fail (ci := 6) rfl ly_344 (lay_lt ly_344 (by decide)) rfl (Nat.le_of_ble_eq_true rfl) ⟨Nat.le_of_ble_eq_true rfl, Nat.le_of_ble_eq_true rfl⟩ rfl rfl (ok_X7_fail (1 : Int32) I939 L h) ?_ ?_
  · intro e9 u9 hx9
    exact hx9.elim
  intro v9 u9 hv9
  obtain ⟨I943, rfl, rfl, h⟩ := hv9
  refine ⟨fun q => absurd q (Nat.lt_irrefl _), ?_⟩
  show V G Y_X5_comparison 45 _ _ _ _ _ _ _
  refine V.sub [4, 5, 2, 1, 0] rfl ?_
  exact b_X5_comparison_45 p2 r938 r940 r941 I943 L t hp2 ht Q h
set_option maxHeartbeats 4000000 in
set_option maxRecDepth 100000 in
theorem b_X5_endFactor_45 {G : GT} {b d t : Nat} (v2 : Int32) (I : TI) (L : TL)  (Q : TI → Prop)  (h : B_X5_endFactor_45 v2 I L Q) : V G Y_X5_endFactor 45 [(0, .ref 346), (2, .int v2)] [] (I, L, RT b d t, 457) 0 0 (fun v9 u9 => ∃ (I9 : TI), v9 = none ∧ u9 = (I9, L, RT b d t, 457) ∧ Q I9) (fun _ _ => False) := by
  unfold B_X5_endFactor_45 at h
  refine v_aload_n (pc' := 46) 27 0 rfl rfl rfl rfl ?_
  refine v_dup (pc' := 47) 28 rfl rfl rfl ?_
  refine v_getI (pc' := 50) 29 rfl rfl pf_X5_32 ly_346 (lay_lt ly_346 (by decide)) ?_
  refine v_iload_n (pc' := 51) 30 1 rfl rfl rfl rfl ?_
  refine v_iand (pc' := 52) 31 rfl rfl ?_
  refine v_putI (pc' := 55) 32 rfl rfl pf_X5_32 (fun q => absurd q (by decide)) ly_346 (lay_lt ly_346 (by decide)) ?_
  exact v_vret 33 rfl rfl (by decide) (by decide) ⟨_, rfl, rfl, h⟩
set_option maxHeartbeats 4000000 in
set_option maxRecDepth 100000 in
theorem d_X5_endFactor_2 {G : GT} {b d t : Nat} (L : TL)  (Q : TI → Prop) (R2 : Int32 → TI → Prop)  (hR2 : ∀ (v2 : Int32) (I : TI), R2 v2 I → V G Y_X5_endFactor 2 [(0, .ref 346), (2, .int v2)] [] (I, L, RT b d t, 457) 0 0 (fun v9 u9 => ∃ (I9 : TI), v9 = none ∧ u9 = (I9, L, RT b d t, 457) ∧ Q I9) (fun _ _ => False)) (v2 : Int32) (I : TI)  (h : D_X5_endFactor_2 L Q R2 v2 I) : V G Y_X5_endFactor 2 [(0, .ref 346), (2, .int v2)] [] (I, L, RT b d t, 457) 0 0 (fun v9 u9 => ∃ (I9 : TI), v9 = none ∧ u9 = (I9, L, RT b d t, 457) ∧ Q I9) (fun _ _ => False) := by
  unfold D_X5_endFactor_2 at h
  refine v_aload_n (pc' := 3) 2 0 rfl rfl rfl rfl ?_
  refine v_getI (pc' := 6) 3 rfl rfl pf_X5_22 ly_346 (lay_lt ly_346 (by decide)) ?_
  refine v_if_le (tgt := 45) (pc' := 9) 4 rfl rfl (by decide) (fun hc => ?_) (fun hc => ?_)
  · replace h := h.1 hc
    exact b_X5_endFactor_45 v2 I L Q h
  replace h := h.2 hc
  refine v_aload_n (pc' := 10) 5 0 rfl rfl rfl rfl ?_
  refine v_getR (t := 347) (pc' := 13) 6 rfl rfl pf_X5_9 ly_346 (lay_lt ly_346 (by decide)) rt_346_0 ?_
  refine v_aload_n (pc' := 14) 7 0 rfl rfl rfl rfl ?_
  refine v_getI (pc' := 17) 8 rfl rfl pf_X5_22 ly_346 (lay_lt ly_346 (by decide)) ?_
  refine v_iconst (v := 1) (pc' := 18) 9 rfl rfl (by decide) ?_
  refine v_isub (pc' := 19) 10 rfl rfl ?_
  obtain ⟨hi946, h⟩ := h
  refine v_zald (i := ((I 346 3) - 1)) (j := ((I 346 3) - 1).toNatClampNeg) (pc' := 20) 11 rfl rfl ly_347 ln_347 (lay_lt ly_347 (by decide)) hi946 rfl ?_
  refine v_if_eq (tgt := 45) (pc' := 23) 12 rfl rfl (by decide) (fun hc => ?_) (fun hc => ?_)
  · replace h := h.1 hc
    exact b_X5_endFactor_45 v2 I L Q h
  replace h := h.2 hc
  refine v_aload_n (pc' := 24) 13 0 rfl rfl rfl rfl ?_
  refine v_getI (pc' := 27) 14 rfl rfl pf_X5_26 ly_346 (lay_lt ly_346 (by decide)) ?_
  refine v_iload_n (pc' := 28) 15 1 rfl rfl rfl rfl ?_
  refine v_iconst (v := -1) (pc' := 29) 16 rfl rfl (by decide) ?_
  refine v_ixor (pc' := 30) 17 rfl rfl ?_
  refine v_iand (pc' := 31) 18 rfl rfl ?_
  refine nm_I (e := ((I 346 4) &&& (v2 ^^^ (-1)))) (fun x947 hx947 => ?_)
  replace h := h x947 hx947
  refine v_istore_n (ls' := [(2, .int x947), (0, .ref 346)]) (pc' := 32) 19 rfl rfl rfl (by decide) rfl ?_
  refine v_aload_n (pc' := 33) 20 1 rfl rfl rfl rfl ?_
  refine v_dup (pc' := 34) 21 rfl rfl rfl ?_
  refine v_getI (pc' := 37) 22 rfl rfl pf_X5_22 ly_346 (lay_lt ly_346 (by decide)) ?_
  refine v_iconst (v := 1) (pc' := 38) 23 rfl rfl (by decide) ?_
  refine v_isub (pc' := 39) 24 rfl rfl ?_
  refine v_putI (pc' := 42) 25 rfl rfl pf_X5_22 (fun q => absurd q (by decide)) ly_346 (lay_lt ly_346 (by decide)) ?_
  refine v_goto (tgt := 2) 26 rfl (by decide) ?_
  refine V.sub [1, 0] rfl ?_
  exact hR2 x947 (up2 I 346 3 ((I 346 3) - 1)) h
theorem l_X5_endFactor_2 {G : GT} {b d t : Nat} (L : TL)  (Q : TI → Prop)  : ∀ (n9 : Nat) (v2 : Int32) (I : TI), L_X5_endFactor_2 L Q n9 v2 I → V G Y_X5_endFactor 2 [(0, .ref 346), (2, .int v2)] [] (I, L, RT b d t, 457) 0 0 (fun v9 u9 => ∃ (I9 : TI), v9 = none ∧ u9 = (I9, L, RT b d t, 457) ∧ Q I9) (fun _ _ => False)
  | 0, _, _, h => h.elim
  | n9 + 1, v2, I, h => d_X5_endFactor_2 L Q _ (l_X5_endFactor_2 L Q n9) v2 I h
set_option maxHeartbeats 4000000 in
set_option maxRecDepth 100000 in
theorem ok_X5_endFactor {G : GT} {b d t : Nat} (p1 : Int32) (I : TI) (L : TL)  {Q : TI → Prop} (h : W_X5_endFactor p1 I L Q) : MW G Y_X5_endFactor [.ref 346, .int p1] (I, L, RT b d t, 457) (fun v9 u9 => ∃ (I9 : TI), v9 = none ∧ u9 = (I9, L, RT b d t, 457) ∧ Q I9) (fun _ _ => False) := by
  unfold W_X5_endFactor at h
  refine MW.intro rfl (by decide) is_X5_endFactor (Nat.le_of_ble_eq_true rfl) ?_
  show V G Y_X5_endFactor 0 [(0, .ref 346), (1, .int p1)] [] (I, L, RT b d t, 457) 0 0 _ _
  refine v_iload_n (pc' := 1) 0 1 rfl rfl rfl rfl ?_
  refine v_istore_n (ls' := [(2, .int p1), (0, .ref 346), (1, .int p1)]) (pc' := 2) 1 rfl rfl rfl (by decide) rfl ?_
  refine V.sub [1, 0] rfl ?_
  obtain ⟨n948, h⟩ := h
  exact l_X5_endFactor_2 L Q n948 p1 I h
set_option maxHeartbeats 4000000 in
set_option maxRecDepth 100000 in
theorem d_X5_closeParentheses_0 {G : GT} {b d : Nat} (L : TL) (t : Nat) (ht : txOK t) (Q : TI → Prop) (R0 : TI → Prop)  (hR0 : ∀ (I : TI), R0 I → V G Y_X5_closeParentheses 0 [(0, .ref 346), (1, .ref 344)] [] (I, L, RT b d t, 457) 0 0 (fun v9 u9 => ∃ (I9 : TI), v9 = none ∧ u9 = (I9, L, RT b d t, 457) ∧ Q I9) (fun _ _ => False)) (I : TI)  (h : D_X5_closeParentheses_0 L t Q R0 I) : V G Y_X5_closeParentheses 0 [(0, .ref 346), (1, .ref 344)] [] (I, L, RT b d t, 457) 0 0 (fun v9 u9 => ∃ (I9 : TI), v9 = none ∧ u9 = (I9, L, RT b d t, 457) ∧ Q I9) (fun _ _ => False) := by
  unfold D_X5_closeParentheses_0 at h
  refine v_aload_n (pc' := 1) 0 0 rfl rfl rfl rfl ?_
  refine v_getI (pc' := 4) 1 rfl rfl pf_X5_22 ly_346 (lay_lt ly_346 (by decide)) ?_
  refine v_if_le (tgt := 74) (pc' := 7) 2 rfl rfl (by decide) (fun hc => ?_) (fun hc => ?_)
  · replace h := h.1 hc
    exact v_vret 39 rfl rfl (by decide) (by decide) ⟨_, rfl, rfl, h⟩
  replace h := h.2 hc
  refine v_aload_n (pc' := 8) 3 1 rfl rfl rfl rfl ?_
  refine v_bipush (v := 41) (pc' := 10) 4 rfl rfl (by decide) ?_
  refine v_cV (Y2 := Y_X7_isSign) (As := [.int 41]) (b := 344) (pc' := 13) (c1 := 0) (s1 := 0) 5 rfl rfl mf_X7_isSign rfl rfl ml_X5_77 mi_X7_isSign se_X7_isSign (ci := 6) rfl ly_344 (lay_lt ly_344 (by decide)) rfl (Nat.le_of_ble_eq_true rfl) ⟨Nat.le_of_ble_eq_true rfl, Nat.le_of_ble_eq_true rfl⟩ rfl rfl (ok_X7_isSign (41 : Int32) I L t ht h) ?_ ?_
  · intro e9 u9 hx9
    exact hx9.elim
  intro v9 u9 hv9
  obtain ⟨r954, rfl, rfl, h⟩ := hv9
  refine ⟨fun q => absurd q (Nat.lt_irrefl _), ?_⟩
  show V G Y_X5_closeParentheses 13 _ (.int r954 :: _) _ _ _ _ _
  refine v_if_eq (tgt := 74) (pc' := 16) 6 rfl rfl (by decide) (fun hc => ?_) (fun hc => ?_)
  · replace h := h.1 hc
    exact v_vret 39 rfl rfl (by decide) (by decide) ⟨_, rfl, rfl, h⟩
  replace h := h.2 hc
  refine v_aload_n (pc' := 17) 7 0 rfl rfl rfl rfl ?_
  refine v_getI (pc' := 20) 8 rfl rfl pf_X5_29 ly_346 (lay_lt ly_346 (by decide)) ?_
  refine v_aload_n (pc' := 21) 9 0 rfl rfl rfl rfl ?_
  refine v_getI (pc' := 24) 10 rfl rfl pf_X5_32 ly_346 (lay_lt ly_346 (by decide)) ?_
  refine v_ior (pc' := 25) 11 rfl rfl ?_
  refine v_istore_n (ls' := [(2, .int ((I 346 5) ||| (I 346 6))), (0, .ref 346), (1, .ref 344)]) (pc' := 26) 12 rfl rfl rfl (by decide) rfl ?_
  refine v_aload_n (pc' := 27) 13 1 rfl rfl rfl rfl ?_
  refine v_dup (pc' := 28) 14 rfl rfl rfl ?_
  refine v_getI (pc' := 31) 15 rfl rfl pf_X5_22 ly_346 (lay_lt ly_346 (by decide)) ?_
  refine v_iconst (v := 1) (pc' := 32) 16 rfl rfl (by decide) ?_
  refine v_isub (pc' := 33) 17 rfl rfl ?_
  refine v_putI (pc' := 36) 18 rfl rfl pf_X5_22 (fun q => absurd q (by decide)) ly_346 (lay_lt ly_346 (by decide)) ?_
  refine v_aload_n (pc' := 37) 19 1 rfl rfl rfl rfl ?_
  refine v_aload_n (pc' := 38) 20 1 rfl rfl rfl rfl ?_
  refine v_getR (t := 348) (pc' := 41) 21 rfl rfl pf_X5_15 ly_346 (lay_lt ly_346 (by decide)) rt_346_1 ?_
  refine v_aload_n (pc' := 42) 22 1 rfl rfl rfl rfl ?_
  refine v_getI (pc' := 45) 23 rfl rfl pf_X5_22 ly_346 (lay_lt ly_346 (by decide)) ?_
  obtain ⟨hi955, h⟩ := h
  refine v_iald (i := ((up2 I 346 3 ((I 346 3) - 1)) 346 3)) (j := ((up2 I 346 3 ((I 346 3) - 1)) 346 3).toNatClampNeg) (pc' := 46) 24 rfl rfl ly_348 ln_348 (lay_lt ly_348 (by decide)) hi955 rfl ?_
  refine v_putI (pc' := 49) 25 rfl rfl pf_X5_29 (fun q => absurd q (by decide)) ly_346 (lay_lt ly_346 (by decide)) ?_
  refine nm_M (e := (up2 (up2 I 346 3 ((I 346 3) - 1)) 346 5 ((up2 I 346 3 ((I 346 3) - 1)) 348 (((up2 I 346 3 ((I 346 3) - 1)) 346 3).toNatClampNeg)))) (fun I956 hI956 => ?_)
  replace h := h I956 hI956
  refine v_aload_n (pc' := 50) 26 1 rfl rfl rfl rfl ?_
  refine v_aload_n (pc' := 51) 27 1 rfl rfl rfl rfl ?_
  refine v_getR (t := 349) (pc' := 54) 28 rfl rfl pf_X5_19 ly_346 (lay_lt ly_346 (by decide)) rt_346_2 ?_
  refine v_aload_n (pc' := 55) 29 1 rfl rfl rfl rfl ?_
  refine v_getI (pc' := 58) 30 rfl rfl pf_X5_22 ly_346 (lay_lt ly_346 (by decide)) ?_
  obtain ⟨hi957, h⟩ := h
  refine v_iald (i := (I956 346 3)) (j := (I956 346 3).toNatClampNeg) (pc' := 59) 31 rfl rfl ly_349 ln_349 (lay_lt ly_349 (by decide)) hi957 rfl ?_
  refine v_putI (pc' := 62) 32 rfl rfl pf_X5_32 (fun q => absurd q (by decide)) ly_346 (lay_lt ly_346 (by decide)) ?_
  refine v_aload_n (pc' := 63) 33 1 rfl rfl rfl rfl ?_
  refine v_iload_n (pc' := 64) 34 0 rfl rfl rfl rfl ?_
  refine v_cV (Y2 := Y_X5_endFactor) (As := [.int ((I 346 5) ||| (I 346 6))]) (b := 346) (pc' := 67) (c1 := 0) (s1 := 0) 35 rfl rfl mf_X5_endFactor rfl rfl ml_X5_58 mi_X5_endFactor se_X5_endFactor (ci := 4) rfl ly_346 (lay_lt ly_346 (by decide)) rfl (Nat.le_of_ble_eq_true rfl) ⟨Nat.le_of_ble_eq_true rfl, Nat.le_of_ble_eq_true rfl⟩ rfl rfl (ok_X5_endFactor ((I 346 5) ||| (I 346 6)) (up2 I956 346 6 (I956 349 ((I956 346 3).toNatClampNeg))) L h) ?_ ?_
  · intro e9 u9 hx9
    exact hx9.elim
  intro v9 u9 hv9
  obtain ⟨I958, rfl, rfl, h⟩ := hv9
  refine ⟨fun q => absurd q (Nat.lt_irrefl _), ?_⟩
  show V G Y_X5_closeParentheses 67 _ _ _ _ _ _ _
  refine v_aload_n (pc' := 68) 36 2 rfl rfl rfl rfl ?_
  refine v_cV (Y2 := Y_X7_advance) (As := []) (b := 344) (pc' := 71) (c1 := 0) (s1 := 0) 37 rfl rfl mf_X7_advance rfl rfl ml_X5_84 mi_X7_advance se_X7_advance (ci := 6) rfl ly_344 (lay_lt ly_344 (by decide)) rfl (Nat.le_of_ble_eq_true rfl) ⟨Nat.le_of_ble_eq_true rfl, Nat.le_of_ble_eq_true rfl⟩ rfl rfl (ok_X7_advance I958 L t ht h) ?_ ?_
  · intro e9 u9 hx9
    exact hx9.elim
  intro v9 u9 hv9
  obtain ⟨I959, rfl, rfl, h⟩ := hv9
  refine ⟨fun q => absurd q (Nat.lt_irrefl _), ?_⟩
  show V G Y_X5_closeParentheses 71 _ _ _ _ _ _ _
  refine v_goto (tgt := 0) 38 rfl (by decide) ?_
  refine V.sub [1, 2] rfl ?_
  exact hR0 I959 h
theorem l_X5_closeParentheses_0 {G : GT} {b d : Nat} (L : TL) (t : Nat) (ht : txOK t) (Q : TI → Prop)  : ∀ (n9 : Nat) (I : TI), L_X5_closeParentheses_0 L t Q n9 I → V G Y_X5_closeParentheses 0 [(0, .ref 346), (1, .ref 344)] [] (I, L, RT b d t, 457) 0 0 (fun v9 u9 => ∃ (I9 : TI), v9 = none ∧ u9 = (I9, L, RT b d t, 457) ∧ Q I9) (fun _ _ => False)
  | 0, _, h => h.elim
  | n9 + 1, I, h => d_X5_closeParentheses_0 L t ht Q _ (l_X5_closeParentheses_0 L t ht Q n9) I h
set_option maxHeartbeats 4000000 in
set_option maxRecDepth 100000 in
theorem ok_X5_closeParentheses {G : GT} {b d : Nat} (I : TI) (L : TL) (t : Nat) (ht : txOK t) {Q : TI → Prop} (h : W_X5_closeParentheses I L t Q) : MW G Y_X5_closeParentheses [.ref 346, .ref 344] (I, L, RT b d t, 457) (fun v9 u9 => ∃ (I9 : TI), v9 = none ∧ u9 = (I9, L, RT b d t, 457) ∧ Q I9) (fun _ _ => False) := by
  unfold W_X5_closeParentheses at h
  refine MW.intro rfl (by decide) is_X5_closeParentheses (Nat.le_of_ble_eq_true rfl) ?_
  show V G Y_X5_closeParentheses 0 [(0, .ref 346), (1, .ref 344)] [] (I, L, RT b d t, 457) 0 0 _ _
  obtain ⟨n960, h⟩ := h
  exact l_X5_closeParentheses_0 L t ht Q n960 I h
set_option maxHeartbeats 4000000 in
set_option maxRecDepth 100000 in
theorem b_X5_goesOn_65 {G : GT} {b d : Nat} (I : TI) (L : TL) (t : Nat) (ht : txOK t) (Q : Int32 → TI → Prop)  (h : B_X5_goesOn_65 I L t Q) : V G Y_X5_goesOn 65 [(1, .ref 344)] [] (I, L, RT b d t, 457) 0 0 (fun v9 u9 => ∃ (r9 : Int32) (I9 : TI), v9 = some (.int r9) ∧ u9 = (I9, L, RT b d t, 457) ∧ Q r9 I9) (fun _ _ => False) := by
  unfold B_X5_goesOn_65 at h
  refine v_aload_n (pc' := 66) 33 0 rfl rfl rfl rfl ?_
  refine v_iconst (v := 1) (pc' := 67) 34 rfl rfl (by decide) ?_
  refine v_cV (Y2 := Y_X7_fail) (As := [.int 1]) (b := 344) (pc' := 70) (c1 := 0) (s1 := 0) 35 rfl rfl mf_X7_fail rfl rfl ml_X5_81 mi_X7_fail se_X7_fail (ci := 6) rfl ly_344 (lay_lt ly_344 (by decide)) rfl (Nat.le_of_ble_eq_true rfl) ⟨Nat.le_of_ble_eq_true rfl, Nat.le_of_ble_eq_true rfl⟩ rfl rfl (ok_X7_fail (1 : Int32) I L h) ?_ ?_
  · intro e9 u9 hx9
    exact hx9.elim
  intro v9 u9 hv9
  obtain ⟨I970, rfl, rfl, h⟩ := hv9
  refine ⟨fun q => absurd q (Nat.lt_irrefl _), ?_⟩
  show V G Y_X5_goesOn 70 _ _ _ _ _ _ _
  refine v_iconst (v := 0) (pc' := 71) 36 rfl rfl (by decide) ?_
  exact v_bret 37 rfl rfl (by decide) (by decide) (by decide) ⟨_, _, rfl, rfl, h⟩
set_option maxHeartbeats 4000000 in
set_option maxRecDepth 100000 in
theorem b_X5_goesOn_45 {G : GT} {b d : Nat} (I : TI) (L : TL) (t : Nat) (ht : txOK t) (Q : Int32 → TI → Prop)  (h : B_X5_goesOn_45 I L t Q) : V G Y_X5_goesOn 45 [(1, .ref 344)] [] (I, L, RT b d t, 457) 0 0 (fun v9 u9 => ∃ (r9 : Int32) (I9 : TI), v9 = some (.int r9) ∧ u9 = (I9, L, RT b d t, 457) ∧ Q r9 I9) (fun _ _ => False) := by
  unfold B_X5_goesOn_45 at h
  refine v_aload_n (pc' := 46) 23 0 rfl rfl rfl rfl ?_
  refine v_cV (Y2 := Y_X7_advance) (As := []) (b := 344) (pc' := 49) (c1 := 0) (s1 := 0) 24 rfl rfl mf_X7_advance rfl rfl ml_X5_84 mi_X7_advance se_X7_advance (ci := 6) rfl ly_344 (lay_lt ly_344 (by decide)) rfl (Nat.le_of_ble_eq_true rfl) ⟨Nat.le_of_ble_eq_true rfl, Nat.le_of_ble_eq_true rfl⟩ rfl rfl (ok_X7_advance I L t ht h) ?_ ?_
  · intro e9 u9 hx9
    exact hx9.elim
  intro v9 u9 hv9
  obtain ⟨I971, rfl, rfl, h⟩ := hv9
  refine ⟨fun q => absurd q (Nat.lt_irrefl _), ?_⟩
  show V G Y_X5_goesOn 49 _ _ _ _ _ _ _
  refine v_iconst (v := 1) (pc' := 50) 25 rfl rfl (by decide) ?_
  exact v_bret 26 rfl rfl (by decide) (by decide) (by decide) ⟨_, _, rfl, rfl, h⟩
set_option maxHeartbeats 4000000 in
set_option maxRecDepth 100000 in
theorem b_X5_goesOn_20 {G : GT} {b d : Nat} (v2 : Int32) (I : TI) (L : TL) (t : Nat) (ht : txOK t) (Q : Int32 → TI → Prop)  (h : B_X5_goesOn_20 v2 I L t Q) : V G Y_X5_goesOn 20 [(0, .ref 346), (1, .ref 344), (2, .int v2)] [] (I, L, RT b d t, 457) 0 0 (fun v9 u9 => ∃ (r9 : Int32) (I9 : TI), v9 = some (.int r9) ∧ u9 = (I9, L, RT b d t, 457) ∧ Q r9 I9) (fun _ _ => False) := by
  unfold B_X5_goesOn_20 at h
  refine v_iload_n (pc' := 21) 10 2 rfl rfl rfl rfl ?_
  refine v_if_ne (tgt := 45) (pc' := 24) 11 rfl rfl (by decide) (fun hc => ?_) (fun hc => ?_)
  · replace h := h.1 hc
    refine V.sub [1] rfl ?_
    exact b_X5_goesOn_45 I L t ht Q h
  replace h := h.2 hc
  refine v_aload_n (pc' := 25) 12 0 rfl rfl rfl rfl ?_
  refine v_dup (pc' := 26) 13 rfl rfl rfl ?_
  refine v_getI (pc' := 29) 14 rfl rfl pf_X5_29 ly_346 (lay_lt ly_346 (by decide)) ?_
  refine v_aload_n (pc' := 30) 15 0 rfl rfl rfl rfl ?_
  refine v_getI (pc' := 33) 16 rfl rfl pf_X5_32 ly_346 (lay_lt ly_346 (by decide)) ?_
  refine v_ior (pc' := 34) 17 rfl rfl ?_
  refine v_putI (pc' := 37) 18 rfl rfl pf_X5_29 (fun q => absurd q (by decide)) ly_346 (lay_lt ly_346 (by decide)) ?_
  refine v_aload_n (pc' := 38) 19 0 rfl rfl rfl rfl ?_
  refine v_aload_n (pc' := 39) 20 0 rfl rfl rfl rfl ?_
  refine v_getI (pc' := 42) 21 rfl rfl pf_X5_26 ly_346 (lay_lt ly_346 (by decide)) ?_
  refine v_putI (pc' := 45) 22 rfl rfl pf_X5_32 (fun q => absurd q (by decide)) ly_346 (lay_lt ly_346 (by decide)) ?_
  refine nm_M (e := (up2 (up2 I 346 5 ((I 346 5) ||| (I 346 6))) 346 6 ((up2 I 346 5 ((I 346 5) ||| (I 346 6))) 346 4))) (fun I972 hI972 => ?_)
  replace h := h I972 hI972
  refine V.sub [1] rfl ?_
  exact b_X5_goesOn_45 I972 L t ht Q h
set_option maxHeartbeats 4000000 in
set_option maxRecDepth 100000 in
theorem ok_X5_goesOn {G : GT} {b d : Nat} (I : TI) (L : TL) (t : Nat) (ht : txOK t) {Q : Int32 → TI → Prop} (h : W_X5_goesOn I L t Q) : MW G Y_X5_goesOn [.ref 346, .ref 344] (I, L, RT b d t, 457) (fun v9 u9 => ∃ (r9 : Int32) (I9 : TI), v9 = some (.int r9) ∧ u9 = (I9, L, RT b d t, 457) ∧ Q r9 I9) (fun _ _ => False) := by
  unfold W_X5_goesOn at h
  refine MW.intro rfl (by decide) is_X5_goesOn (Nat.le_of_ble_eq_true rfl) ?_
  show V G Y_X5_goesOn 0 [(0, .ref 346), (1, .ref 344)] [] (I, L, RT b d t, 457) 0 0 _ _
  refine v_aload_n (pc' := 1) 0 1 rfl rfl rfl rfl ?_
  refine v_ldcS (pc' := 3) 1 rfl rfl sr_X5_87 ?_
  refine v_cV (Y2 := Y_X7_isWord) (As := [.ref 462]) (b := 344) (pc' := 6) (c1 := 0) (s1 := 0) 2 rfl rfl mf_X7_isWord rfl rfl ml_X5_71 mi_X7_isWord se_X7_isWord (ci := 6) rfl ly_344 (lay_lt ly_344 (by decide)) rfl (Nat.le_of_ble_eq_true rfl) ⟨Nat.le_of_ble_eq_true rfl, Nat.le_of_ble_eq_true rfl⟩ rfl rfl (ok_X7_isWord 462 I L t ht h) ?_ ?_
  · intro e9 u9 hx9
    exact hx9.elim
  intro v9 u9 hv9
  obtain ⟨r973, rfl, rfl, h⟩ := hv9
  refine ⟨fun q => absurd q (Nat.lt_irrefl _), ?_⟩
  show V G Y_X5_goesOn 6 _ (.int r973 :: _) _ _ _ _ _
  refine v_istore_n (ls' := [(2, .int r973), (0, .ref 346), (1, .ref 344)]) (pc' := 7) 3 rfl rfl rfl (by decide) rfl ?_
  refine v_iload_n (pc' := 8) 4 0 rfl rfl rfl rfl ?_
  refine v_if_ne (tgt := 20) (pc' := 11) 5 rfl rfl (by decide) (fun hc => ?_) (fun hc => ?_)
  · replace h := h.1 hc
    refine V.sub [1, 2, 0] rfl ?_
    exact b_X5_goesOn_20 r973 I L t ht Q h
  replace h := h.2 hc
  refine v_aload_n (pc' := 12) 6 2 rfl rfl rfl rfl ?_
  refine v_ldcS (pc' := 14) 7 rfl rfl sr_X5_89 ?_
  refine v_cV (Y2 := Y_X7_isWord) (As := [.ref 463]) (b := 344) (pc' := 17) (c1 := 0) (s1 := 0) 8 rfl rfl mf_X7_isWord rfl rfl ml_X5_71 mi_X7_isWord se_X7_isWord (ci := 6) rfl ly_344 (lay_lt ly_344 (by decide)) rfl (Nat.le_of_ble_eq_true rfl) ⟨Nat.le_of_ble_eq_true rfl, Nat.le_of_ble_eq_true rfl⟩ rfl rfl (ok_X7_isWord 463 I L t ht h) ?_ ?_
  · intro e9 u9 hx9
    exact hx9.elim
  intro v9 u9 hv9
  obtain ⟨r974, rfl, rfl, h⟩ := hv9
  refine ⟨fun q => absurd q (Nat.lt_irrefl _), ?_⟩
  show V G Y_X5_goesOn 17 _ (.int r974 :: _) _ _ _ _ _
  refine v_if_eq (tgt := 51) (pc' := 20) 9 rfl rfl (by decide) (fun hc => ?_) (fun hc => ?_)
  · replace h := h.1 hc
    refine v_aload_n (pc' := 52) 27 1 rfl rfl rfl rfl ?_
    refine v_getI (pc' := 55) 28 rfl rfl pf_X5_22 ly_346 (lay_lt ly_346 (by decide)) ?_
    refine v_if_gt (tgt := 65) (pc' := 58) 29 rfl rfl (by decide) (fun hc => ?_) (fun hc => ?_)
    · replace h := h.1 hc
      refine V.sub [2] rfl ?_
      exact b_X5_goesOn_65 I L t ht Q h
    replace h := h.2 hc
    refine v_aload_n (pc' := 59) 30 2 rfl rfl rfl rfl ?_
    refine v_cV (Y2 := Y_X7_isEnd) (As := []) (b := 344) (pc' := 62) (c1 := 0) (s1 := 0) 31 rfl rfl mf_X7_isEnd rfl rfl ml_X5_91 mi_X7_isEnd se_X7_isEnd (ci := 6) rfl ly_344 (lay_lt ly_344 (by decide)) rfl (Nat.le_of_ble_eq_true rfl) ⟨Nat.le_of_ble_eq_true rfl, Nat.le_of_ble_eq_true rfl⟩ rfl rfl (ok_X7_isEnd I L h) ?_ ?_
    · intro e9 u9 hx9
      exact hx9.elim
    intro v9 u9 hv9
    obtain ⟨r975, rfl, rfl, h⟩ := hv9
    refine ⟨fun q => absurd q (Nat.lt_irrefl _), ?_⟩
    show V G Y_X5_goesOn 62 _ (.int r975 :: _) _ _ _ _ _
    refine v_if_ne (tgt := 70) (pc' := 65) 32 rfl rfl (by decide) (fun hc => ?_) (fun hc => ?_)
    · replace h := h.1 hc
      refine v_iconst (v := 0) (pc' := 71) 36 rfl rfl (by decide) ?_
      exact v_bret 37 rfl rfl (by decide) (by decide) (by decide) ⟨_, _, rfl, rfl, h⟩
    replace h := h.2 hc
    refine V.sub [2] rfl ?_
    exact b_X5_goesOn_65 I L t ht Q h
  replace h := h.2 hc
  refine V.sub [1, 2, 0] rfl ?_
  exact b_X5_goesOn_20 r973 I L t ht Q h
set_option maxHeartbeats 4000000 in
set_option maxRecDepth 100000 in
theorem b_X5_netsOf_73 {G : GT} {b d : Nat} (p2 : Nat) (I : TI) (L : TL) (t : Nat) (hp2 : bnOK p2) (ht : txOK t) (Q : Int32 → TI → Prop)  (h : B_X5_netsOf_73 p2 I L t Q) : V G Y_X5_netsOf 73 [(0, .ref 346)] [] (I, L, RT b d t, 457) 0 0 (fun v9 u9 => ∃ (r9 : Int32) (I9 : TI), v9 = some (.int r9) ∧ u9 = (I9, L, RT b d t, 457) ∧ Q r9 I9) (fun _ _ => False) := by
  unfold B_X5_netsOf_73 at h
  refine v_aload_n (pc' := 74) 41 0 rfl rfl rfl rfl ?_
  refine v_getI (pc' := 77) 42 rfl rfl pf_X5_29 ly_346 (lay_lt ly_346 (by decide)) ?_
  refine v_aload_n (pc' := 78) 43 0 rfl rfl rfl rfl ?_
  refine v_getI (pc' := 81) 44 rfl rfl pf_X5_32 ly_346 (lay_lt ly_346 (by decide)) ?_
  refine v_ior (pc' := 82) 45 rfl rfl ?_
  exact v_iret 46 rfl rfl (by decide) (by decide) ⟨_, _, rfl, rfl, h⟩
set_option maxHeartbeats 4000000 in
set_option maxRecDepth 100000 in
theorem d_X5_netsOf_29 {G : GT} {b d : Nat} (p2 : Nat) (L : TL) (t : Nat) (hp2 : bnOK p2) (ht : txOK t) (Q : Int32 → TI → Prop) (R29 : Int32 → Int32 → TI → Prop)  (hR29 : ∀ (v3 : Int32) (v4 : Int32) (I : TI), R29 v3 v4 I → V G Y_X5_netsOf 29 [(0, .ref 346), (1, .ref 344), (2, .ref p2), (3, .int v3), (4, .int v4)] [] (I, L, RT b d t, 457) 0 0 (fun v9 u9 => ∃ (r9 : Int32) (I9 : TI), v9 = some (.int r9) ∧ u9 = (I9, L, RT b d t, 457) ∧ Q r9 I9) (fun _ _ => False)) (v3 : Int32) (v4 : Int32) (I : TI)  (h : D_X5_netsOf_29 p2 L t Q R29 v3 v4 I) : V G Y_X5_netsOf 29 [(0, .ref 346), (1, .ref 344), (2, .ref p2), (3, .int v3), (4, .int v4)] [] (I, L, RT b d t, 457) 0 0 (fun v9 u9 => ∃ (r9 : Int32) (I9 : TI), v9 = some (.int r9) ∧ u9 = (I9, L, RT b d t, 457) ∧ Q r9 I9) (fun _ _ => False) := by
  unfold D_X5_netsOf_29 at h
  refine v_iload_n (pc' := 30) 18 3 rfl rfl rfl rfl ?_
  refine v_if_eq (tgt := 73) (pc' := 33) 19 rfl rfl (by decide) (fun hc => ?_) (fun hc => ?_)
  · replace h := h.1 hc
    refine V.sub [0] rfl ?_
    exact b_X5_netsOf_73 p2 I L t hp2 ht Q h
  replace h := h.2 hc
  refine v_iload (pc' := 35) 20 4 rfl rfl rfl ?_
  refine v_sipush (v := 200) (pc' := 38) 21 rfl rfl (by decide) ?_
  refine v_icmp_gt (tgt := 73) (pc' := 41) 22 rfl rfl (by decide) (fun hc => ?_) (fun hc => ?_)
  · replace h := h.1 hc
    refine V.sub [0] rfl ?_
    exact b_X5_netsOf_73 p2 I L t hp2 ht Q h
  replace h := h.2 hc
  refine v_aload_n (pc' := 42) 23 0 rfl rfl rfl rfl ?_
  refine v_aload_n (pc' := 43) 24 1 rfl rfl rfl rfl ?_
  refine v_cV (Y2 := Y_X5_openFactors) (As := [.ref 344]) (b := 346) (pc' := 46) (c1 := 0) (s1 := 0) 25 rfl rfl mf_X5_openFactors rfl rfl ml_X5_50 mi_X5_openFactors se_X5_openFactors (ci := 4) rfl ly_346 (lay_lt ly_346 (by decide)) rfl (Nat.le_of_ble_eq_true rfl) ⟨Nat.le_of_ble_eq_true rfl, Nat.le_of_ble_eq_true rfl⟩ rfl rfl (ok_X5_openFactors I L t ht h) ?_ ?_
  · intro e9 u9 hx9
    exact hx9.elim
  intro v9 u9 hv9
  obtain ⟨I994, rfl, rfl, h⟩ := hv9
  refine ⟨fun q => absurd q (Nat.lt_irrefl _), ?_⟩
  show V G Y_X5_netsOf 46 _ _ _ _ _ _ _
  refine v_aload_n (pc' := 47) 26 0 rfl rfl rfl rfl ?_
  refine v_aload_n (pc' := 48) 27 0 rfl rfl rfl rfl ?_
  refine v_aload_n (pc' := 49) 28 1 rfl rfl rfl rfl ?_
  refine v_aload_n (pc' := 50) 29 2 rfl rfl rfl rfl ?_
  refine v_cV (Y2 := Y_X5_comparison) (As := [.ref 344, .ref p2]) (b := 346) (pc' := 53) (c1 := 0) (s1 := 0) 30 rfl rfl mf_X5_comparison rfl rfl ml_X5_54 mi_X5_comparison se_X5_comparison (ci := 4) rfl ly_346 (lay_lt ly_346 (by decide)) rfl (Nat.le_of_ble_eq_true rfl) ⟨Nat.le_of_ble_eq_true rfl, Nat.le_of_ble_eq_true rfl⟩ rfl rfl (ok_X5_comparison p2 I994 L t hp2 ht h) ?_ ?_
  · intro e9 u9 hx9
    exact hx9.elim
  intro v9 u9 hv9
  obtain ⟨r995, I996, rfl, rfl, h⟩ := hv9
  refine ⟨fun q => absurd q (Nat.lt_irrefl _), ?_⟩
  show V G Y_X5_netsOf 53 _ (.int r995 :: _) _ _ _ _ _
  refine v_cV (Y2 := Y_X5_endFactor) (As := [.int r995]) (b := 346) (pc' := 56) (c1 := 0) (s1 := 0) 31 rfl rfl mf_X5_endFactor rfl rfl ml_X5_58 mi_X5_endFactor se_X5_endFactor (ci := 4) rfl ly_346 (lay_lt ly_346 (by decide)) rfl (Nat.le_of_ble_eq_true rfl) ⟨Nat.le_of_ble_eq_true rfl, Nat.le_of_ble_eq_true rfl⟩ rfl rfl (ok_X5_endFactor r995 I996 L h) ?_ ?_
  · intro e9 u9 hx9
    exact hx9.elim
  intro v9 u9 hv9
  obtain ⟨I997, rfl, rfl, h⟩ := hv9
  refine ⟨fun q => absurd q (Nat.lt_irrefl _), ?_⟩
  show V G Y_X5_netsOf 56 _ _ _ _ _ _ _
  refine v_aload_n (pc' := 57) 32 0 rfl rfl rfl rfl ?_
  refine v_aload_n (pc' := 58) 33 1 rfl rfl rfl rfl ?_
  refine v_cV (Y2 := Y_X5_closeParentheses) (As := [.ref 344]) (b := 346) (pc' := 61) (c1 := 0) (s1 := 0) 34 rfl rfl mf_X5_closeParentheses rfl rfl ml_X5_62 mi_X5_closeParentheses se_X5_closeParentheses (ci := 4) rfl ly_346 (lay_lt ly_346 (by decide)) rfl (Nat.le_of_ble_eq_true rfl) ⟨Nat.le_of_ble_eq_true rfl, Nat.le_of_ble_eq_true rfl⟩ rfl rfl (ok_X5_closeParentheses I997 L t ht h) ?_ ?_
  · intro e9 u9 hx9
    exact hx9.elim
  intro v9 u9 hv9
  obtain ⟨I998, rfl, rfl, h⟩ := hv9
  refine ⟨fun q => absurd q (Nat.lt_irrefl _), ?_⟩
  show V G Y_X5_netsOf 61 _ _ _ _ _ _ _
  refine v_aload_n (pc' := 62) 35 0 rfl rfl rfl rfl ?_
  refine v_aload_n (pc' := 63) 36 1 rfl rfl rfl rfl ?_
  refine v_cV (Y2 := Y_X5_goesOn) (As := [.ref 344]) (b := 346) (pc' := 66) (c1 := 0) (s1 := 0) 37 rfl rfl mf_X5_goesOn rfl rfl ml_X5_65 mi_X5_goesOn se_X5_goesOn (ci := 4) rfl ly_346 (lay_lt ly_346 (by decide)) rfl (Nat.le_of_ble_eq_true rfl) ⟨Nat.le_of_ble_eq_true rfl, Nat.le_of_ble_eq_true rfl⟩ rfl rfl (ok_X5_goesOn I998 L t ht h) ?_ ?_
  · intro e9 u9 hx9
    exact hx9.elim
  intro v9 u9 hv9
  obtain ⟨r999, I1000, rfl, rfl, h⟩ := hv9
  refine ⟨fun q => absurd q (Nat.lt_irrefl _), ?_⟩
  show V G Y_X5_netsOf 66 _ (.int r999 :: _) _ _ _ _ _
  refine v_istore_n (ls' := [(3, .int r999), (0, .ref 346), (1, .ref 344), (2, .ref p2), (4, .int v4)]) (pc' := 67) 38 rfl rfl rfl (by decide) rfl ?_
  refine v_iinc (v := (v4 + 1)) (ls' := [(4, .int (v4 + 1)), (3, .int r999), (0, .ref 346), (1, .ref 344), (2, .ref p2)]) (pc' := 70) 39 4 rfl rfl rfl rfl (by decide) rfl ?_
  refine v_goto (tgt := 29) 40 rfl (by decide) ?_
  refine V.sub [2, 3, 4, 1, 0] rfl ?_
  exact hR29 r999 (v4 + 1) I1000 h
theorem l_X5_netsOf_29 {G : GT} {b d : Nat} (p2 : Nat) (L : TL) (t : Nat) (hp2 : bnOK p2) (ht : txOK t) (Q : Int32 → TI → Prop)  : ∀ (n9 : Nat) (v3 : Int32) (v4 : Int32) (I : TI), L_X5_netsOf_29 p2 L t Q n9 v3 v4 I → V G Y_X5_netsOf 29 [(0, .ref 346), (1, .ref 344), (2, .ref p2), (3, .int v3), (4, .int v4)] [] (I, L, RT b d t, 457) 0 0 (fun v9 u9 => ∃ (r9 : Int32) (I9 : TI), v9 = some (.int r9) ∧ u9 = (I9, L, RT b d t, 457) ∧ Q r9 I9) (fun _ _ => False)
  | 0, _, _, _, h => h.elim
  | n9 + 1, v3, v4, I, h => d_X5_netsOf_29 p2 L t hp2 ht Q _ (l_X5_netsOf_29 p2 L t hp2 ht Q n9) v3 v4 I h
set_option maxHeartbeats 4000000 in
set_option maxRecDepth 100000 in
theorem ok_X5_netsOf {G : GT} {b d : Nat} (p2 : Nat) (I : TI) (L : TL) (t : Nat) (hp2 : bnOK p2) (ht : txOK t) {Q : Int32 → TI → Prop} (h : W_X5_netsOf p2 I L t Q) : MW G Y_X5_netsOf [.ref 346, .ref 344, .ref p2] (I, L, RT b d t, 457) (fun v9 u9 => ∃ (r9 : Int32) (I9 : TI), v9 = some (.int r9) ∧ u9 = (I9, L, RT b d t, 457) ∧ Q r9 I9) (fun _ _ => False) := by
  unfold W_X5_netsOf at h
  refine MW.intro rfl (by decide) is_X5_netsOf (Nat.le_of_ble_eq_true rfl) ?_
  show V G Y_X5_netsOf 0 [(0, .ref 346), (1, .ref 344), (2, .ref p2)] [] (I, L, RT b d t, 457) 0 0 _ _
  refine v_aload_n (pc' := 1) 0 0 rfl rfl rfl rfl ?_
  refine v_iconst (v := 1) (pc' := 2) 1 rfl rfl (by decide) ?_
  refine v_aload_n (pc' := 3) 2 2 rfl rfl rfl rfl ?_
  refine v_getR (t := (p2 + 1)) (pc' := 6) 3 rfl rfl pf_X5_35 (bn0l hp2) (lay_lt (bn0l hp2) (by decide)) (rt_bn_0 hp2) ?_
  refine v_cV (Y2 := Y_X2_nets) (As := []) (b := (p2 + 1)) (pc' := 9) (c1 := 0) (s1 := 0) 4 rfl rfl mf_X2_nets rfl rfl ml_X5_41 mi_X2_nets se_X2_nets (ci := 1) rfl (bn1l hp2) (lay_lt (bn1l hp2) (by decide)) rfl (Nat.le_of_ble_eq_true rfl) ⟨Nat.le_of_ble_eq_true rfl, Nat.le_of_ble_eq_true rfl⟩ rfl rfl (ok_X2_nets (p2 + 1) I L (bn_ck hp2) h) ?_ ?_
  · intro e9 u9 hx9
    exact hx9.elim
  intro v9 u9 hv9
  obtain ⟨r1001, rfl, rfl, h⟩ := hv9
  refine ⟨fun q => absurd q (Nat.lt_irrefl _), ?_⟩
  show V G Y_X5_netsOf 9 _ (.int r1001 :: _) _ _ _ _ _
  refine v_ishl (pc' := 10) 5 rfl rfl ?_
  refine v_iconst (v := 1) (pc' := 11) 6 rfl rfl (by decide) ?_
  refine v_isub (pc' := 12) 7 rfl rfl ?_
  refine v_putI (pc' := 15) 8 rfl rfl pf_X5_26 (fun q => absurd q (by decide)) ly_346 (lay_lt ly_346 (by decide)) ?_
  refine v_aload_n (pc' := 16) 9 0 rfl rfl rfl rfl ?_
  refine v_iconst (v := 0) (pc' := 17) 10 rfl rfl (by decide) ?_
  refine v_putI (pc' := 20) 11 rfl rfl pf_X5_22 (fun q => absurd q (by decide)) ly_346 (lay_lt ly_346 (by decide)) ?_
  refine nm_M (e := (up2 (up2 I 346 4 (((1 : Int32) <<< (r1001 &&& 31)) - 1)) 346 3 0)) (fun I1002 hI1002 => ?_)
  replace h := h I1002 hI1002
  refine v_aload_n (pc' := 21) 12 0 rfl rfl rfl rfl ?_
  refine v_cV (Y2 := Y_X5_beginTest) (As := []) (b := 346) (pc' := 24) (c1 := 0) (s1 := 0) 13 rfl rfl mf_X5_beginTest rfl rfl ml_X5_47 mi_X5_beginTest se_X5_beginTest (ci := 4) rfl ly_346 (lay_lt ly_346 (by decide)) rfl (Nat.le_of_ble_eq_true rfl) ⟨Nat.le_of_ble_eq_true rfl, Nat.le_of_ble_eq_true rfl⟩ rfl rfl (ok_X5_beginTest I1002 L h) ?_ ?_
  · intro e9 u9 hx9
    exact hx9.elim
  intro v9 u9 hv9
  obtain ⟨I1003, rfl, rfl, h⟩ := hv9
  refine ⟨fun q => absurd q (Nat.lt_irrefl _), ?_⟩
  show V G Y_X5_netsOf 24 _ _ _ _ _ _ _
  refine v_iconst (v := 1) (pc' := 25) 14 rfl rfl (by decide) ?_
  refine v_istore_n (ls' := [(3, .int 1), (0, .ref 346), (1, .ref 344), (2, .ref p2)]) (pc' := 26) 15 rfl rfl rfl (by decide) rfl ?_
  refine v_iconst (v := 0) (pc' := 27) 16 rfl rfl (by decide) ?_
  refine v_istore (ls' := [(4, .int 0), (3, .int 1), (0, .ref 346), (1, .ref 344), (2, .ref p2)]) (pc' := 29) 17 rfl rfl (by decide) rfl ?_
  refine V.sub [2, 3, 4, 1, 0] rfl ?_
  obtain ⟨n1004, h⟩ := h
  exact l_X5_netsOf_29 p2 L t hp2 ht Q n1004 (1 : Int32) (0 : Int32) I1003 h
set_option maxHeartbeats 4000000 in
set_option maxRecDepth 100000 in
theorem ok_X6_timeState {G : GT} {b d t : Nat} (p0 : Nat) (p1 : Int32) (p2 : Int32) (I : TI) (L : TL) (hp0 : stOK p0) {Q : Int32 → Prop} (h : W_X6_timeState p0 p1 p2 I L Q) : MW G Y_X6_timeState [.ref p0, .int p1, .int p2] (I, L, RT b d t, 457) (fun v9 u9 => ∃ (r9 : Int32), v9 = some (.int r9) ∧ u9 = (I, L, RT b d t, 457) ∧ Q r9) (fun _ _ => False) := by
  unfold W_X6_timeState at h
  refine MW.intro rfl (by decide) is_X6_timeState (Nat.le_of_ble_eq_true rfl) ?_
  show V G Y_X6_timeState 0 [(0, .ref p0), (1, .int p1), (2, .int p2)] [] (I, L, RT b d t, 457) 0 0 _ _
  refine v_aload_n (pc' := 1) 0 0 rfl rfl rfl rfl ?_
  refine v_getR (t := (p0 + 6)) (pc' := 4) 1 rfl rfl pf_X6_20 (st0l hp0) (lay_lt (st0l hp0) (by decide)) (rt_st_2 hp0) ?_
  refine v_iload_n (pc' := 5) 2 1 rfl rfl rfl rfl ?_
  obtain ⟨hi1009, h⟩ := h
  refine v_lald (i := p1) (j := p1.toNatClampNeg) (pc' := 6) 3 rfl rfl (st6l hp0) (st6n hp0) (lay_lt (st6l hp0) (by decide)) hi1009 rfl ?_
  refine v_iload_n (pc' := 7) 4 2 rfl rfl rfl rfl ?_
  refine v_cNS (Y2 := Y_X8_bitOf) (As := [.long (L (p0 + 6) (p1.toNatClampNeg)), .int p2]) (pc' := 10) (c1 := 0) (s1 := 0) 5 rfl rfl mf_X8_bitOf rfl rfl nt_X6_75 ms_X8_bitOf rfl (Nat.le_of_ble_eq_true rfl) ⟨Nat.le_of_ble_eq_true rfl, Nat.le_of_ble_eq_true rfl⟩ rfl rfl (ok_X8_bitOf (L (p0 + 6) (p1.toNatClampNeg)) p2 I L h) ?_ ?_
  · intro e9 u9 hx9
    exact hx9.elim
  intro v9 u9 hv9
  obtain ⟨r1010, rfl, rfl, h⟩ := hv9
  refine ⟨fun q => absurd q (Nat.lt_irrefl _), ?_⟩
  show V G Y_X6_timeState 10 _ (.int r1010 :: _) _ _ _ _ _
  refine v_iconst (v := 1) (pc' := 11) 6 rfl rfl (by decide) ?_
  refine v_icmp_ne (tgt := 16) (pc' := 14) 7 rfl rfl (by decide) (fun hc => ?_) (fun hc => ?_)
  · replace h := h.1 hc
    refine v_aload_n (pc' := 17) 10 0 rfl rfl rfl rfl ?_
    refine v_getR (t := (p0 + 7)) (pc' := 20) 11 rfl rfl pf_X6_23 (st0l hp0) (lay_lt (st0l hp0) (by decide)) (rt_st_3 hp0) ?_
    refine v_iload_n (pc' := 21) 12 1 rfl rfl rfl rfl ?_
    obtain ⟨hi1011, h⟩ := h
    refine v_lald (i := p1) (j := p1.toNatClampNeg) (pc' := 22) 13 rfl rfl (st7l hp0) (st7n hp0) (lay_lt (st7l hp0) (by decide)) hi1011 rfl ?_
    refine v_iload_n (pc' := 23) 14 2 rfl rfl rfl rfl ?_
    refine v_cNS (Y2 := Y_X8_bitOf) (As := [.long (L (p0 + 7) (p1.toNatClampNeg)), .int p2]) (pc' := 26) (c1 := 0) (s1 := 0) 15 rfl rfl mf_X8_bitOf rfl rfl nt_X6_75 ms_X8_bitOf rfl (Nat.le_of_ble_eq_true rfl) ⟨Nat.le_of_ble_eq_true rfl, Nat.le_of_ble_eq_true rfl⟩ rfl rfl (ok_X8_bitOf (L (p0 + 7) (p1.toNatClampNeg)) p2 I L h) ?_ ?_
    · intro e9 u9 hx9
      exact hx9.elim
    intro v9 u9 hv9
    obtain ⟨r1012, rfl, rfl, h⟩ := hv9
    refine ⟨fun q => absurd q (Nat.lt_irrefl _), ?_⟩
    show V G Y_X6_timeState 26 _ (.int r1012 :: _) _ _ _ _ _
    exact v_iret 16 rfl rfl (by decide) (by decide) ⟨_, rfl, rfl, h⟩
  replace h := h.2 hc
  refine v_iconst (v := 2) (pc' := 15) 8 rfl rfl (by decide) ?_
  exact v_iret 9 rfl rfl (by decide) (by decide) ⟨_, rfl, rfl, h⟩
set_option maxHeartbeats 4000000 in
set_option maxRecDepth 100000 in
theorem b_X6_hasPending_66 {G : GT} {b d t : Nat} (p0 : Nat) (v1 : Int32) (v2 : Int32) (v3 : Int32) (v5 : Int32) (s0 : Int32) (s1 : Int32) (I : TI) (L : TL) (hp0 : stOK p0) (Q : Int32 → Prop) (R6 : Int32 → Int32 → Prop) (hR6 : ∀ (v4 : Int32) (v5 : Int32), R6 v4 v5 → V G Y_X6_hasPending 6 [(0, .ref p0), (1, .int v1), (2, .int v2), (3, .int v3), (4, .int v4), (5, .int v5)] [] (I, L, RT b d t, 457) 0 0 (fun v9 u9 => ∃ (r9 : Int32), v9 = some (.int r9) ∧ u9 = (I, L, RT b d t, 457) ∧ Q r9) (fun _ _ => False)) (h : B_X6_hasPending_66 p0 v1 v2 v3 v5 s0 s1 I L Q R6) : V G Y_X6_hasPending 66 [(0, .ref p0), (1, .int v1), (2, .int v2), (3, .int v3), (5, .int v5)] [.int s1, .int s0] (I, L, RT b d t, 457) 0 0 (fun v9 u9 => ∃ (r9 : Int32), v9 = some (.int r9) ∧ u9 = (I, L, RT b d t, 457) ∧ Q r9) (fun _ _ => False) := by
  unfold B_X6_hasPending_66 at h
  refine v_ior (pc' := 67) 32 rfl rfl ?_
  refine v_istore (ls' := [(4, .int (s0 ||| s1)), (0, .ref p0), (1, .int v1), (2, .int v2), (3, .int v3), (5, .int v5)]) (pc' := 69) 33 rfl rfl (by decide) rfl ?_
  refine v_iinc (v := (v5 + 1)) (ls' := [(5, .int (v5 + 1)), (4, .int (s0 ||| s1)), (0, .ref p0), (1, .int v1), (2, .int v2), (3, .int v3)]) (pc' := 72) 34 5 rfl rfl rfl rfl (by decide) rfl ?_
  refine v_goto (tgt := 6) 35 rfl (by decide) ?_
  refine V.sub [2, 3, 4, 5, 1, 0] rfl ?_
  exact hR6 (s0 ||| s1) (v5 + 1) h
set_option maxHeartbeats 4000000 in
set_option maxRecDepth 100000 in
theorem b_X6_hasPending_65 {G : GT} {b d t : Nat} (p0 : Nat) (v1 : Int32) (v2 : Int32) (v3 : Int32) (v5 : Int32) (s0 : Int32) (I : TI) (L : TL) (hp0 : stOK p0) (Q : Int32 → Prop) (R6 : Int32 → Int32 → Prop) (hR6 : ∀ (v4 : Int32) (v5 : Int32), R6 v4 v5 → V G Y_X6_hasPending 6 [(0, .ref p0), (1, .int v1), (2, .int v2), (3, .int v3), (4, .int v4), (5, .int v5)] [] (I, L, RT b d t, 457) 0 0 (fun v9 u9 => ∃ (r9 : Int32), v9 = some (.int r9) ∧ u9 = (I, L, RT b d t, 457) ∧ Q r9) (fun _ _ => False)) (h : B_X6_hasPending_65 p0 v1 v2 v3 v5 s0 I L Q R6) : V G Y_X6_hasPending 65 [(0, .ref p0), (1, .int v1), (2, .int v2), (3, .int v3), (5, .int v5)] [.int s0] (I, L, RT b d t, 457) 0 0 (fun v9 u9 => ∃ (r9 : Int32), v9 = some (.int r9) ∧ u9 = (I, L, RT b d t, 457) ∧ Q r9) (fun _ _ => False) := by
  unfold B_X6_hasPending_65 at h
  refine v_iconst (v := 0) (pc' := 66) 31 rfl rfl (by decide) ?_
  exact b_X6_hasPending_66 p0 v1 v2 v3 v5 s0 (0 : Int32) I L hp0 Q R6 hR6 h
set_option maxHeartbeats 4000000 in
set_option maxRecDepth 100000 in
theorem d_X6_hasPending_6 {G : GT} {b d t : Nat} (p0 : Nat) (v1 : Int32) (v2 : Int32) (v3 : Int32) (I : TI) (L : TL) (hp0 : stOK p0) (Q : Int32 → Prop) (R6 : Int32 → Int32 → Prop)  (hR6 : ∀ (v4 : Int32) (v5 : Int32), R6 v4 v5 → V G Y_X6_hasPending 6 [(0, .ref p0), (1, .int v1), (2, .int v2), (3, .int v3), (4, .int v4), (5, .int v5)] [] (I, L, RT b d t, 457) 0 0 (fun v9 u9 => ∃ (r9 : Int32), v9 = some (.int r9) ∧ u9 = (I, L, RT b d t, 457) ∧ Q r9) (fun _ _ => False)) (v4 : Int32) (v5 : Int32)  (h : D_X6_hasPending_6 p0 v1 v2 v3 I L Q R6 v4 v5) : V G Y_X6_hasPending 6 [(0, .ref p0), (1, .int v1), (2, .int v2), (3, .int v3), (4, .int v4), (5, .int v5)] [] (I, L, RT b d t, 457) 0 0 (fun v9 u9 => ∃ (r9 : Int32), v9 = some (.int r9) ∧ u9 = (I, L, RT b d t, 457) ∧ Q r9) (fun _ _ => False) := by
  unfold D_X6_hasPending_6 at h
  refine v_iload (pc' := 8) 4 5 rfl rfl rfl ?_
  refine v_aload_n (pc' := 9) 5 0 rfl rfl rfl rfl ?_
  refine v_getI (pc' := 12) 6 rfl rfl pf_X6_39 (st0l hp0) (lay_lt (st0l hp0) (by decide)) ?_
  refine v_icmp_ge (tgt := 75) (pc' := 15) 7 rfl rfl (by decide) (fun hc => ?_) (fun hc => ?_)
  · replace h := h.1 hc
    refine v_iload (pc' := 77) 36 4 rfl rfl rfl ?_
    obtain ⟨hz1019, h⟩ := h
    exact v_bret 37 rfl rfl hz1019 (by decide) (by decide) ⟨_, rfl, rfl, h⟩
  replace h := h.2 hc
  refine v_aload_n (pc' := 16) 8 0 rfl rfl rfl rfl ?_
  refine v_getR (t := (p0 + 10)) (pc' := 19) 9 rfl rfl pf_X6_35 (st0l hp0) (lay_lt (st0l hp0) (by decide)) (rt_st_6 hp0) ?_
  refine v_iload (pc' := 21) 10 5 rfl rfl rfl ?_
  obtain ⟨hi1020, h⟩ := h
  refine v_aald5 (i := v5) (r := ((p0 + 11) + v5.toNatClampNeg)) (j := v5.toNatClampNeg) (pc' := 22) 11 rfl rfl (st10l hp0) (st10n hp0) (lay_lt (st10l hp0) (by decide)) hi1020 rfl (rt_dis hp0 (vp_nat hi1020)) ?_
  refine v_astore (ls' := [(6, .ref ((p0 + 11) + v5.toNatClampNeg)), (0, .ref p0), (1, .int v1), (2, .int v2), (3, .int v3), (4, .int v4), (5, .int v5)]) (pc' := 24) 12 rfl rfl (by decide) rfl ?_
  refine v_iload (pc' := 26) 13 5 rfl rfl rfl ?_
  refine v_aload (pc' := 28) 14 0 rfl rfl rfl ?_
  refine v_cV (Y2 := Y_X3_isPending) (As := []) (b := ((p0 + 11) + v5.toNatClampNeg)) (pc' := 31) (c1 := 0) (s1 := 0) 15 rfl rfl mf_X3_isPending rfl rfl ml_X6_79 mi_X3_isPending se_X3_isPending (ci := 2) rfl (st_disl hp0 (vp_nat hi1020)) (lay_lt (st_disl hp0 (vp_nat hi1020)) (by decide)) rfl (Nat.le_of_ble_eq_true rfl) ⟨Nat.le_of_ble_eq_true rfl, Nat.le_of_ble_eq_true rfl⟩ rfl rfl (ok_X3_isPending ((p0 + 11) + v5.toNatClampNeg) I L (st_disl hp0 (vp_nat hi1020)) h) ?_ ?_
  · intro e9 u9 hx9
    exact hx9.elim
  intro v9 u9 hv9
  obtain ⟨r1021, rfl, rfl, h⟩ := hv9
  refine ⟨fun q => absurd q (Nat.lt_irrefl _), ?_⟩
  show V G Y_X6_hasPending 31 _ (.int r1021 :: _) _ _ _ _ _
  refine v_if_eq (tgt := 65) (pc' := 34) 16 rfl rfl (by decide) (fun hc => ?_) (fun hc => ?_)
  · replace h := h.1 hc
    refine V.sub [1, 2, 3, 4, 6] rfl ?_
    exact b_X6_hasPending_65 p0 v1 v2 v3 v5 v4 I L hp0 Q R6 hR6 h
  replace h := h.2 hc
  refine v_aload (pc' := 36) 17 0 rfl rfl rfl ?_
  refine v_getI (pc' := 39) 18 rfl rfl pf_X6_83 (st_disl hp0 (vp_nat hi1020)) (lay_lt (st_disl hp0 (vp_nat hi1020)) (by decide)) ?_
  refine v_iload_n (pc' := 40) 19 2 rfl rfl rfl rfl ?_
  refine v_icmp_ne (tgt := 65) (pc' := 43) 20 rfl rfl (by decide) (fun hc => ?_) (fun hc => ?_)
  · replace h := h.1 hc
    refine V.sub [1, 2, 3, 4, 6] rfl ?_
    exact b_X6_hasPending_65 p0 v1 v2 v3 v5 v4 I L hp0 Q R6 hR6 h
  replace h := h.2 hc
  refine v_aload (pc' := 45) 21 0 rfl rfl rfl ?_
  refine v_getI (pc' := 48) 22 rfl rfl pf_X6_86 (st_disl hp0 (vp_nat hi1020)) (lay_lt (st_disl hp0 (vp_nat hi1020)) (by decide)) ?_
  refine v_iload_n (pc' := 49) 23 4 rfl rfl rfl rfl ?_
  refine v_icmp_gt (tgt := 65) (pc' := 52) 24 rfl rfl (by decide) (fun hc => ?_) (fun hc => ?_)
  · replace h := h.1 hc
    refine V.sub [1, 2, 3, 4, 6] rfl ?_
    exact b_X6_hasPending_65 p0 v1 v2 v3 v5 v4 I L hp0 Q R6 hR6 h
  replace h := h.2 hc
  refine v_aload (pc' := 54) 25 0 rfl rfl rfl ?_
  refine v_getI (pc' := 57) 26 rfl rfl pf_X6_89 (st_disl hp0 (vp_nat hi1020)) (lay_lt (st_disl hp0 (vp_nat hi1020)) (by decide)) ?_
  refine v_iload_n (pc' := 58) 27 3 rfl rfl rfl rfl ?_
  refine v_icmp_lt (tgt := 65) (pc' := 61) 28 rfl rfl (by decide) (fun hc => ?_) (fun hc => ?_)
  · replace h := h.1 hc
    refine V.sub [1, 2, 3, 4, 6] rfl ?_
    exact b_X6_hasPending_65 p0 v1 v2 v3 v5 v4 I L hp0 Q R6 hR6 h
  replace h := h.2 hc
  refine v_iconst (v := 1) (pc' := 62) 29 rfl rfl (by decide) ?_
  refine v_goto (tgt := 66) 30 rfl (by decide) ?_
  refine V.sub [1, 2, 3, 4, 6] rfl ?_
  exact b_X6_hasPending_66 p0 v1 v2 v3 v5 v4 (1 : Int32) I L hp0 Q R6 hR6 h
theorem l_X6_hasPending_6 {G : GT} {b d t : Nat} (p0 : Nat) (v1 : Int32) (v2 : Int32) (v3 : Int32) (I : TI) (L : TL) (hp0 : stOK p0) (Q : Int32 → Prop)  : ∀ (n9 : Nat) (v4 : Int32) (v5 : Int32), L_X6_hasPending_6 p0 v1 v2 v3 I L Q n9 v4 v5 → V G Y_X6_hasPending 6 [(0, .ref p0), (1, .int v1), (2, .int v2), (3, .int v3), (4, .int v4), (5, .int v5)] [] (I, L, RT b d t, 457) 0 0 (fun v9 u9 => ∃ (r9 : Int32), v9 = some (.int r9) ∧ u9 = (I, L, RT b d t, 457) ∧ Q r9) (fun _ _ => False)
  | 0, _, _, h => h.elim
  | n9 + 1, v4, v5, h => d_X6_hasPending_6 p0 v1 v2 v3 I L hp0 Q _ (l_X6_hasPending_6 p0 v1 v2 v3 I L hp0 Q n9) v4 v5 h
set_option maxHeartbeats 4000000 in
set_option maxRecDepth 100000 in
theorem ok_X6_hasPending {G : GT} {b d t : Nat} (p0 : Nat) (p1 : Int32) (p2 : Int32) (p3 : Int32) (I : TI) (L : TL) (hp0 : stOK p0) {Q : Int32 → Prop} (h : W_X6_hasPending p0 p1 p2 p3 I L Q) : MW G Y_X6_hasPending [.ref p0, .int p1, .int p2, .int p3] (I, L, RT b d t, 457) (fun v9 u9 => ∃ (r9 : Int32), v9 = some (.int r9) ∧ u9 = (I, L, RT b d t, 457) ∧ Q r9) (fun _ _ => False) := by
  unfold W_X6_hasPending at h
  refine MW.intro rfl (by decide) is_X6_hasPending (Nat.le_of_ble_eq_true rfl) ?_
  show V G Y_X6_hasPending 0 [(0, .ref p0), (1, .int p1), (2, .int p2), (3, .int p3)] [] (I, L, RT b d t, 457) 0 0 _ _
  refine v_iconst (v := 0) (pc' := 1) 0 rfl rfl (by decide) ?_
  refine v_istore (ls' := [(4, .int 0), (0, .ref p0), (1, .int p1), (2, .int p2), (3, .int p3)]) (pc' := 3) 1 rfl rfl (by decide) rfl ?_
  refine v_iconst (v := 0) (pc' := 4) 2 rfl rfl (by decide) ?_
  refine v_istore (ls' := [(5, .int 0), (4, .int 0), (0, .ref p0), (1, .int p1), (2, .int p2), (3, .int p3)]) (pc' := 6) 3 rfl rfl (by decide) rfl ?_
  refine V.sub [2, 3, 4, 5, 1, 0] rfl ?_
  obtain ⟨n1022, h⟩ := h
  exact l_X6_hasPending_6 p0 p1 p2 p3 I L hp0 Q n1022 (0 : Int32) (0 : Int32) h
set_option maxHeartbeats 4000000 in
set_option maxRecDepth 100000 in
theorem ok_X6_payCourt {G : GT} {b d t : Nat} (p0 : Nat) (p1 : Int32) (p2 : Int32) (I : TI) (L : TL) (hp0 : stOK p0) {Q : TI → Prop} (h : W_X6_payCourt p0 p1 p2 I L Q) : MW G Y_X6_payCourt [.ref p0, .int p1, .int p2] (I, L, RT b d t, 457) (fun v9 u9 => ∃ (I9 : TI), v9 = none ∧ u9 = (I9, L, RT b d t, 457) ∧ Q I9) (fun _ _ => False) := by
  unfold W_X6_payCourt at h
  refine MW.intro rfl (by decide) is_X6_payCourt (Nat.le_of_ble_eq_true rfl) ?_
  show V G Y_X6_payCourt 0 [(0, .ref p0), (1, .int p1), (2, .int p2)] [] (I, L, RT b d t, 457) 0 0 _ _
  refine v_aload_n (pc' := 1) 0 0 rfl rfl rfl rfl ?_
  refine v_getR (t := (p0 + 9)) (pc' := 4) 1 rfl rfl pf_X6_29 (st0l hp0) (lay_lt (st0l hp0) (by decide)) (rt_st_5 hp0) ?_
  refine v_iload_n (pc' := 5) 2 1 rfl rfl rfl rfl ?_
  refine v_dup2 (pc' := 6) 3 rfl rfl rfl rfl ?_
  obtain ⟨hi1025, h⟩ := h
  refine v_iald (i := p1) (j := p1.toNatClampNeg) (pc' := 7) 4 rfl rfl (st9l hp0) (st9n hp0) (lay_lt (st9l hp0) (by decide)) hi1025 rfl ?_
  refine v_iload_n (pc' := 8) 5 2 rfl rfl rfl rfl ?_
  refine v_isub (pc' := 9) 6 rfl rfl ?_
  obtain ⟨hi1026, h⟩ := h
  refine v_iast (i := p1) (j := p1.toNatClampNeg) (pc' := 10) 7 rfl rfl (st9l hp0) (st9n hp0) (lay_lt (st9l hp0) (by decide)) hi1026 rfl ?_
  refine nm_M (e := (up2 I (p0 + 9) (p1.toNatClampNeg) ((I (p0 + 9) (p1.toNatClampNeg)) - p2))) (fun I1027 hI1027 => ?_)
  replace h := h I1027 hI1027
  refine v_aload_n (pc' := 11) 8 0 rfl rfl rfl rfl ?_
  refine v_getR (t := (p0 + 9)) (pc' := 14) 9 rfl rfl pf_X6_29 (st0l hp0) (lay_lt (st0l hp0) (by decide)) (rt_st_5 hp0) ?_
  refine v_iconst (v := 2) (pc' := 15) 10 rfl rfl (by decide) ?_
  refine v_dup2 (pc' := 16) 11 rfl rfl rfl rfl ?_
  refine v_iald (i := 2) (j := 2) (pc' := 17) 12 rfl rfl (st9l hp0) (st9n hp0) (lay_lt (st9l hp0) (by decide)) (vp_lit (by decide)) (by decide) ?_
  refine v_iload_n (pc' := 18) 13 2 rfl rfl rfl rfl ?_
  refine v_iadd (pc' := 19) 14 rfl rfl ?_
  refine v_iast (i := 2) (j := 2) (pc' := 20) 15 rfl rfl (st9l hp0) (st9n hp0) (lay_lt (st9l hp0) (by decide)) (vp_lit (by decide)) (by decide) ?_
  exact v_vret 16 rfl rfl (by decide) (by decide) ⟨_, rfl, rfl, h⟩
set_option maxHeartbeats 4000000 in
set_option maxRecDepth 100000 in
theorem ok_X7_begin {G : GT} {b d : Nat} (p2 : Int32) (I : TI) (L : TL) (t : Nat) (ht : txOK t) {Q : TI → Nat → Prop} (h : W_X7_begin p2 I L t Q) : MW G Y_X7_begin [.ref 344, .ref 350, .int p2] (I, L, RT b d t, 457) (fun v9 u9 => ∃ (I9 : TI) (t9 : Nat), v9 = none ∧ u9 = (I9, L, RT b d t9, 457) ∧ Q I9 t9) (fun _ _ => False) := by
  unfold W_X7_begin at h
  refine MW.intro rfl (by decide) is_X7_begin (Nat.le_of_ble_eq_true rfl) ?_
  show V G Y_X7_begin 0 [(0, .ref 344), (1, .ref 350), (2, .int p2)] [] (I, L, RT b d t, 457) 0 0 _ _
  refine v_aload_n (pc' := 1) 0 0 rfl rfl rfl rfl ?_
  refine v_aload_n (pc' := 2) 1 1 rfl rfl rfl rfl ?_
  refine v_putR (pc' := 5) 2 rfl rfl pf_X7_9 (fun q => absurd q (by decide)) ly_344 (lay_lt ly_344 (by decide)) ?_
  rw [rt_utext]
  refine v_aload_n (pc' := 6) 3 0 rfl rfl rfl rfl ?_
  refine v_iload_n (pc' := 7) 4 2 rfl rfl rfl rfl ?_
  refine v_aload_n (pc' := 8) 5 1 rfl rfl rfl rfl ?_
  refine v_alen (t := 2) (pc' := 9) 6 rfl rfl ly_350 (by decide) ln_350 (lay_lt ly_350 (by decide)) ?_
  refine v_mmin (pc' := 12) 7 rfl rfl mm_X7_37 (Nat.le_of_ble_eq_true rfl) (by decide) (by decide) ⟨Nat.le_of_ble_eq_true rfl, Nat.le_of_ble_eq_true rfl⟩ ?_
  refine v_putI (pc' := 15) 8 rfl rfl pf_X7_15 (fun q => absurd q (by decide)) ly_344 (lay_lt ly_344 (by decide)) ?_
  refine v_aload_n (pc' := 16) 9 0 rfl rfl rfl rfl ?_
  refine v_iconst (v := 0) (pc' := 17) 10 rfl rfl (by decide) ?_
  refine v_putI (pc' := 20) 11 rfl rfl pf_X7_22 (fun q => absurd q (by decide)) ly_344 (lay_lt ly_344 (by decide)) ?_
  refine v_aload_n (pc' := 21) 12 0 rfl rfl rfl rfl ?_
  refine v_iconst (v := 0) (pc' := 22) 13 rfl rfl (by decide) ?_
  refine v_putI (pc' := 25) 14 rfl rfl pf_X7_31 (fun q => absurd q (by decide)) ly_344 (lay_lt ly_344 (by decide)) ?_
  refine v_aload_n (pc' := 26) 15 0 rfl rfl rfl rfl ?_
  refine v_iconst (v := -1) (pc' := 27) 16 rfl rfl (by decide) ?_
  refine v_putI (pc' := 30) 17 rfl rfl pf_X7_34 (fun q => absurd q (by decide)) ly_344 (lay_lt ly_344 (by decide)) ?_
  refine nm_M (e := (up2 (up2 (up2 (up2 I 344 1 (mnI p2 (nI 600))) 344 3 0) 344 6 0) 344 7 (-1))) (fun I1029 hI1029 => ?_)
  replace h := h I1029 hI1029
  refine v_aload_n (pc' := 31) 18 0 rfl rfl rfl rfl ?_
  refine v_cV (Y2 := Y_X7_advance) (As := []) (b := 344) (pc' := 34) (c1 := 0) (s1 := 0) 19 rfl rfl mf_X7_advance rfl rfl ml_X7_43 mi_X7_advance se_X7_advance (ci := 6) rfl ly_344 (lay_lt ly_344 (by decide)) rfl (Nat.le_of_ble_eq_true rfl) ⟨Nat.le_of_ble_eq_true rfl, Nat.le_of_ble_eq_true rfl⟩ rfl rfl (ok_X7_advance I1029 L 350 (Or.inr rfl) h) ?_ ?_
  · intro e9 u9 hx9
    exact hx9.elim
  intro v9 u9 hv9
  obtain ⟨I1030, rfl, rfl, h⟩ := hv9
  refine ⟨fun q => absurd q (Nat.lt_irrefl _), ?_⟩
  show V G Y_X7_begin 34 _ _ _ _ _ _ _
  exact v_vret 20 rfl rfl (by decide) (by decide) ⟨_, _, rfl, rfl, h⟩
