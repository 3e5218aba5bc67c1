def B_X1_readWave_83 (v2 : Int64) (I : TI) (L : TL) (t : Nat) (Q : Int64 → TI → Prop) : Prop :=
  W_X7_takeSign (59 : Int32) I L t (fun (I587 : TI) => Q v2 I587)
set_option maxHeartbeats 4000000 in
set_option maxRecDepth 100000 in
theorem b_X1_readWave_83 {G : GT} {b d : Nat} (v2 : Int64) (I : TI) (L : TL) (t : Nat) (ht : txOK t) (Q : Int64 → TI → Prop)  (h : B_X1_readWave_83 v2 I L t Q) : V G Y_X1_readWave 83 [(0, .ref 344), (2, .long v2)] [] (I, L, RT b d t, 457) 0 0 (fun v9 u9 => ∃ (r9 : Int64) (I9 : TI), v9 = some (.long r9) ∧ u9 = (I9, L, RT b d t, 457) ∧ Q r9 I9) (fun _ _ => False) := by
  unfold B_X1_readWave_83 at h
  refine v_aload_n (pc' := 84) 45 0 rfl rfl rfl rfl ?_
  refine v_bipush (v := 59) (pc' := 86) 46 rfl rfl (by decide) ?_
  refine v_cV (Y2 := Y_X7_takeSign) (As := [.int 59]) (b := 344) (pc' := 89) (c1 := 0) (s1 := 0) 47 rfl rfl mf_X7_takeSign rfl rfl ml_X1_71 mi_X7_takeSign se_X7_takeSign (ci := 6) rfl ly_344 (lay_lt ly_344 (by decide)) rfl (Nat.le_of_ble_eq_true rfl) ⟨Nat.le_of_ble_eq_true rfl, Nat.le_of_ble_eq_true rfl⟩ rfl rfl (ok_X7_takeSign (59 : Int32) I L t ht h) ?_ ?_
  · intro e9 u9 hx9
    exact hx9.elim
  intro v9 u9 hv9
  obtain ⟨I587, rfl, rfl, h⟩ := hv9
  refine ⟨fun q => absurd q (Nat.lt_irrefl _), ?_⟩
  show V G Y_X1_readWave 89 _ _ _ _ _ _ _
  refine v_lload_n (pc' := 90) 48 1 rfl rfl rfl rfl ?_
  exact v_lret 49 rfl rfl (by decide) (by decide) ⟨_, _, rfl, rfl, h⟩
def B_X1_readWave_60 (v1 : Int32) (v2 : Int64) (v5 : Int32) (v6 : Int32) (I : TI) (L : TL) (t : Nat) (Q : Int64 → TI → Prop) (R26 : Int64 → Int32 → Int32 → TI → Prop) : Prop :=
  W_X7_advance I L t (fun (I588 : TI) => W_X8_window v6 v1 I588 L (fun (r589 : Int64) => R26 (v2 ^^^ r589) v6 (v5 + 1) I588))
set_option maxHeartbeats 4000000 in
set_option maxRecDepth 100000 in
theorem b_X1_readWave_60 {G : GT} {b d : Nat} (v1 : Int32) (v2 : Int64) (v5 : Int32) (v6 : Int32) (I : TI) (L : TL) (t : Nat) (ht : txOK t) (Q : Int64 → TI → Prop) (R26 : Int64 → Int32 → Int32 → TI → Prop) (hR26 : ∀ (v2 : Int64) (v4 : Int32) (v5 : Int32) (I : TI), R26 v2 v4 v5 I → V G Y_X1_readWave 26 [(0, .ref 344), (1, .int v1), (2, .long v2), (4, .int v4), (5, .int v5)] [] (I, L, RT b d t, 457) 0 0 (fun v9 u9 => ∃ (r9 : Int64) (I9 : TI), v9 = some (.long r9) ∧ u9 = (I9, L, RT b d t, 457) ∧ Q r9 I9) (fun _ _ => False)) (h : B_X1_readWave_60 v1 v2 v5 v6 I L t Q R26) : V G Y_X1_readWave 60 [(0, .ref 344), (1, .int v1), (2, .long v2), (5, .int v5), (6, .int v6)] [] (I, L, RT b d t, 457) 0 0 (fun v9 u9 => ∃ (r9 : Int64) (I9 : TI), v9 = some (.long r9) ∧ u9 = (I9, L, RT b d t, 457) ∧ Q r9 I9) (fun _ _ => False) := by
  unfold B_X1_readWave_60 at h
  refine v_aload_n (pc' := 61) 33 0 rfl rfl rfl rfl ?_
  refine v_cV (Y2 := Y_X7_advance) (As := []) (b := 344) (pc' := 64) (c1 := 0) (s1 := 0) 34 rfl rfl mf_X7_advance rfl rfl ml_X1_81 mi_X7_advance se_X7_advance (ci := 6) rfl ly_344 (lay_lt ly_344 (by decide)) rfl (Nat.le_of_ble_eq_true rfl) ⟨Nat.le_of_ble_eq_true rfl, Nat.le_of_ble_eq_true rfl⟩ rfl rfl (ok_X7_advance I L t ht h) ?_ ?_
  · intro e9 u9 hx9
    exact hx9.elim
  intro v9 u9 hv9
  obtain ⟨I588, rfl, rfl, h⟩ := hv9
  refine ⟨fun q => absurd q (Nat.lt_irrefl _), ?_⟩
  show V G Y_X1_readWave 64 _ _ _ _ _ _ _
  refine v_lload_n (pc' := 65) 35 2 rfl rfl rfl rfl ?_
  refine v_iload (pc' := 67) 36 4 rfl rfl rfl ?_
  refine v_iload_n (pc' := 68) 37 1 rfl rfl rfl rfl ?_
  refine v_cNS (Y2 := Y_X8_window) (As := [.int v6, .int v1]) (pc' := 71) (c1 := 0) (s1 := 0) 38 rfl rfl mf_X8_window rfl rfl nt_X1_95 ms_X8_window rfl (Nat.le_of_ble_eq_true rfl) ⟨Nat.le_of_ble_eq_true rfl, Nat.le_of_ble_eq_true rfl⟩ rfl rfl (ok_X8_window v6 v1 I588 L h) ?_ ?_
  · intro e9 u9 hx9
    exact hx9.elim
  intro v9 u9 hv9
  obtain ⟨r589, rfl, rfl, h⟩ := hv9
  refine ⟨fun q => absurd q (Nat.lt_irrefl _), ?_⟩
  show V G Y_X1_readWave 71 _ (.long r589 :: _) _ _ _ _ _
  refine v_lxor (pc' := 72) 39 rfl rfl ?_
  refine v_lstore_n (ls' := [(2, .long (v2 ^^^ r589)), (0, .ref 344), (1, .int v1), (5, .int v5), (6, .int v6)]) (pc' := 73) 40 rfl rfl rfl (by decide) rfl ?_
  refine v_iload (pc' := 75) 41 4 rfl rfl rfl ?_
  refine v_istore (ls' := [(4, .int v6), (2, .long (v2 ^^^ r589)), (0, .ref 344), (1, .int v1), (5, .int v5), (6, .int v6)]) (pc' := 77) 42 rfl rfl (by decide) rfl ?_
  refine v_iinc (v := (v5 + 1)) (ls' := [(5, .int (v5 + 1)), (4, .int v6), (2, .long (v2 ^^^ r589)), (0, .ref 344), (1, .int v1), (6, .int v6)]) (pc' := 80) 43 4 rfl rfl rfl rfl (by decide) rfl ?_
  refine v_goto (tgt := 26) 44 rfl (by decide) ?_
  refine V.sub [3, 4, 2, 1, 0] rfl ?_
  exact hR26 (v2 ^^^ r589) v6 (v5 + 1) I588 h
def D_X1_readWave_26 (v1 : Int32) (L : TL) (t : Nat) (Q : Int64 → TI → Prop) (R26 : Int64 → Int32 → Int32 → TI → Prop) (v2 : Int64) (v4 : Int32) (v5 : Int32) (I : TI) : Prop :=
  (60 < v5 → B_X1_readWave_83 v2 I L t Q) ∧ (¬ 60 < v5 → W_X7_isNumber I L (fun (r590 : Int32) => (r590 = 0 → B_X1_readWave_83 v2 I L t Q) ∧ (¬ r590 = 0 → W_X7_peekNumber (1 : Int32) v1 I L (fun (r591 : Int32) (I592 : TI) => (v4 < r591 → B_X1_readWave_60 v1 v2 v5 r591 I592 L t Q R26) ∧ (¬ v4 < r591 → W_X7_fail (4 : Int32) I592 L (fun (I593 : TI) => B_X1_readWave_60 v1 v2 v5 r591 I593 L t Q R26))))))
def L_X1_readWave_26 (v1 : Int32) (L : TL) (t : Nat) (Q : Int64 → TI → Prop) : Nat → Int64 → Int32 → Int32 → TI → Prop
  | 0, _, _, _, _ => False
  | n9 + 1, v2, v4, v5, I => D_X1_readWave_26 v1 L t Q (fun v2 v4 v5 I => L_X1_readWave_26 v1 L t Q n9 v2 v4 v5 I) v2 v4 v5 I
set_option maxHeartbeats 4000000 in
set_option maxRecDepth 100000 in
theorem d_X1_readWave_26 {G : GT} {b d : Nat} (v1 : Int32) (L : TL) (t : Nat) (ht : txOK t) (Q : Int64 → TI → Prop) (R26 : Int64 → Int32 → Int32 → TI → Prop)  (hR26 : ∀ (v2 : Int64) (v4 : Int32) (v5 : Int32) (I : TI), R26 v2 v4 v5 I → V G Y_X1_readWave 26 [(0, .ref 344), (1, .int v1), (2, .long v2), (4, .int v4), (5, .int v5)] [] (I, L, RT b d t, 457) 0 0 (fun v9 u9 => ∃ (r9 : Int64) (I9 : TI), v9 = some (.long r9) ∧ u9 = (I9, L, RT b d t, 457) ∧ Q r9 I9) (fun _ _ => False)) (v2 : Int64) (v4 : Int32) (v5 : Int32) (I : TI)  (h : D_X1_readWave_26 v1 L t Q R26 v2 v4 v5 I) : V G Y_X1_readWave 26 [(0, .ref 344), (1, .int v1), (2, .long v2), (4, .int v4), (5, .int v5)] [] (I, L, RT b d t, 457) 0 0 (fun v9 u9 => ∃ (r9 : Int64) (I9 : TI), v9 = some (.long r9) ∧ u9 = (I9, L, RT b d t, 457) ∧ Q r9 I9) (fun _ _ => False) := by
  unfold D_X1_readWave_26 at h
  refine v_iload (pc' := 28) 16 4 rfl rfl rfl ?_
  refine v_bipush (v := 60) (pc' := 30) 17 rfl rfl (by decide) ?_
  refine v_icmp_gt (tgt := 83) (pc' := 33) 18 rfl rfl (by decide) (fun hc => ?_) (fun hc => ?_)
  · replace h := h.1 hc
    refine V.sub [0, 2] rfl ?_
    exact b_X1_readWave_83 v2 I L t ht Q h
  replace h := h.2 hc
  refine v_aload_n (pc' := 34) 19 0 rfl rfl rfl rfl ?_
  refine v_cV (Y2 := Y_X7_isNumber) (As := []) (b := 344) (pc' := 37) (c1 := 0) (s1 := 0) 20 rfl rfl mf_X7_isNumber rfl rfl ml_X1_99 mi_X7_isNumber se_X7_isNumber (ci := 6) rfl ly_344 (lay_lt ly_344 (by decide)) rfl (Nat.le_of_ble_eq_true rfl) ⟨Nat.le_of_ble_eq_true rfl, Nat.le_of_ble_eq_true rfl⟩ rfl rfl (ok_X7_isNumber I L h) ?_ ?_
  · intro e9 u9 hx9
    exact hx9.elim
  intro v9 u9 hv9
  obtain ⟨r590, rfl, rfl, h⟩ := hv9
  refine ⟨fun q => absurd q (Nat.lt_irrefl _), ?_⟩
  show V G Y_X1_readWave 37 _ (.int r590 :: _) _ _ _ _ _
  refine v_if_eq (tgt := 83) (pc' := 40) 21 rfl rfl (by decide) (fun hc => ?_) (fun hc => ?_)
  · replace h := h.1 hc
    refine V.sub [0, 2] rfl ?_
    exact b_X1_readWave_83 v2 I L t ht Q h
  replace h := h.2 hc
  refine v_aload_n (pc' := 41) 22 0 rfl rfl rfl rfl ?_
  refine v_iconst (v := 1) (pc' := 42) 23 rfl rfl (by decide) ?_
  refine v_iload_n (pc' := 43) 24 1 rfl rfl rfl rfl ?_
  refine v_cV (Y2 := Y_X7_peekNumber) (As := [.int 1, .int v1]) (b := 344) (pc' := 46) (c1 := 0) (s1 := 0) 25 rfl rfl mf_X7_peekNumber rfl rfl ml_X1_102 mi_X7_peekNumber se_X7_peekNumber (ci := 6) rfl ly_344 (lay_lt ly_344 (by decide)) rfl (Nat.le_of_ble_eq_true rfl) ⟨Nat.le_of_ble_eq_true rfl, Nat.le_of_ble_eq_true rfl⟩ rfl rfl (ok_X7_peekNumber (1 : Int32) v1 I L h) ?_ ?_
  · intro e9 u9 hx9
    exact hx9.elim
  intro v9 u9 hv9
  obtain ⟨r591, I592, rfl, rfl, h⟩ := hv9
  refine ⟨fun q => absurd q (Nat.lt_irrefl _), ?_⟩
  show V G Y_X1_readWave 46 _ (.int r591 :: _) _ _ _ _ _
  refine v_istore (ls' := [(6, .int r591), (0, .ref 344), (1, .int v1), (2, .long v2), (4, .int v4), (5, .int v5)]) (pc' := 48) 26 rfl rfl (by decide) rfl ?_
  refine v_iload (pc' := 50) 27 0 rfl rfl rfl ?_
  refine v_iload (pc' := 52) 28 4 rfl rfl rfl ?_
  refine v_icmp_gt (tgt := 60) (pc' := 55) 29 rfl rfl (by decide) (fun hc => ?_) (fun hc => ?_)
  · replace h := h.1 hc
    refine V.sub [1, 2, 3, 5, 0] rfl ?_
    exact b_X1_readWave_60 v1 v2 v5 r591 I592 L t ht Q R26 hR26 h
  replace h := h.2 hc
  refine v_aload_n (pc' := 56) 30 1 rfl rfl rfl rfl ?_
  refine v_iconst (v := 4) (pc' := 57) 31 rfl rfl (by decide) ?_
  refine v_cV (Y2 := Y_X7_fail) (As := [.int 4]) (b := 344) (pc' := 60) (c1 := 0) (s1 := 0) 32 rfl rfl mf_X7_fail rfl rfl ml_X1_30 mi_X7_fail se_X7_fail (ci := 6) rfl ly_344 (lay_lt ly_344 (by decide)) rfl (Nat.le_of_ble_eq_true rfl) ⟨Nat.le_of_ble_eq_true rfl, Nat.le_of_ble_eq_true rfl⟩ rfl rfl (ok_X7_fail (4 : Int32) I592 L h) ?_ ?_
  · intro e9 u9 hx9
    exact hx9.elim
  intro v9 u9 hv9
  obtain ⟨I593, rfl, rfl, h⟩ := hv9
  refine ⟨fun q => absurd q (Nat.lt_irrefl _), ?_⟩
  show V G Y_X1_readWave 60 _ _ _ _ _ _ _
  refine V.sub [1, 2, 3, 5, 0] rfl ?_
  exact b_X1_readWave_60 v1 v2 v5 r591 I593 L t ht Q R26 hR26 h
theorem l_X1_readWave_26 {G : GT} {b d : Nat} (v1 : Int32) (L : TL) (t : Nat) (ht : txOK t) (Q : Int64 → TI → Prop)  : ∀ (n9 : Nat) (v2 : Int64) (v4 : Int32) (v5 : Int32) (I : TI), L_X1_readWave_26 v1 L t Q n9 v2 v4 v5 I → V G Y_X1_readWave 26 [(0, .ref 344), (1, .int v1), (2, .long v2), (4, .int v4), (5, .int v5)] [] (I, L, RT b d t, 457) 0 0 (fun v9 u9 => ∃ (r9 : Int64) (I9 : TI), v9 = some (.long r9) ∧ u9 = (I9, L, RT b d t, 457) ∧ Q r9 I9) (fun _ _ => False)
  | 0, _, _, _, _, h => h.elim
  | n9 + 1, v2, v4, v5, I, h => d_X1_readWave_26 v1 L t ht Q _ (l_X1_readWave_26 v1 L t ht Q n9) v2 v4 v5 I h
def B_X1_readWave_19 (v1 : Int32) (s0 : Int64) (I : TI) (L : TL) (t : Nat) (Q : Int64 → TI → Prop) : Prop :=
  ∃ n594, L_X1_readWave_26 v1 L t Q n594 s0 (0 : Int32) (0 : Int32) I
set_option maxHeartbeats 4000000 in
set_option maxRecDepth 100000 in
theorem b_X1_readWave_19 {G : GT} {b d : Nat} (v1 : Int32) (s0 : Int64) (I : TI) (L : TL) (t : Nat) (ht : txOK t) (Q : Int64 → TI → Prop)  (h : B_X1_readWave_19 v1 s0 I L t Q) : V G Y_X1_readWave 19 [(0, .ref 344), (1, .int v1)] [.long s0] (I, L, RT b d t, 457) 0 0 (fun v9 u9 => ∃ (r9 : Int64) (I9 : TI), v9 = some (.long r9) ∧ u9 = (I9, L, RT b d t, 457) ∧ Q r9 I9) (fun _ _ => False) := by
  unfold B_X1_readWave_19 at h
  refine v_lstore_n (ls' := [(2, .long s0), (0, .ref 344), (1, .int v1)]) (pc' := 20) 11 rfl rfl rfl (by decide) rfl ?_
  refine v_iconst (v := 0) (pc' := 21) 12 rfl rfl (by decide) ?_
  refine v_istore (ls' := [(4, .int 0), (2, .long s0), (0, .ref 344), (1, .int v1)]) (pc' := 23) 13 rfl rfl (by decide) rfl ?_
  refine v_iconst (v := 0) (pc' := 24) 14 rfl rfl (by decide) ?_
  refine v_istore (ls' := [(5, .int 0), (4, .int 0), (2, .long s0), (0, .ref 344), (1, .int v1)]) (pc' := 26) 15 rfl rfl (by decide) rfl ?_
  refine V.sub [3, 4, 2, 1, 0] rfl ?_
  obtain ⟨n594, h⟩ := h
  exact l_X1_readWave_26 v1 L t ht Q n594 s0 (0 : Int32) (0 : Int32) I h
def W_X1_readWave (p1 : Int32) (I : TI) (L : TL) (t : Nat) (Q : Int64 → TI → Prop) : Prop :=
  W_X7_takeNumber (0 : Int32) (1 : Int32) I L t (fun (r595 : Int32) (I596 : TI) => (¬ r595 = 1 → B_X1_readWave_19 p1 (0 : Int64) I596 L t Q) ∧ (r595 = 1 → W_X8_window (0 : Int32) p1 I596 L (fun (r597 : Int64) => B_X1_readWave_19 p1 r597 I596 L t Q)))
set_option maxHeartbeats 4000000 in
set_option maxRecDepth 100000 in
theorem ok_X1_readWave {G : GT} {b d : Nat} (p1 : Int32) (I : TI) (L : TL) (t : Nat) (ht : txOK t) {Q : Int64 → TI → Prop} (h : W_X1_readWave p1 I L t Q) : MW G Y_X1_readWave [.ref 344, .int p1] (I, L, RT b d t, 457) (fun v9 u9 => ∃ (r9 : Int64) (I9 : TI), v9 = some (.long r9) ∧ u9 = (I9, L, RT b d t, 457) ∧ Q r9 I9) (fun _ _ => False) := by
  unfold W_X1_readWave at h
  refine MW.intro rfl (by decide) is_X1_readWave (Nat.le_of_ble_eq_true rfl) ?_
  show V G Y_X1_readWave 0 [(0, .ref 344), (1, .int p1)] [] (I, L, RT b d t, 457) 0 0 _ _
  refine v_aload_n (pc' := 1) 0 0 rfl rfl rfl rfl ?_
  refine v_iconst (v := 0) (pc' := 2) 1 rfl rfl (by decide) ?_
  refine v_iconst (v := 1) (pc' := 3) 2 rfl rfl (by decide) ?_
  refine v_cV (Y2 := Y_X7_takeNumber) (As := [.int 0, .int 1]) (b := 344) (pc' := 6) (c1 := 0) (s1 := 0) 3 rfl rfl mf_X7_takeNumber rfl rfl ml_X1_46 mi_X7_takeNumber se_X7_takeNumber (ci := 6) rfl ly_344 (lay_lt ly_344 (by decide)) rfl (Nat.le_of_ble_eq_true rfl) ⟨Nat.le_of_ble_eq_true rfl, Nat.le_of_ble_eq_true rfl⟩ rfl rfl (ok_X7_takeNumber (0 : Int32) (1 : Int32) I L t ht h) ?_ ?_
  · intro e9 u9 hx9
    exact hx9.elim
  intro v9 u9 hv9
  obtain ⟨r595, I596, rfl, rfl, h⟩ := hv9
  refine ⟨fun q => absurd q (Nat.lt_irrefl _), ?_⟩
  show V G Y_X1_readWave 6 _ (.int r595 :: _) _ _ _ _ _
  refine v_iconst (v := 1) (pc' := 7) 4 rfl rfl (by decide) ?_
  refine v_icmp_ne (tgt := 18) (pc' := 10) 5 rfl rfl (by decide) (fun hc => ?_) (fun hc => ?_)
  · replace h := h.1 hc
    refine v_lconst (v := 0) (pc' := 19) 10 rfl rfl (by decide) ?_
    exact b_X1_readWave_19 p1 (0 : Int64) I596 L t ht Q h
  replace h := h.2 hc
  refine v_iconst (v := 0) (pc' := 11) 6 rfl rfl (by decide) ?_
  refine v_iload_n (pc' := 12) 7 1 rfl rfl rfl rfl ?_
  refine v_cNS (Y2 := Y_X8_window) (As := [.int 0, .int p1]) (pc' := 15) (c1 := 0) (s1 := 0) 8 rfl rfl mf_X8_window rfl rfl nt_X1_95 ms_X8_window rfl (Nat.le_of_ble_eq_true rfl) ⟨Nat.le_of_ble_eq_true rfl, Nat.le_of_ble_eq_true rfl⟩ rfl rfl (ok_X8_window (0 : Int32) p1 I596 L h) ?_ ?_
  · intro e9 u9 hx9
    exact hx9.elim
  intro v9 u9 hv9
  obtain ⟨r597, rfl, rfl, h⟩ := hv9
  refine ⟨fun q => absurd q (Nat.lt_irrefl _), ?_⟩
  show V G Y_X1_readWave 15 _ (.long r597 :: _) _ _ _ _ _
  refine v_goto (tgt := 19) 9 rfl (by decide) ?_
  exact b_X1_readWave_19 p1 r597 I596 L t ht Q h
def B_X1_readInputs_80 (p1 : Nat) (v2 : Int32) (I : TI) (L : TL) (t : Nat) (Q : TI → TL → Prop) (R16 : Int32 → TI → TL → Prop) : Prop :=
  R16 (v2 + 1) I L
set_option maxHeartbeats 4000000 in
set_option maxRecDepth 100000 in
theorem b_X1_readInputs_80 {G : GT} {b d : Nat} (p1 : Nat) (v2 : Int32) (I : TI) (L : TL) (t : Nat) (hp1 : bnOK p1) (ht : txOK t) (Q : TI → TL → Prop) (R16 : Int32 → TI → TL → Prop) (hR16 : ∀ (v2 : Int32) (I : TI) (L : TL), R16 v2 I L → V G Y_X1_readInputs 16 [(0, .ref 344), (1, .ref p1), (2, .int v2)] [] (I, L, RT b d t, 457) 0 0 (fun v9 u9 => ∃ (I9 : TI) (L9 : TL), v9 = none ∧ u9 = (I9, L9, RT b d t, 457) ∧ Q I9 L9) (fun _ _ => False)) (h : B_X1_readInputs_80 p1 v2 I L t Q R16) : V G Y_X1_readInputs 80 [(0, .ref 344), (1, .ref p1), (2, .int v2)] [] (I, L, RT b d t, 457) 0 0 (fun v9 u9 => ∃ (I9 : TI) (L9 : TL), v9 = none ∧ u9 = (I9, L9, RT b d t, 457) ∧ Q I9 L9) (fun _ _ => False) := by
  unfold B_X1_readInputs_80 at h
  refine v_iinc (v := (v2 + 1)) (ls' := [(2, .int (v2 + 1)), (0, .ref 344), (1, .ref p1)]) (pc' := 83) 42 2 rfl rfl rfl rfl (by decide) rfl ?_
  refine v_goto (tgt := 16) 43 rfl (by decide) ?_
  refine V.sub [1, 2, 0] rfl ?_
  exact hR16 (v2 + 1) I L h
def D_X1_readInputs_16 (p1 : Nat) (t : Nat) (Q : TI → TL → Prop) (R16 : Int32 → TI → TL → Prop) (v2 : Int32) (I : TI) (L : TL) : Prop :=
  (4 < v2 → Q I L) ∧ (¬ 4 < v2 → W_X7_isWord 460 I L t (fun (r616 : Int32) => (r616 = 0 → Q I L) ∧ (¬ r616 = 0 → (¬ v2 = 4 → W_X7_advance I L t (fun (I617 : TI) => W_X1_readWave (I617 (p1 + 1) 6) I617 L t (fun (r618 : Int64) (I619 : TI) => vp_in v2 4 ∧ (B_X1_readInputs_80 p1 v2 (up2 I619 (p1 + 1) 4 ((I619 (p1 + 1) 4) + 1)) (up2 L (p1 + 11) (v2.toNatClampNeg) r618) t Q R16)))) ∧ (v2 = 4 → W_X7_fail (3 : Int32) I L (fun (I621 : TI) => B_X1_readInputs_80 p1 v2 I621 L t Q R16)))))
def L_X1_readInputs_16 (p1 : Nat) (t : Nat) (Q : TI → TL → Prop) : Nat → Int32 → TI → TL → Prop
  | 0, _, _, _ => False
  | n9 + 1, v2, I, L => D_X1_readInputs_16 p1 t Q (fun v2 I L => L_X1_readInputs_16 p1 t Q n9 v2 I L) v2 I L
set_option maxHeartbeats 4000000 in
set_option maxRecDepth 100000 in
theorem d_X1_readInputs_16 {G : GT} {b d : Nat} (p1 : Nat) (t : Nat) (hp1 : bnOK p1) (ht : txOK t) (Q : TI → TL → Prop) (R16 : Int32 → TI → TL → Prop)  (hR16 : ∀ (v2 : Int32) (I : TI) (L : TL), R16 v2 I L → V G Y_X1_readInputs 16 [(0, .ref 344), (1, .ref p1), (2, .int v2)] [] (I, L, RT b d t, 457) 0 0 (fun v9 u9 => ∃ (I9 : TI) (L9 : TL), v9 = none ∧ u9 = (I9, L9, RT b d t, 457) ∧ Q I9 L9) (fun _ _ => False)) (v2 : Int32) (I : TI) (L : TL)  (h : D_X1_readInputs_16 p1 t Q R16 v2 I L) : V G Y_X1_readInputs 16 [(0, .ref 344), (1, .ref p1), (2, .int v2)] [] (I, L, RT b d t, 457) 0 0 (fun v9 u9 => ∃ (I9 : TI) (L9 : TL), v9 = none ∧ u9 = (I9, L9, RT b d t, 457) ∧ Q I9 L9) (fun _ _ => False) := by
  unfold D_X1_readInputs_16 at h
  refine v_iload_n (pc' := 17) 9 2 rfl rfl rfl rfl ?_
  refine v_iconst (v := 4) (pc' := 18) 10 rfl rfl (by decide) ?_
  refine v_icmp_gt (tgt := 86) (pc' := 21) 11 rfl rfl (by decide) (fun hc => ?_) (fun hc => ?_)
  · replace h := h.1 hc
    exact v_vret 44 rfl rfl (by decide) (by decide) ⟨_, _, rfl, rfl, h⟩
  replace h := h.2 hc
  refine v_aload_n (pc' := 22) 12 0 rfl rfl rfl rfl ?_
  refine v_ldcS (pc' := 24) 13 rfl rfl sr_X1_75 ?_
  refine v_cV (Y2 := Y_X7_isWord) (As := [.ref 460]) (b := 344) (pc' := 27) (c1 := 0) (s1 := 0) 14 rfl rfl mf_X7_isWord rfl rfl ml_X1_77 mi_X7_isWord se_X7_isWord (ci := 6) rfl ly_344 (lay_lt ly_344 (by decide)) rfl (Nat.le_of_ble_eq_true rfl) ⟨Nat.le_of_ble_eq_true rfl, Nat.le_of_ble_eq_true rfl⟩ rfl rfl (ok_X7_isWord 460 I L t ht h) ?_ ?_
  · intro e9 u9 hx9
    exact hx9.elim
  intro v9 u9 hv9
  obtain ⟨r616, rfl, rfl, h⟩ := hv9
  refine ⟨fun q => absurd q (Nat.lt_irrefl _), ?_⟩
  show V G Y_X1_readInputs 27 _ (.int r616 :: _) _ _ _ _ _
  refine v_if_eq (tgt := 86) (pc' := 30) 15 rfl rfl (by decide) (fun hc => ?_) (fun hc => ?_)
  · replace h := h.1 hc
    exact v_vret 44 rfl rfl (by decide) (by decide) ⟨_, _, rfl, rfl, h⟩
  replace h := h.2 hc
  refine v_iload_n (pc' := 31) 16 2 rfl rfl rfl rfl ?_
  refine v_iconst (v := 4) (pc' := 32) 17 rfl rfl (by decide) ?_
  refine v_icmp_ne (tgt := 43) (pc' := 35) 18 rfl rfl (by decide) (fun hc => ?_) (fun hc => ?_)
  · replace h := h.1 hc
    refine v_aload_n (pc' := 44) 23 0 rfl rfl rfl rfl ?_
    refine v_cV (Y2 := Y_X7_advance) (As := []) (b := 344) (pc' := 47) (c1 := 0) (s1 := 0) 24 rfl rfl mf_X7_advance rfl rfl ml_X1_81 mi_X7_advance se_X7_advance (ci := 6) rfl ly_344 (lay_lt ly_344 (by decide)) rfl (Nat.le_of_ble_eq_true rfl) ⟨Nat.le_of_ble_eq_true rfl, Nat.le_of_ble_eq_true rfl⟩ rfl rfl (ok_X7_advance I L t ht h) ?_ ?_
    · intro e9 u9 hx9
      exact hx9.elim
    intro v9 u9 hv9
    obtain ⟨I617, rfl, rfl, h⟩ := hv9
    refine ⟨fun q => absurd q (Nat.lt_irrefl _), ?_⟩
    show V G Y_X1_readInputs 47 _ _ _ _ _ _ _
    refine v_aload_n (pc' := 48) 25 1 rfl rfl rfl rfl ?_
    refine v_getR (t := (p1 + 6)) (pc' := 51) 26 rfl rfl pf_X1_56 (bn0l hp1) (lay_lt (bn0l hp1) (by decide)) (rt_bn_1 hp1) ?_
    refine v_getR (t := (p1 + 11)) (pc' := 54) 27 rfl rfl pf_X1_84 (bn6l hp1) (lay_lt (bn6l hp1) (by decide)) (rt_st_1 (bn_st hp1)) ?_
    refine v_iload_n (pc' := 55) 28 2 rfl rfl rfl rfl ?_
    refine v_aload_n (pc' := 56) 29 0 rfl rfl rfl rfl ?_
    refine v_aload_n (pc' := 57) 30 1 rfl rfl rfl rfl ?_
    refine v_getR (t := (p1 + 1)) (pc' := 60) 31 rfl rfl pf_X1_40 (bn0l hp1) (lay_lt (bn0l hp1) (by decide)) (rt_bn_0 hp1) ?_
    refine v_getI (pc' := 63) 32 rfl rfl pf_X1_50 (bn1l hp1) (lay_lt (bn1l hp1) (by decide)) ?_
    refine v_cS (Y2 := Y_X1_readWave) (As := [.ref 344, .int (I617 (p1 + 1) 6)]) (pc' := 66) (c1 := 0) (s1 := 0) 33 rfl rfl mf_X1_readWave rfl rfl ml_X1_88 ms_X1_readWave rfl (Nat.le_of_ble_eq_true rfl) ⟨Nat.le_of_ble_eq_true rfl, Nat.le_of_ble_eq_true rfl⟩ rfl rfl (ok_X1_readWave (I617 (p1 + 1) 6) I617 L t ht h) ?_ ?_
    · intro e9 u9 hx9
      exact hx9.elim
    intro v9 u9 hv9
    obtain ⟨r618, I619, rfl, rfl, h⟩ := hv9
    refine ⟨fun q => absurd q (Nat.lt_irrefl _), ?_⟩
    show V G Y_X1_readInputs 66 _ (.long r618 :: _) _ _ _ _ _
    obtain ⟨hi620, h⟩ := h
    refine v_last (i := v2) (j := v2.toNatClampNeg) (pc' := 67) 34 rfl rfl (bn11l hp1) (bn11n hp1) (lay_lt (bn11l hp1) (by decide)) hi620 rfl ?_
    refine v_aload_n (pc' := 68) 35 1 rfl rfl rfl rfl ?_
    refine v_getR (t := (p1 + 1)) (pc' := 71) 36 rfl rfl pf_X1_40 (bn0l hp1) (lay_lt (bn0l hp1) (by decide)) (rt_bn_0 hp1) ?_
    refine v_dup (pc' := 72) 37 rfl rfl rfl ?_
    refine v_getI (pc' := 75) 38 rfl rfl pf_X1_92 (bn1l hp1) (lay_lt (bn1l hp1) (by decide)) ?_
    refine v_iconst (v := 1) (pc' := 76) 39 rfl rfl (by decide) ?_
    refine v_iadd (pc' := 77) 40 rfl rfl ?_
    refine v_putI (pc' := 80) 41 rfl rfl pf_X1_92 (fun q => absurd q (by decide)) (bn1l hp1) (lay_lt (bn1l hp1) (by decide)) ?_
    exact b_X1_readInputs_80 p1 v2 (up2 I619 (p1 + 1) 4 ((I619 (p1 + 1) 4) + 1)) (up2 L (p1 + 11) (v2.toNatClampNeg) r618) t hp1 ht Q R16 hR16 h
  replace h := h.2 hc
  refine v_aload_n (pc' := 36) 19 0 rfl rfl rfl rfl ?_
  refine v_iconst (v := 3) (pc' := 37) 20 rfl rfl (by decide) ?_
  refine v_cV (Y2 := Y_X7_fail) (As := [.int 3]) (b := 344) (pc' := 40) (c1 := 0) (s1 := 0) 21 rfl rfl mf_X7_fail rfl rfl ml_X1_30 mi_X7_fail se_X7_fail (ci := 6) rfl ly_344 (lay_lt ly_344 (by decide)) rfl (Nat.le_of_ble_eq_true rfl) ⟨Nat.le_of_ble_eq_true rfl, Nat.le_of_ble_eq_true rfl⟩ rfl rfl (ok_X7_fail (3 : Int32) I L h) ?_ ?_
  · intro e9 u9 hx9
    exact hx9.elim
  intro v9 u9 hv9
  obtain ⟨I621, rfl, rfl, h⟩ := hv9
  refine ⟨fun q => absurd q (Nat.lt_irrefl _), ?_⟩
  show V G Y_X1_readInputs 40 _ _ _ _ _ _ _
  refine v_goto (tgt := 80) 22 rfl (by decide) ?_
  exact b_X1_readInputs_80 p1 v2 I621 L t hp1 ht Q R16 hR16 h
theorem l_X1_readInputs_16 {G : GT} {b d : Nat} (p1 : Nat) (t : Nat) (hp1 : bnOK p1) (ht : txOK t) (Q : TI → TL → Prop)  : ∀ (n9 : Nat) (v2 : Int32) (I : TI) (L : TL), L_X1_readInputs_16 p1 t Q n9 v2 I L → V G Y_X1_readInputs 16 [(0, .ref 344), (1, .ref p1), (2, .int v2)] [] (I, L, RT b d t, 457) 0 0 (fun v9 u9 => ∃ (I9 : TI) (L9 : TL), v9 = none ∧ u9 = (I9, L9, RT b d t, 457) ∧ Q I9 L9) (fun _ _ => False)
  | 0, _, _, _, h => h.elim
  | n9 + 1, v2, I, L, h => d_X1_readInputs_16 p1 t hp1 ht Q _ (l_X1_readInputs_16 p1 t hp1 ht Q n9) v2 I L h
def B_X1_readInputs_14 (p1 : Nat) (I : TI) (L : TL) (t : Nat) (Q : TI → TL → Prop) : Prop :=
  ∃ n622, L_X1_readInputs_16 p1 t Q n622 (0 : Int32) I L
set_option maxHeartbeats 4000000 in
set_option maxRecDepth 100000 in
theorem b_X1_readInputs_14 {G : GT} {b d : Nat} (p1 : Nat) (I : TI) (L : TL) (t : Nat) (hp1 : bnOK p1) (ht : txOK t) (Q : TI → TL → Prop)  (h : B_X1_readInputs_14 p1 I L t Q) : V G Y_X1_readInputs 14 [(0, .ref 344), (1, .ref p1)] [] (I, L, RT b d t, 457) 0 0 (fun v9 u9 => ∃ (I9 : TI) (L9 : TL), v9 = none ∧ u9 = (I9, L9, RT b d t, 457) ∧ Q I9 L9) (fun _ _ => False) := by
  unfold B_X1_readInputs_14 at h
  refine v_iconst (v := 0) (pc' := 15) 7 rfl rfl (by decide) ?_
  refine v_istore_n (ls' := [(2, .int 0), (0, .ref 344), (1, .ref p1)]) (pc' := 16) 8 rfl rfl rfl (by decide) rfl ?_
  refine V.sub [1, 2, 0] rfl ?_
  obtain ⟨n622, h⟩ := h
  exact l_X1_readInputs_16 p1 t hp1 ht Q n622 (0 : Int32) I L h
def W_X1_readInputs (p1 : Nat) (I : TI) (L : TL) (t : Nat) (Q : TI → TL → Prop) : Prop :=
  W_X7_isWord 460 I L t (fun (r623 : Int32) => (¬ r623 = 0 → B_X1_readInputs_14 p1 I L t Q) ∧ (r623 = 0 → W_X7_fail (1 : Int32) I L (fun (I624 : TI) => B_X1_readInputs_14 p1 I624 L t Q)))
set_option maxHeartbeats 4000000 in
set_option maxRecDepth 100000 in
theorem ok_X1_readInputs {G : GT} {b d : Nat} (p1 : Nat) (I : TI) (L : TL) (t : Nat) (hp1 : bnOK p1) (ht : txOK t) {Q : TI → TL → Prop} (h : W_X1_readInputs p1 I L t Q) : MW G Y_X1_readInputs [.ref 344, .ref p1] (I, L, RT b d t, 457) (fun v9 u9 => ∃ (I9 : TI) (L9 : TL), v9 = none ∧ u9 = (I9, L9, RT b d t, 457) ∧ Q I9 L9) (fun _ _ => False) := by
  unfold W_X1_readInputs at h
  refine MW.intro rfl (by decide) is_X1_readInputs (Nat.le_of_ble_eq_true rfl) ?_
  show V G Y_X1_readInputs 0 [(0, .ref 344), (1, .ref p1)] [] (I, L, RT b d t, 457) 0 0 _ _
  refine v_aload_n (pc' := 1) 0 0 rfl rfl rfl rfl ?_
  refine v_ldcS (pc' := 3) 1 rfl rfl sr_X1_75 ?_
  refine v_cV (Y2 := Y_X7_isWord) (As := [.ref 460]) (b := 344) (pc' := 6) (c1 := 0) (s1 := 0) 2 rfl rfl mf_X7_isWord rfl rfl ml_X1_77 mi_X7_isWord se_X7_isWord (ci := 6) rfl ly_344 (lay_lt ly_344 (by decide)) rfl (Nat.le_of_ble_eq_true rfl) ⟨Nat.le_of_ble_eq_true rfl, Nat.le_of_ble_eq_true rfl⟩ rfl rfl (ok_X7_isWord 460 I L t ht h) ?_ ?_
  · intro e9 u9 hx9
    exact hx9.elim
  intro v9 u9 hv9
  obtain ⟨r623, rfl, rfl, h⟩ := hv9
  refine ⟨fun q => absurd q (Nat.lt_irrefl _), ?_⟩
  show V G Y_X1_readInputs 6 _ (.int r623 :: _) _ _ _ _ _
  refine v_if_ne (tgt := 14) (pc' := 9) 3 rfl rfl (by decide) (fun hc => ?_) (fun hc => ?_)
  · replace h := h.1 hc
    exact b_X1_readInputs_14 p1 I L t hp1 ht Q h
  replace h := h.2 hc
  refine v_aload_n (pc' := 10) 4 0 rfl rfl rfl rfl ?_
  refine v_iconst (v := 1) (pc' := 11) 5 rfl rfl (by decide) ?_
  refine v_cV (Y2 := Y_X7_fail) (As := [.int 1]) (b := 344) (pc' := 14) (c1 := 0) (s1 := 0) 6 rfl rfl mf_X7_fail rfl rfl ml_X1_30 mi_X7_fail se_X7_fail (ci := 6) rfl ly_344 (lay_lt ly_344 (by decide)) rfl (Nat.le_of_ble_eq_true rfl) ⟨Nat.le_of_ble_eq_true rfl, Nat.le_of_ble_eq_true rfl⟩ rfl rfl (ok_X7_fail (1 : Int32) I L h) ?_ ?_
  · intro e9 u9 hx9
    exact hx9.elim
  intro v9 u9 hv9
  obtain ⟨I624, rfl, rfl, h⟩ := hv9
  refine ⟨fun q => absurd q (Nat.lt_irrefl _), ?_⟩
  show V G Y_X1_readInputs 14 _ _ _ _ _ _ _
  exact b_X1_readInputs_14 p1 I624 L t hp1 ht Q h
def W_X8_kindWord (p0 : Int32) (I : TI) (L : TL) (Q : Nat → Prop) : Prop :=
  (p0 = 0 → Q 462) ∧ (p0 = 1 → Q 463) ∧ (p0 = 2 → Q 464) ∧ (p0 = 3 → Q 465) ∧ (p0 = 4 → Q 466) ∧ (p0 = 5 → Q 467) ∧ (p0 < 0 ∨ 5 < p0 → Q 468)
set_option maxHeartbeats 4000000 in
set_option maxRecDepth 100000 in
theorem ok_X8_kindWord {G : GT} {b d t : Nat} (p0 : Int32) (I : TI) (L : TL)  {Q : Nat → Prop} (h : W_X8_kindWord p0 I L Q) : MW G Y_X8_kindWord [.int p0] (I, L, RT b d t, 457) (fun v9 u9 => ∃ (r9 : Nat), v9 = some (.ref r9) ∧ u9 = (I, L, RT b d t, 457) ∧ Q r9) (fun _ _ => False) := by
  unfold W_X8_kindWord at h
  refine MW.intro rfl (by decide) is_X8_kindWord (Nat.le_of_ble_eq_true rfl) ?_
  show V G Y_X8_kindWord 0 [(0, .int p0)] [] (I, L, RT b d t, 457) 0 0 _ _
  refine v_iload_n (pc' := 1) 0 0 rfl rfl rfl rfl ?_
  refine v_ts (clo := 0) (chi := 5) (dt := 64) 1 6 [40, 44, 48, 52, 56, 60] rfl (by decide) (by decide) (by decide) (by decide) (by decide) ?_ (fun hc => ?_)
  · intro j9 t9 ht9 hj9 hx9
    match j9, ht9, hj9, hx9 with
    | 0, ht9, hj9, hx9 =>
      cases ht9
      replace hx9 := hx9.trans (show Int32.ofInt _ = (0 : Int32) by decide)
      replace h := h.1 hx9
      refine v_ldcSW (pc' := 43) 2 rfl rfl sr_X8_408 ?_
      exact v_aret 3 rfl rfl (by decide) (by decide) ⟨_, rfl, rfl, h⟩
    | 1, ht9, hj9, hx9 =>
      cases ht9
      replace hx9 := hx9.trans (show Int32.ofInt _ = (1 : Int32) by decide)
      replace h := h.2.1 hx9
      refine v_ldcSW (pc' := 47) 4 rfl rfl sr_X8_410 ?_
      exact v_aret 5 rfl rfl (by decide) (by decide) ⟨_, rfl, rfl, h⟩
    | 2, ht9, hj9, hx9 =>
      cases ht9
      replace hx9 := hx9.trans (show Int32.ofInt _ = (2 : Int32) by decide)
      replace h := h.2.2.1 hx9
      refine v_ldcSW (pc' := 51) 6 rfl rfl sr_X8_412 ?_
      exact v_aret 7 rfl rfl (by decide) (by decide) ⟨_, rfl, rfl, h⟩
    | 3, ht9, hj9, hx9 =>
      cases ht9
      replace hx9 := hx9.trans (show Int32.ofInt _ = (3 : Int32) by decide)
      replace h := h.2.2.2.1 hx9
      refine v_ldcSW (pc' := 55) 8 rfl rfl sr_X8_414 ?_
      exact v_aret 9 rfl rfl (by decide) (by decide) ⟨_, rfl, rfl, h⟩
    | 4, ht9, hj9, hx9 =>
      cases ht9
      replace hx9 := hx9.trans (show Int32.ofInt _ = (4 : Int32) by decide)
      replace h := h.2.2.2.2.1 hx9
      refine v_ldcSW (pc' := 59) 10 rfl rfl sr_X8_416 ?_
      exact v_aret 11 rfl rfl (by decide) (by decide) ⟨_, rfl, rfl, h⟩
    | 5, ht9, hj9, hx9 =>
      cases ht9
      replace hx9 := hx9.trans (show Int32.ofInt _ = (5 : Int32) by decide)
      replace h := h.2.2.2.2.2.1 hx9
      refine v_ldcSW (pc' := 63) 12 rfl rfl sr_X8_418 ?_
      exact v_aret 13 rfl rfl (by decide) (by decide) ⟨_, rfl, rfl, h⟩
    | q9 + 6, ht9, hj9, hx9 => exact absurd hj9 (by omega)
  replace h := h.2.2.2.2.2.2 hc
  refine v_ldcSW (pc' := 67) 14 rfl rfl sr_X8_420 ?_
  exact v_aret 15 rfl rfl (by decide) (by decide) ⟨_, rfl, rfl, h⟩
def D_X1_readKind_2 (I : TI) (L : TL) (t : Nat) (Q : Int32 → TI → Prop) (R2 : Int32 → Prop) (v1 : Int32) : Prop :=
  (7 ≤ v1 → W_X7_fail (1 : Int32) I L (fun (I633 : TI) => Q 0 I633)) ∧ (¬ 7 ≤ v1 → W_X8_kindWord v1 I L (fun (r634 : Nat) => W_X7_isWord r634 I L t (fun (r635 : Int32) => (r635 = 0 → R2 (v1 + 1)) ∧ (¬ r635 = 0 → W_X7_advance I L t (fun (I636 : TI) => Q v1 I636)))))
def L_X1_readKind_2 (I : TI) (L : TL) (t : Nat) (Q : Int32 → TI → Prop) : Nat → Int32 → Prop
  | 0, _ => False
  | n9 + 1, v1 => D_X1_readKind_2 I L t Q (fun v1 => L_X1_readKind_2 I L t Q n9 v1) v1
set_option maxHeartbeats 4000000 in
set_option maxRecDepth 100000 in
theorem d_X1_readKind_2 {G : GT} {b d : Nat} (I : TI) (L : TL) (t : Nat) (ht : txOK t) (Q : Int32 → TI → Prop) (R2 : Int32 → Prop)  (hR2 : ∀ (v1 : Int32), R2 v1 → V G Y_X1_readKind 2 [(0, .ref 344), (1, .int v1)] [] (I, L, RT b d t, 457) 0 0 (fun v9 u9 => ∃ (r9 : Int32) (I9 : TI), v9 = some (.int r9) ∧ u9 = (I9, L, RT b d t, 457) ∧ Q r9 I9) (fun _ _ => False)) (v1 : Int32)  (h : D_X1_readKind_2 I L t Q R2 v1) : V G Y_X1_readKind 2 [(0, .ref 344), (1, .int v1)] [] (I, L, RT b d t, 457) 0 0 (fun v9 u9 => ∃ (r9 : Int32) (I9 : TI), v9 = some (.int r9) ∧ u9 = (I9, L, RT b d t, 457) ∧ Q r9 I9) (fun _ _ => False) := by
  unfold D_X1_readKind_2 at h
  refine v_iload_n (pc' := 3) 2 1 rfl rfl rfl rfl ?_
  refine v_bipush (v := 7) (pc' := 5) 3 rfl rfl (by decide) ?_
  refine v_icmp_ge (tgt := 31) (pc' := 8) 4 rfl rfl (by decide) (fun hc => ?_) (fun hc => ?_)
  · replace h := h.1 hc
    refine v_aload_n (pc' := 32) 16 0 rfl rfl rfl rfl ?_
    refine v_iconst (v := 1) (pc' := 33) 17 rfl rfl (by decide) ?_
    refine v_cV (Y2 := Y_X7_fail) (As := [.int 1]) (b := 344) (pc' := 36) (c1 := 0) (s1 := 0) 18 rfl rfl mf_X7_fail rfl rfl ml_X1_30 mi_X7_fail se_X7_fail (ci := 6) rfl ly_344 (lay_lt ly_344 (by decide)) rfl (Nat.le_of_ble_eq_true rfl) ⟨Nat.le_of_ble_eq_true rfl, Nat.le_of_ble_eq_true rfl⟩ rfl rfl (ok_X7_fail (1 : Int32) I L h) ?_ ?_
    · intro e9 u9 hx9
      exact hx9.elim
    intro v9 u9 hv9
    obtain ⟨I633, rfl, rfl, h⟩ := hv9
    refine ⟨fun q => absurd q (Nat.lt_irrefl _), ?_⟩
    show V G Y_X1_readKind 36 _ _ _ _ _ _ _
    refine v_iconst (v := 0) (pc' := 37) 19 rfl rfl (by decide) ?_
    exact v_iret 20 rfl rfl (by decide) (by decide) ⟨_, _, rfl, rfl, h⟩
  replace h := h.2 hc
  refine v_aload_n (pc' := 9) 5 0 rfl rfl rfl rfl ?_
  refine v_iload_n (pc' := 10) 6 1 rfl rfl rfl rfl ?_
  refine v_cNS (Y2 := Y_X8_kindWord) (As := [.int v1]) (pc' := 13) (c1 := 0) (s1 := 0) 7 rfl rfl mf_X8_kindWord rfl rfl nt_X1_129 ms_X8_kindWord rfl (Nat.le_of_ble_eq_true rfl) ⟨Nat.le_of_ble_eq_true rfl, Nat.le_of_ble_eq_true rfl⟩ rfl rfl (ok_X8_kindWord v1 I L h) ?_ ?_
  · intro e9 u9 hx9
    exact hx9.elim
  intro v9 u9 hv9
  obtain ⟨r634, rfl, rfl, h⟩ := hv9
  refine ⟨fun q => absurd q (Nat.lt_irrefl _), ?_⟩
  show V G Y_X1_readKind 13 _ (.ref r634 :: _) _ _ _ _ _
  refine v_cV (Y2 := Y_X7_isWord) (As := [.ref r634]) (b := 344) (pc' := 16) (c1 := 0) (s1 := 0) 8 rfl rfl mf_X7_isWord rfl rfl ml_X1_77 mi_X7_isWord se_X7_isWord (ci := 6) rfl ly_344 (lay_lt ly_344 (by decide)) rfl (Nat.le_of_ble_eq_true rfl) ⟨Nat.le_of_ble_eq_true rfl, Nat.le_of_ble_eq_true rfl⟩ rfl rfl (ok_X7_isWord r634 I L t ht h) ?_ ?_
  · intro e9 u9 hx9
    exact hx9.elim
  intro v9 u9 hv9
  obtain ⟨r635, rfl, rfl, h⟩ := hv9
  refine ⟨fun q => absurd q (Nat.lt_irrefl _), ?_⟩
  show V G Y_X1_readKind 16 _ (.int r635 :: _) _ _ _ _ _
  refine v_if_eq (tgt := 25) (pc' := 19) 9 rfl rfl (by decide) (fun hc => ?_) (fun hc => ?_)
  · replace h := h.1 hc
    refine v_iinc (v := (v1 + 1)) (ls' := [(1, .int (v1 + 1)), (0, .ref 344)]) (pc' := 28) 14 1 rfl rfl rfl rfl (by decide) rfl ?_
    refine v_goto (tgt := 2) 15 rfl (by decide) ?_
    refine V.sub [1, 0] rfl ?_
    exact hR2 (v1 + 1) h
  replace h := h.2 hc
  refine v_aload_n (pc' := 20) 10 0 rfl rfl rfl rfl ?_
  refine v_cV (Y2 := Y_X7_advance) (As := []) (b := 344) (pc' := 23) (c1 := 0) (s1 := 0) 11 rfl rfl mf_X7_advance rfl rfl ml_X1_81 mi_X7_advance se_X7_advance (ci := 6) rfl ly_344 (lay_lt ly_344 (by decide)) rfl (Nat.le_of_ble_eq_true rfl) ⟨Nat.le_of_ble_eq_true rfl, Nat.le_of_ble_eq_true rfl⟩ rfl rfl (ok_X7_advance I L t ht h) ?_ ?_
  · intro e9 u9 hx9
    exact hx9.elim
  intro v9 u9 hv9
  obtain ⟨I636, rfl, rfl, h⟩ := hv9
  refine ⟨fun q => absurd q (Nat.lt_irrefl _), ?_⟩
  show V G Y_X1_readKind 23 _ _ _ _ _ _ _
  refine v_iload_n (pc' := 24) 12 1 rfl rfl rfl rfl ?_
  exact v_iret 13 rfl rfl (by decide) (by decide) ⟨_, _, rfl, rfl, h⟩
theorem l_X1_readKind_2 {G : GT} {b d : Nat} (I : TI) (L : TL) (t : Nat) (ht : txOK t) (Q : Int32 → TI → Prop)  : ∀ (n9 : Nat) (v1 : Int32), L_X1_readKind_2 I L t Q n9 v1 → V G Y_X1_readKind 2 [(0, .ref 344), (1, .int v1)] [] (I, L, RT b d t, 457) 0 0 (fun v9 u9 => ∃ (r9 : Int32) (I9 : TI), v9 = some (.int r9) ∧ u9 = (I9, L, RT b d t, 457) ∧ Q r9 I9) (fun _ _ => False)
  | 0, _, h => h.elim
  | n9 + 1, v1, h => d_X1_readKind_2 I L t ht Q _ (l_X1_readKind_2 I L t ht Q n9) v1 h
def W_X1_readKind (I : TI) (L : TL) (t : Nat) (Q : Int32 → TI → Prop) : Prop :=
  ∃ n637, L_X1_readKind_2 I L t Q n637 (0 : Int32)
set_option maxHeartbeats 4000000 in
set_option maxRecDepth 100000 in
theorem ok_X1_readKind {G : GT} {b d : Nat} (I : TI) (L : TL) (t : Nat) (ht : txOK t) {Q : Int32 → TI → Prop} (h : W_X1_readKind I L t Q) : MW G Y_X1_readKind [.ref 344] (I, L, RT b d t, 457) (fun v9 u9 => ∃ (r9 : Int32) (I9 : TI), v9 = some (.int r9) ∧ u9 = (I9, L, RT b d t, 457) ∧ Q r9 I9) (fun _ _ => False) := by
  unfold W_X1_readKind at h
  refine MW.intro rfl (by decide) is_X1_readKind (Nat.le_of_ble_eq_true rfl) ?_
  show V G Y_X1_readKind 0 [(0, .ref 344)] [] (I, L, RT b d t, 457) 0 0 _ _
  refine v_iconst (v := 0) (pc' := 1) 0 rfl rfl (by decide) ?_
  refine v_istore_n (ls' := [(1, .int 0), (0, .ref 344)]) (pc' := 2) 1 rfl rfl rfl (by decide) rfl ?_
  refine V.sub [1, 0] rfl ?_
  obtain ⟨n637, h⟩ := h
  exact l_X1_readKind_2 I L t ht Q n637 (0 : Int32) h
def B_X2_addGate_62 (p0 : Nat) (s1 : Int32) (s2 : Int32) (s3 : Int32) (I : TI) (L : TL) (Q : TI → Prop) : Prop :=
  vp_in s1 16 ∧ (∀ I653 : TI, I653 = (up2 (up2 I (p0 + 4) (s1.toNatClampNeg) (s2 ||| s3)) p0 5 (((up2 I (p0 + 4) (s1.toNatClampNeg) (s2 ||| s3)) p0 5) + 1)) → (Q I653))
set_option maxHeartbeats 4000000 in
set_option maxRecDepth 100000 in
theorem b_X2_addGate_62 {G : GT} {b d t : Nat} (p0 : Nat) (s1 : Int32) (s2 : Int32) (s3 : Int32) (I : TI) (L : TL) (hp0 : ckOK p0) (Q : TI → Prop)  (h : B_X2_addGate_62 p0 s1 s2 s3 I L Q) : V G Y_X2_addGate 62 [(0, .ref p0)] [.int s3, .int s2, .int s1, .ref (p0 + 4)] (I, L, RT b d t, 457) 0 0 (fun v9 u9 => ∃ (I9 : TI), v9 = none ∧ u9 = (I9, L, RT b d t, 457) ∧ Q I9) (fun _ _ => False) := by
  unfold B_X2_addGate_62 at h
  refine v_ior (pc' := 63) 38 rfl rfl ?_
  obtain ⟨hi652, h⟩ := h
  refine v_iast (i := s1) (j := s1.toNatClampNeg) (pc' := 64) 39 rfl rfl (ck4l hp0) (ck4n hp0) (lay_lt (ck4l hp0) (by decide)) hi652 rfl ?_
  refine v_aload_n (pc' := 65) 40 0 rfl rfl rfl rfl ?_
  refine v_dup (pc' := 66) 41 rfl rfl rfl ?_
  refine v_getI (pc' := 69) 42 rfl rfl pf_X2_28 (ck0l hp0) (lay_lt (ck0l hp0) (by decide)) ?_
  refine v_iconst (v := 1) (pc' := 70) 43 rfl rfl (by decide) ?_
  refine v_iadd (pc' := 71) 44 rfl rfl ?_
  refine v_putI (pc' := 74) 45 rfl rfl pf_X2_28 (fun q => absurd q (by decide)) (ck0l hp0) (lay_lt (ck0l hp0) (by decide)) ?_
  refine nm_M (e := (up2 (up2 I (p0 + 4) (s1.toNatClampNeg) (s2 ||| s3)) p0 5 (((up2 I (p0 + 4) (s1.toNatClampNeg) (s2 ||| s3)) p0 5) + 1))) (fun I653 hI653 => ?_)
  replace h := h I653 hI653
  exact v_vret 46 rfl rfl (by decide) (by decide) ⟨_, rfl, rfl, h⟩
def W_X2_addGate (p0 : Nat) (p1 : Int32) (p2 : Int32) (p3 : Int32) (I : TI) (L : TL) (Q : TI → Prop) : Prop :=
  W_X2_nets p0 I L (fun (r654 : Int32) => vp_in r654 16 ∧ (vp_in r654 16 ∧ (∀ I657 : TI, I657 = (up2 (up2 I (p0 + 1) (r654.toNatClampNeg) p1) (p0 + 2) (r654.toNatClampNeg) p2) → (vp_in r654 16 ∧ (vp_in p2 16 ∧ ((¬ p3 = (-1) → vp_in p3 16 ∧ (B_X2_addGate_62 p0 r654 (((1 : Int32) <<< (r654 &&& 31)) ||| ((up2 I657 (p0 + 3) (r654.toNatClampNeg) p3) (p0 + 4) (p2.toNatClampNeg))) ((up2 I657 (p0 + 3) (r654.toNatClampNeg) p3) (p0 + 4) (p3.toNatClampNeg)) (up2 I657 (p0 + 3) (r654.toNatClampNeg) p3) L Q)) ∧ (p3 = (-1) → B_X2_addGate_62 p0 r654 (((1 : Int32) <<< (r654 &&& 31)) ||| ((up2 I657 (p0 + 3) (r654.toNatClampNeg) p3) (p0 + 4) (p2.toNatClampNeg))) (0 : Int32) (up2 I657 (p0 + 3) (r654.toNatClampNeg) p3) L Q)))))))
set_option maxHeartbeats 4000000 in
set_option maxRecDepth 100000 in
theorem ok_X2_addGate {G : GT} {b d t : Nat} (p0 : Nat) (p1 : Int32) (p2 : Int32) (p3 : Int32) (I : TI) (L : TL) (hp0 : ckOK p0) {Q : TI → Prop} (h : W_X2_addGate p0 p1 p2 p3 I L Q) : MW G Y_X2_addGate [.ref p0, .int p1, .int p2, .int p3] (I, L, RT b d t, 457) (fun v9 u9 => ∃ (I9 : TI), v9 = none ∧ u9 = (I9, L, RT b d t, 457) ∧ Q I9) (fun _ _ => False) := by
  unfold W_X2_addGate at h
  refine MW.intro rfl (by decide) is_X2_addGate (Nat.le_of_ble_eq_true rfl) ?_
  show V G Y_X2_addGate 0 [(0, .ref p0), (1, .int p1), (2, .int p2), (3, .int p3)] [] (I, L, RT b d t, 457) 0 0 _ _
  refine v_aload_n (pc' := 1) 0 0 rfl rfl rfl rfl ?_
  refine v_cV (Y2 := Y_X2_nets) (As := []) (b := p0) (pc' := 4) (c1 := 0) (s1 := 0) 1 rfl rfl mf_X2_nets rfl rfl ml_X2_40 mi_X2_nets se_X2_nets (ci := 1) rfl (ck0l hp0) (lay_lt (ck0l hp0) (by decide)) rfl (Nat.le_of_ble_eq_true rfl) ⟨Nat.le_of_ble_eq_true rfl, Nat.le_of_ble_eq_true rfl⟩ rfl rfl (ok_X2_nets p0 I L hp0 h) ?_ ?_
  · intro e9 u9 hx9
    exact hx9.elim
  intro v9 u9 hv9
  obtain ⟨r654, rfl, rfl, h⟩ := hv9
  refine ⟨fun q => absurd q (Nat.lt_irrefl _), ?_⟩
  show V G Y_X2_addGate 4 _ (.int r654 :: _) _ _ _ _ _
  refine v_istore (ls' := [(4, .int r654), (0, .ref p0), (1, .int p1), (2, .int p2), (3, .int p3)]) (pc' := 6) 2 rfl rfl (by decide) rfl ?_
  refine v_aload_n (pc' := 7) 3 1 rfl rfl rfl rfl ?_
  refine v_getR (t := (p0 + 1)) (pc' := 10) 4 rfl rfl pf_X2_9 (ck0l hp0) (lay_lt (ck0l hp0) (by decide)) (rt_ck_0 hp0) ?_
  refine v_iload (pc' := 12) 5 0 rfl rfl rfl ?_
  refine v_iload_n (pc' := 13) 6 2 rfl rfl rfl rfl ?_
  obtain ⟨hi655, h⟩ := h
  refine v_iast (i := r654) (j := r654.toNatClampNeg) (pc' := 14) 7 rfl rfl (ck1l hp0) (ck1n hp0) (lay_lt (ck1l hp0) (by decide)) hi655 rfl ?_
  refine v_aload_n (pc' := 15) 8 1 rfl rfl rfl rfl ?_
  refine v_getR (t := (p0 + 2)) (pc' := 18) 9 rfl rfl pf_X2_15 (ck0l hp0) (lay_lt (ck0l hp0) (by decide)) (rt_ck_1 hp0) ?_
  refine v_iload (pc' := 20) 10 0 rfl rfl rfl ?_
  refine v_iload_n (pc' := 21) 11 3 rfl rfl rfl rfl ?_
  obtain ⟨hi656, h⟩ := h
  refine v_iast (i := r654) (j := r654.toNatClampNeg) (pc' := 22) 12 rfl rfl (ck2l hp0) (ck2n hp0) (lay_lt (ck2l hp0) (by decide)) hi656 rfl ?_
  refine nm_M (e := (up2 (up2 I (p0 + 1) (r654.toNatClampNeg) p1) (p0 + 2) (r654.toNatClampNeg) p2)) (fun I657 hI657 => ?_)
  replace h := h I657 hI657
  refine v_aload_n (pc' := 23) 13 1 rfl rfl rfl rfl ?_
  refine v_getR (t := (p0 + 3)) (pc' := 26) 14 rfl rfl pf_X2_18 (ck0l hp0) (lay_lt (ck0l hp0) (by decide)) (rt_ck_2 hp0) ?_
  refine v_iload (pc' := 28) 15 0 rfl rfl rfl ?_
  refine v_iload_n (pc' := 29) 16 4 rfl rfl rfl rfl ?_
  obtain ⟨hi658, h⟩ := h
  refine v_iast (i := r654) (j := r654.toNatClampNeg) (pc' := 30) 17 rfl rfl (ck3l hp0) (ck3n hp0) (lay_lt (ck3l hp0) (by decide)) hi658 rfl ?_
  refine v_aload_n (pc' := 31) 18 1 rfl rfl rfl rfl ?_
  refine v_getR (t := (p0 + 4)) (pc' := 34) 19 rfl rfl pf_X2_21 (ck0l hp0) (lay_lt (ck0l hp0) (by decide)) (rt_ck_3 hp0) ?_
  refine v_iload (pc' := 36) 20 0 rfl rfl rfl ?_
  refine v_iconst (v := 1) (pc' := 37) 21 rfl rfl (by decide) ?_
  refine v_iload (pc' := 39) 22 0 rfl rfl rfl ?_
  refine v_ishl (pc' := 40) 23 rfl rfl ?_
  refine v_aload_n (pc' := 41) 24 1 rfl rfl rfl rfl ?_
  refine v_getR (t := (p0 + 4)) (pc' := 44) 25 rfl rfl pf_X2_21 (ck0l hp0) (lay_lt (ck0l hp0) (by decide)) (rt_ck_3 hp0) ?_
  refine v_iload_n (pc' := 45) 26 3 rfl rfl rfl rfl ?_
  obtain ⟨hi659, h⟩ := h
  refine v_iald (i := p2) (j := p2.toNatClampNeg) (pc' := 46) 27 rfl rfl (ck4l hp0) (ck4n hp0) (lay_lt (ck4l hp0) (by decide)) hi659 rfl ?_
  refine v_ior (pc' := 47) 28 rfl rfl ?_
  refine v_iload_n (pc' := 48) 29 4 rfl rfl rfl rfl ?_
  refine v_iconst (v := -1) (pc' := 49) 30 rfl rfl (by decide) ?_
  refine v_icmp_ne (tgt := 56) (pc' := 52) 31 rfl rfl (by decide) (fun hc => ?_) (fun hc => ?_)
  · replace h := h.1 hc
    refine v_aload_n (pc' := 57) 34 1 rfl rfl rfl rfl ?_
    refine v_getR (t := (p0 + 4)) (pc' := 60) 35 rfl rfl pf_X2_21 (ck0l hp0) (lay_lt (ck0l hp0) (by decide)) (rt_ck_3 hp0) ?_
    refine v_iload_n (pc' := 61) 36 4 rfl rfl rfl rfl ?_
    obtain ⟨hi660, h⟩ := h
    refine v_iald (i := p3) (j := p3.toNatClampNeg) (pc' := 62) 37 rfl rfl (ck4l hp0) (ck4n hp0) (lay_lt (ck4l hp0) (by decide)) hi660 rfl ?_
    refine V.sub [1] rfl ?_
    exact b_X2_addGate_62 p0 r654 (((1 : Int32) <<< (r654 &&& 31)) ||| ((up2 I657 (p0 + 3) (r654.toNatClampNeg) p3) (p0 + 4) (p2.toNatClampNeg))) ((up2 I657 (p0 + 3) (r654.toNatClampNeg) p3) (p0 + 4) (p3.toNatClampNeg)) (up2 I657 (p0 + 3) (r654.toNatClampNeg) p3) L hp0 Q h
  replace h := h.2 hc
  refine v_iconst (v := 0) (pc' := 53) 32 rfl rfl (by decide) ?_
  refine v_goto (tgt := 62) 33 rfl (by decide) ?_
  refine V.sub [1] rfl ?_
  exact b_X2_addGate_62 p0 r654 (((1 : Int32) <<< (r654 &&& 31)) ||| ((up2 I657 (p0 + 3) (r654.toNatClampNeg) p3) (p0 + 4) (p2.toNatClampNeg))) (0 : Int32) (up2 I657 (p0 + 3) (r654.toNatClampNeg) p3) L hp0 Q h
def B_X1_readGate_81 (p1 : Nat) (v2 : Int32) (v3 : Int32) (v4 : Int32) (v5 : Int32) (v6 : Int32) (I : TI) (L : TL) (t : Nat) (Q : TI → Prop) (R45 : Int32 → TI → Prop) : Prop :=
  R45 (v6 + 1) I
set_option maxHeartbeats 4000000 in
set_option maxRecDepth 100000 in
theorem b_X1_readGate_81 {G : GT} {b d : Nat} (p1 : Nat) (v2 : Int32) (v3 : Int32) (v4 : Int32) (v5 : Int32) (v6 : Int32) (I : TI) (L : TL) (t : Nat) (hp1 : bnOK p1) (ht : txOK t) (Q : TI → Prop) (R45 : Int32 → TI → Prop) (hR45 : ∀ (v6 : Int32) (I : TI), R45 v6 I → V G Y_X1_readGate 45 [(0, .ref 344), (1, .ref p1), (2, .int v2), (3, .int v3), (4, .int v4), (5, .int v5), (6, .int v6)] [] (I, L, RT b d t, 457) 0 0 (fun v9 u9 => ∃ (I9 : TI), v9 = none ∧ u9 = (I9, L, RT b d t, 457) ∧ Q I9) (fun _ _ => False)) (h : B_X1_readGate_81 p1 v2 v3 v4 v5 v6 I L t Q R45) : V G Y_X1_readGate 81 [(0, .ref 344), (1, .ref p1), (2, .int v2), (3, .int v3), (4, .int v4), (5, .int v5), (6, .int v6)] [] (I, L, RT b d t, 457) 0 0 (fun v9 u9 => ∃ (I9 : TI), v9 = none ∧ u9 = (I9, L, RT b d t, 457) ∧ Q I9) (fun _ _ => False) := by
  unfold B_X1_readGate_81 at h
  refine v_iinc (v := (v6 + 1)) (ls' := [(6, .int (v6 + 1)), (0, .ref 344), (1, .ref p1), (2, .int v2), (3, .int v3), (4, .int v4), (5, .int v5)]) (pc' := 84) 47 6 rfl rfl rfl rfl (by decide) rfl ?_
  refine v_goto (tgt := 45) 48 rfl (by decide) ?_
  refine V.sub [1, 2, 3, 4, 5, 6, 0] rfl ?_
  exact hR45 (v6 + 1) I h
def D_X1_readGate_45 (p1 : Nat) (v2 : Int32) (v3 : Int32) (v4 : Int32) (v5 : Int32) (L : TL) (t : Nat) (Q : TI → Prop) (R45 : Int32 → TI → Prop) (v6 : Int32) (I : TI) : Prop :=
  (3 ≤ v6 → W_X7_takeSign (59 : Int32) I L t (fun (I698 : TI) => W_X7_failed I698 L (fun (r699 : Int32) => (¬ r699 = 0 → Q I698) ∧ (r699 = 0 → W_X2_addGate (p1 + 1) v3 v4 v5 I698 L (fun (I700 : TI) => Q I700))))) ∧ (¬ 3 ≤ v6 → W_X7_takeNumber (1 : Int32) (9 : Int32) I L t (fun (r701 : Int32) (I702 : TI) => W_X7_failed I702 L (fun (r703 : Int32) => (¬ r703 = 0 → B_X1_readGate_81 p1 v2 v3 v4 v5 v6 I702 L t Q R45) ∧ (r703 = 0 → vp_in v6 3 ∧ (vp_in v2 16 ∧ (∀ I706 : TI, I706 = (up2 I702 ((p1 + 8) + v6.toNatClampNeg) (v2.toNatClampNeg) r701) → (B_X1_readGate_81 p1 v2 v3 v4 v5 v6 I706 L t Q R45)))))))
def L_X1_readGate_45 (p1 : Nat) (v2 : Int32) (v3 : Int32) (v4 : Int32) (v5 : Int32) (L : TL) (t : Nat) (Q : TI → Prop) : Nat → Int32 → TI → Prop
  | 0, _, _ => False
  | n9 + 1, v6, I => D_X1_readGate_45 p1 v2 v3 v4 v5 L t Q (fun v6 I => L_X1_readGate_45 p1 v2 v3 v4 v5 L t Q n9 v6 I) v6 I
set_option maxHeartbeats 4000000 in
set_option maxRecDepth 100000 in
theorem d_X1_readGate_45 {G : GT} {b d : Nat} (p1 : Nat) (v2 : Int32) (v3 : Int32) (v4 : Int32) (v5 : Int32) (L : TL) (t : Nat) (hp1 : bnOK p1) (ht : txOK t) (Q : TI → Prop) (R45 : Int32 → TI → Prop)  (hR45 : ∀ (v6 : Int32) (I : TI), R45 v6 I → V G Y_X1_readGate 45 [(0, .ref 344), (1, .ref p1), (2, .int v2), (3, .int v3), (4, .int v4), (5, .int v5), (6, .int v6)] [] (I, L, RT b d t, 457) 0 0 (fun v9 u9 => ∃ (I9 : TI), v9 = none ∧ u9 = (I9, L, RT b d t, 457) ∧ Q I9) (fun _ _ => False)) (v6 : Int32) (I : TI)  (h : D_X1_readGate_45 p1 v2 v3 v4 v5 L t Q R45 v6 I) : V G Y_X1_readGate 45 [(0, .ref 344), (1, .ref p1), (2, .int v2), (3, .int v3), (4, .int v4), (5, .int v5), (6, .int v6)] [] (I, L, RT b d t, 457) 0 0 (fun v9 u9 => ∃ (I9 : TI), v9 = none ∧ u9 = (I9, L, RT b d t, 457) ∧ Q I9) (fun _ _ => False) := by
  unfold D_X1_readGate_45 at h
  refine v_iload (pc' := 47) 28 6 rfl rfl rfl ?_
  refine v_iconst (v := 3) (pc' := 48) 29 rfl rfl (by decide) ?_
  refine v_icmp_ge (tgt := 87) (pc' := 51) 30 rfl rfl (by decide) (fun hc => ?_) (fun hc => ?_)
  · replace h := h.1 hc
    refine v_aload_n (pc' := 88) 49 0 rfl rfl rfl rfl ?_
    refine v_bipush (v := 59) (pc' := 90) 50 rfl rfl (by decide) ?_
    refine v_cV (Y2 := Y_X7_takeSign) (As := [.int 59]) (b := 344) (pc' := 93) (c1 := 0) (s1 := 0) 51 rfl rfl mf_X7_takeSign rfl rfl ml_X1_71 mi_X7_takeSign se_X7_takeSign (ci := 6) rfl ly_344 (lay_lt ly_344 (by decide)) rfl (Nat.le_of_ble_eq_true rfl) ⟨Nat.le_of_ble_eq_true rfl, Nat.le_of_ble_eq_true rfl⟩ rfl rfl (ok_X7_takeSign (59 : Int32) I L t ht h) ?_ ?_
    · intro e9 u9 hx9
      exact hx9.elim
    intro v9 u9 hv9
    obtain ⟨I698, rfl, rfl, h⟩ := hv9
    refine ⟨fun q => absurd q (Nat.lt_irrefl _), ?_⟩
    show V G Y_X1_readGate 93 _ _ _ _ _ _ _
    refine v_aload_n (pc' := 94) 52 0 rfl rfl rfl rfl ?_
    refine v_cV (Y2 := Y_X7_failed) (As := []) (b := 344) (pc' := 97) (c1 := 0) (s1 := 0) 53 rfl rfl mf_X7_failed rfl rfl ml_X1_118 mi_X7_failed se_X7_failed (ci := 6) rfl ly_344 (lay_lt ly_344 (by decide)) rfl (Nat.le_of_ble_eq_true rfl) ⟨Nat.le_of_ble_eq_true rfl, Nat.le_of_ble_eq_true rfl⟩ rfl rfl (ok_X7_failed I698 L h) ?_ ?_
    · intro e9 u9 hx9
      exact hx9.elim
    intro v9 u9 hv9
    obtain ⟨r699, rfl, rfl, h⟩ := hv9
    refine ⟨fun q => absurd q (Nat.lt_irrefl _), ?_⟩
    show V G Y_X1_readGate 97 _ (.int r699 :: _) _ _ _ _ _
    refine v_if_ne (tgt := 112) (pc' := 100) 54 rfl rfl (by decide) (fun hc => ?_) (fun hc => ?_)
    · replace h := h.1 hc
      exact v_vret 61 rfl rfl (by decide) (by decide) ⟨_, rfl, rfl, h⟩
    replace h := h.2 hc
    refine v_aload_n (pc' := 101) 55 1 rfl rfl rfl rfl ?_
    refine v_getR (t := (p1 + 1)) (pc' := 104) 56 rfl rfl pf_X1_40 (bn0l hp1) (lay_lt (bn0l hp1) (by decide)) (rt_bn_0 hp1) ?_
    refine v_iload_n (pc' := 105) 57 3 rfl rfl rfl rfl ?_
    refine v_iload (pc' := 107) 58 4 rfl rfl rfl ?_
    refine v_iload (pc' := 109) 59 5 rfl rfl rfl ?_
    refine v_cV (Y2 := Y_X2_addGate) (As := [.int v3, .int v4, .int v5]) (b := (p1 + 1)) (pc' := 112) (c1 := 0) (s1 := 0) 60 rfl rfl mf_X2_addGate rfl rfl ml_X1_125 mi_X2_addGate se_X2_addGate (ci := 1) rfl (bn1l hp1) (lay_lt (bn1l hp1) (by decide)) rfl (Nat.le_of_ble_eq_true rfl) ⟨Nat.le_of_ble_eq_true rfl, Nat.le_of_ble_eq_true rfl⟩ rfl rfl (ok_X2_addGate (p1 + 1) v3 v4 v5 I698 L (bn_ck hp1) h) ?_ ?_
    · intro e9 u9 hx9
      exact hx9.elim
    intro v9 u9 hv9
    obtain ⟨I700, rfl, rfl, h⟩ := hv9
    refine ⟨fun q => absurd q (Nat.lt_irrefl _), ?_⟩
    show V G Y_X1_readGate 112 _ _ _ _ _ _ _
    exact v_vret 61 rfl rfl (by decide) (by decide) ⟨_, rfl, rfl, h⟩
  replace h := h.2 hc
  refine v_aload_n (pc' := 52) 31 0 rfl rfl rfl rfl ?_
  refine v_iconst (v := 1) (pc' := 53) 32 rfl rfl (by decide) ?_
  refine v_bipush (v := 9) (pc' := 55) 33 rfl rfl (by decide) ?_
  refine v_cV (Y2 := Y_X7_takeNumber) (As := [.int 1, .int 9]) (b := 344) (pc' := 58) (c1 := 0) (s1 := 0) 34 rfl rfl mf_X7_takeNumber rfl rfl ml_X1_46 mi_X7_takeNumber se_X7_takeNumber (ci := 6) rfl ly_344 (lay_lt ly_344 (by decide)) rfl (Nat.le_of_ble_eq_true rfl) ⟨Nat.le_of_ble_eq_true rfl, Nat.le_of_ble_eq_true rfl⟩ rfl rfl (ok_X7_takeNumber (1 : Int32) (9 : Int32) I L t ht h) ?_ ?_
  · intro e9 u9 hx9
    exact hx9.elim
  intro v9 u9 hv9
  obtain ⟨r701, I702, rfl, rfl, h⟩ := hv9
  refine ⟨fun q => absurd q (Nat.lt_irrefl _), ?_⟩
  show V G Y_X1_readGate 58 _ (.int r701 :: _) _ _ _ _ _
  refine v_istore (ls' := [(7, .int r701), (0, .ref 344), (1, .ref p1), (2, .int v2), (3, .int v3), (4, .int v4), (5, .int v5), (6, .int v6)]) (pc' := 60) 35 rfl rfl (by decide) rfl ?_
  refine v_aload_n (pc' := 61) 36 1 rfl rfl rfl rfl ?_
  refine v_cV (Y2 := Y_X7_failed) (As := []) (b := 344) (pc' := 64) (c1 := 0) (s1 := 0) 37 rfl rfl mf_X7_failed rfl rfl ml_X1_118 mi_X7_failed se_X7_failed (ci := 6) rfl ly_344 (lay_lt ly_344 (by decide)) rfl (Nat.le_of_ble_eq_true rfl) ⟨Nat.le_of_ble_eq_true rfl, Nat.le_of_ble_eq_true rfl⟩ rfl rfl (ok_X7_failed I702 L h) ?_ ?_
  · intro e9 u9 hx9
    exact hx9.elim
  intro v9 u9 hv9
  obtain ⟨r703, rfl, rfl, h⟩ := hv9
  refine ⟨fun q => absurd q (Nat.lt_irrefl _), ?_⟩
  show V G Y_X1_readGate 64 _ (.int r703 :: _) _ _ _ _ _
  refine v_if_ne (tgt := 81) (pc' := 67) 38 rfl rfl (by decide) (fun hc => ?_) (fun hc => ?_)
  · replace h := h.1 hc
    refine V.sub [1, 2, 3, 4, 5, 6, 7] rfl ?_
    exact b_X1_readGate_81 p1 v2 v3 v4 v5 v6 I702 L t hp1 ht Q R45 hR45 h
  replace h := h.2 hc
  refine v_aload_n (pc' := 68) 39 2 rfl rfl rfl rfl ?_
  refine v_getR (t := (p1 + 6)) (pc' := 71) 40 rfl rfl pf_X1_56 (bn0l hp1) (lay_lt (bn0l hp1) (by decide)) (rt_bn_1 hp1) ?_
  refine v_getR (t := (p1 + 7)) (pc' := 74) 41 rfl rfl pf_X1_121 (bn6l hp1) (lay_lt (bn6l hp1) (by decide)) (rt_st_0 (bn_st hp1)) ?_
  refine v_iload (pc' := 76) 42 7 rfl rfl rfl ?_
  obtain ⟨hi704, h⟩ := h
  refine v_aald6 (i := v6) (r := ((p1 + 8) + v6.toNatClampNeg)) (j := v6.toNatClampNeg) (pc' := 77) 43 rfl rfl (bn7l hp1) (bn7n hp1) (lay_lt (bn7l hp1) (by decide)) hi704 rfl (rt_row (bn_st hp1) (vp_nat hi704)) ?_
  refine v_iload_n (pc' := 78) 44 3 rfl rfl rfl rfl ?_
  refine v_iload (pc' := 80) 45 0 rfl rfl rfl ?_
  obtain ⟨hi705, h⟩ := h
  refine v_iast (i := v2) (j := v2.toNatClampNeg) (pc' := 81) 46 rfl rfl (st_rowl (bn_st hp1) (vp_nat hi704)) (st_rown (bn_st hp1) (vp_nat hi704)) (lay_lt (st_rowl (bn_st hp1) (vp_nat hi704)) (by decide)) hi705 rfl ?_
  refine nm_M (e := (up2 I702 ((p1 + 8) + v6.toNatClampNeg) (v2.toNatClampNeg) r701)) (fun I706 hI706 => ?_)
  replace h := h I706 hI706
  refine V.sub [1, 2, 3, 4, 5, 6, 7] rfl ?_
  exact b_X1_readGate_81 p1 v2 v3 v4 v5 v6 I706 L t hp1 ht Q R45 hR45 h
theorem l_X1_readGate_45 {G : GT} {b d : Nat} (p1 : Nat) (v2 : Int32) (v3 : Int32) (v4 : Int32) (v5 : Int32) (L : TL) (t : Nat) (hp1 : bnOK p1) (ht : txOK t) (Q : TI → Prop)  : ∀ (n9 : Nat) (v6 : Int32) (I : TI), L_X1_readGate_45 p1 v2 v3 v4 v5 L t Q n9 v6 I → V G Y_X1_readGate 45 [(0, .ref 344), (1, .ref p1), (2, .int v2), (3, .int v3), (4, .int v4), (5, .int v5), (6, .int v6)] [] (I, L, RT b d t, 457) 0 0 (fun v9 u9 => ∃ (I9 : TI), v9 = none ∧ u9 = (I9, L, RT b d t, 457) ∧ Q I9) (fun _ _ => False)
  | 0, _, _, h => h.elim
  | n9 + 1, v6, I, h => d_X1_readGate_45 p1 v2 v3 v4 v5 L t hp1 ht Q _ (l_X1_readGate_45 p1 v2 v3 v4 v5 L t hp1 ht Q n9) v6 I h
def B_X1_readGate_40 (p1 : Nat) (v2 : Int32) (v3 : Int32) (v4 : Int32) (s0 : Int32) (I : TI) (L : TL) (t : Nat) (Q : TI → Prop) : Prop :=
  ∃ n707, L_X1_readGate_45 p1 v2 v3 v4 s0 L t Q n707 (0 : Int32) I
set_option maxHeartbeats 4000000 in
set_option maxRecDepth 100000 in
theorem b_X1_readGate_40 {G : GT} {b d : Nat} (p1 : Nat) (v2 : Int32) (v3 : Int32) (v4 : Int32) (s0 : Int32) (I : TI) (L : TL) (t : Nat) (hp1 : bnOK p1) (ht : txOK t) (Q : TI → Prop)  (h : B_X1_readGate_40 p1 v2 v3 v4 s0 I L t Q) : V G Y_X1_readGate 40 [(0, .ref 344), (1, .ref p1), (2, .int v2), (3, .int v3), (4, .int v4)] [.int s0] (I, L, RT b d t, 457) 0 0 (fun v9 u9 => ∃ (I9 : TI), v9 = none ∧ u9 = (I9, L, RT b d t, 457) ∧ Q I9) (fun _ _ => False) := by
  unfold B_X1_readGate_40 at h
  refine v_istore (ls' := [(5, .int s0), (0, .ref 344), (1, .ref p1), (2, .int v2), (3, .int v3), (4, .int v4)]) (pc' := 42) 25 rfl rfl (by decide) rfl ?_
  refine v_iconst (v := 0) (pc' := 43) 26 rfl rfl (by decide) ?_
  refine v_istore (ls' := [(6, .int 0), (5, .int s0), (0, .ref 344), (1, .ref p1), (2, .int v2), (3, .int v3), (4, .int v4)]) (pc' := 45) 27 rfl rfl (by decide) rfl ?_
  refine V.sub [2, 3, 4, 5, 6, 1, 0] rfl ?_
  obtain ⟨n707, h⟩ := h
  exact l_X1_readGate_45 p1 v2 v3 v4 s0 L t hp1 ht Q n707 (0 : Int32) I h
def W_X1_readGate (p1 : Nat) (I : TI) (L : TL) (t : Nat) (Q : TI → Prop) : Prop :=
  W_X2_nets (p1 + 1) I L (fun (r708 : Int32) => W_X1_readKind I L t (fun (r709 : Int32) (I710 : TI) => W_X7_takeNumber (0 : Int32) (r708 - 1) I710 L t (fun (r711 : Int32) (I712 : TI) => (5 ≤ r709 → B_X1_readGate_40 p1 r708 r709 r711 ((-1) : Int32) I712 L t Q) ∧ (¬ 5 ≤ r709 → W_X7_takeNumber (0 : Int32) (r708 - 1) I712 L t (fun (r713 : Int32) (I714 : TI) => B_X1_readGate_40 p1 r708 r709 r711 r713 I714 L t Q)))))
set_option maxHeartbeats 4000000 in
set_option maxRecDepth 100000 in
theorem ok_X1_readGate {G : GT} {b d : Nat} (p1 : Nat) (I : TI) (L : TL) (t : Nat) (hp1 : bnOK p1) (ht : txOK t) {Q : TI → Prop} (h : W_X1_readGate p1 I L t Q) : MW G Y_X1_readGate [.ref 344, .ref p1] (I, L, RT b d t, 457) (fun v9 u9 => ∃ (I9 : TI), v9 = none ∧ u9 = (I9, L, RT b d t, 457) ∧ Q I9) (fun _ _ => False) := by
  unfold W_X1_readGate at h
  refine MW.intro rfl (by decide) is_X1_readGate (Nat.le_of_ble_eq_true rfl) ?_
  show V G Y_X1_readGate 0 [(0, .ref 344), (1, .ref p1)] [] (I, L, RT b d t, 457) 0 0 _ _
  refine v_aload_n (pc' := 1) 0 1 rfl rfl rfl rfl ?_
  refine v_getR (t := (p1 + 1)) (pc' := 4) 1 rfl rfl pf_X1_40 (bn0l hp1) (lay_lt (bn0l hp1) (by decide)) (rt_bn_0 hp1) ?_
  refine v_cV (Y2 := Y_X2_nets) (As := []) (b := (p1 + 1)) (pc' := 7) (c1 := 0) (s1 := 0) 2 rfl rfl mf_X2_nets rfl rfl ml_X1_110 mi_X2_nets se_X2_nets (ci := 1) rfl (bn1l hp1) (lay_lt (bn1l hp1) (by decide)) rfl (Nat.le_of_ble_eq_true rfl) ⟨Nat.le_of_ble_eq_true rfl, Nat.le_of_ble_eq_true rfl⟩ rfl rfl (ok_X2_nets (p1 + 1) I L (bn_ck hp1) h) ?_ ?_
  · intro e9 u9 hx9
    exact hx9.elim
  intro v9 u9 hv9
  obtain ⟨r708, rfl, rfl, h⟩ := hv9
  refine ⟨fun q => absurd q (Nat.lt_irrefl _), ?_⟩
  show V G Y_X1_readGate 7 _ (.int r708 :: _) _ _ _ _ _
  refine v_istore_n (ls' := [(2, .int r708), (0, .ref 344), (1, .ref p1)]) (pc' := 8) 3 rfl rfl rfl (by decide) rfl ?_
  refine v_aload_n (pc' := 9) 4 1 rfl rfl rfl rfl ?_
  refine v_cS (Y2 := Y_X1_readKind) (As := [.ref 344]) (pc' := 12) (c1 := 0) (s1 := 0) 5 rfl rfl mf_X1_readKind rfl rfl ml_X1_114 ms_X1_readKind rfl (Nat.le_of_ble_eq_true rfl) ⟨Nat.le_of_ble_eq_true rfl, Nat.le_of_ble_eq_true rfl⟩ rfl rfl (ok_X1_readKind I L t ht h) ?_ ?_
  · intro e9 u9 hx9
    exact hx9.elim
  intro v9 u9 hv9
  obtain ⟨r709, I710, rfl, rfl, h⟩ := hv9
  refine ⟨fun q => absurd q (Nat.lt_irrefl _), ?_⟩
  show V G Y_X1_readGate 12 _ (.int r709 :: _) _ _ _ _ _
  refine v_istore_n (ls' := [(3, .int r709), (2, .int r708), (0, .ref 344), (1, .ref p1)]) (pc' := 13) 6 rfl rfl rfl (by decide) rfl ?_
  refine v_aload_n (pc' := 14) 7 2 rfl rfl rfl rfl ?_
  refine v_iconst (v := 0) (pc' := 15) 8 rfl rfl (by decide) ?_
  refine v_iload_n (pc' := 16) 9 1 rfl rfl rfl rfl ?_
  refine v_iconst (v := 1) (pc' := 17) 10 rfl rfl (by decide) ?_
  refine v_isub (pc' := 18) 11 rfl rfl ?_
  refine v_cV (Y2 := Y_X7_takeNumber) (As := [.int 0, .int (r708 - 1)]) (b := 344) (pc' := 21) (c1 := 0) (s1 := 0) 12 rfl rfl mf_X7_takeNumber rfl rfl ml_X1_46 mi_X7_takeNumber se_X7_takeNumber (ci := 6) rfl ly_344 (lay_lt ly_344 (by decide)) rfl (Nat.le_of_ble_eq_true rfl) ⟨Nat.le_of_ble_eq_true rfl, Nat.le_of_ble_eq_true rfl⟩ rfl rfl (ok_X7_takeNumber (0 : Int32) (r708 - 1) I710 L t ht h) ?_ ?_
  · intro e9 u9 hx9
    exact hx9.elim
  intro v9 u9 hv9
  obtain ⟨r711, I712, rfl, rfl, h⟩ := hv9
  refine ⟨fun q => absurd q (Nat.lt_irrefl _), ?_⟩
  show V G Y_X1_readGate 21 _ (.int r711 :: _) _ _ _ _ _
  refine v_istore (ls' := [(4, .int r711), (3, .int r709), (2, .int r708), (0, .ref 344), (1, .ref p1)]) (pc' := 23) 13 rfl rfl (by decide) rfl ?_
  refine v_iload_n (pc' := 24) 14 1 rfl rfl rfl rfl ?_
  refine v_iconst (v := 5) (pc' := 25) 15 rfl rfl (by decide) ?_
  refine v_icmp_ge (tgt := 39) (pc' := 28) 16 rfl rfl (by decide) (fun hc => ?_) (fun hc => ?_)
  · replace h := h.1 hc
    refine v_iconst (v := -1) (pc' := 40) 24 rfl rfl (by decide) ?_
    refine V.sub [3, 4, 2, 1, 0] rfl ?_
    exact b_X1_readGate_40 p1 r708 r709 r711 ((-1) : Int32) I712 L t hp1 ht Q h
  replace h := h.2 hc
  refine v_aload_n (pc' := 29) 17 3 rfl rfl rfl rfl ?_
  refine v_iconst (v := 0) (pc' := 30) 18 rfl rfl (by decide) ?_
  refine v_iload_n (pc' := 31) 19 2 rfl rfl rfl rfl ?_
  refine v_iconst (v := 1) (pc' := 32) 20 rfl rfl (by decide) ?_
  refine v_isub (pc' := 33) 21 rfl rfl ?_
  refine v_cV (Y2 := Y_X7_takeNumber) (As := [.int 0, .int (r708 - 1)]) (b := 344) (pc' := 36) (c1 := 0) (s1 := 0) 22 rfl rfl mf_X7_takeNumber rfl rfl ml_X1_46 mi_X7_takeNumber se_X7_takeNumber (ci := 6) rfl ly_344 (lay_lt ly_344 (by decide)) rfl (Nat.le_of_ble_eq_true rfl) ⟨Nat.le_of_ble_eq_true rfl, Nat.le_of_ble_eq_true rfl⟩ rfl rfl (ok_X7_takeNumber (0 : Int32) (r708 - 1) I712 L t ht h) ?_ ?_
  · intro e9 u9 hx9
    exact hx9.elim
  intro v9 u9 hv9
  obtain ⟨r713, I714, rfl, rfl, h⟩ := hv9
  refine ⟨fun q => absurd q (Nat.lt_irrefl _), ?_⟩
  show V G Y_X1_readGate 36 _ (.int r713 :: _) _ _ _ _ _
  refine v_goto (tgt := 40) 23 rfl (by decide) ?_
  refine V.sub [3, 4, 2, 1, 0] rfl ?_
  exact b_X1_readGate_40 p1 r708 r709 r711 r713 I714 L t hp1 ht Q h
def B_X1_readGates_40 (p1 : Nat) (v2 : Int32) (I : TI) (L : TL) (t : Nat) (Q : TI → Prop) (R2 : Int32 → TI → Prop) : Prop :=
  R2 (v2 + 1) I
set_option maxHeartbeats 4000000 in
set_option maxRecDepth 100000 in
theorem b_X1_readGates_40 {G : GT} {b d : Nat} (p1 : Nat) (v2 : Int32) (I : TI) (L : TL) (t : Nat) (hp1 : bnOK p1) (ht : txOK t) (Q : TI → Prop) (R2 : Int32 → TI → Prop) (hR2 : ∀ (v2 : Int32) (I : TI), R2 v2 I → V G Y_X1_readGates 2 [(0, .ref 344), (1, .ref p1), (2, .int v2)] [] (I, L, RT b d t, 457) 0 0 (fun v9 u9 => ∃ (I9 : TI), v9 = none ∧ u9 = (I9, L, RT b d t, 457) ∧ Q I9) (fun _ _ => False)) (h : B_X1_readGates_40 p1 v2 I L t Q R2) : V G Y_X1_readGates 40 [(0, .ref 344), (1, .ref p1), (2, .int v2)] [] (I, L, RT b d t, 457) 0 0 (fun v9 u9 => ∃ (I9 : TI), v9 = none ∧ u9 = (I9, L, RT b d t, 457) ∧ Q I9) (fun _ _ => False) := by
  unfold B_X1_readGates_40 at h
  refine v_iinc (v := (v2 + 1)) (ls' := [(2, .int (v2 + 1)), (0, .ref 344), (1, .ref p1)]) (pc' := 43) 21 2 rfl rfl rfl rfl (by decide) rfl ?_
  refine v_goto (tgt := 2) 22 rfl (by decide) ?_
  refine V.sub [1, 2, 0] rfl ?_
  exact hR2 (v2 + 1) I h
def D_X1_readGates_2 (p1 : Nat) (L : TL) (t : Nat) (Q : TI → Prop) (R2 : Int32 → TI → Prop) (v2 : Int32) (I : TI) : Prop :=
  (12 < v2 → Q I) ∧ (¬ 12 < v2 → W_X7_isWord 461 I L t (fun (r723 : Int32) => (r723 = 0 → Q I) ∧ (¬ r723 = 0 → (¬ v2 = 12 → W_X7_advance I L t (fun (I724 : TI) => W_X1_readGate p1 I724 L t (fun (I725 : TI) => B_X1_readGates_40 p1 v2 I725 L t Q R2))) ∧ (v2 = 12 → W_X7_fail (3 : Int32) I L (fun (I726 : TI) => B_X1_readGates_40 p1 v2 I726 L t Q R2)))))
def L_X1_readGates_2 (p1 : Nat) (L : TL) (t : Nat) (Q : TI → Prop) : Nat → Int32 → TI → Prop
  | 0, _, _ => False
  | n9 + 1, v2, I => D_X1_readGates_2 p1 L t Q (fun v2 I => L_X1_readGates_2 p1 L t Q n9 v2 I) v2 I
set_option maxHeartbeats 4000000 in
set_option maxRecDepth 100000 in
theorem d_X1_readGates_2 {G : GT} {b d : Nat} (p1 : Nat) (L : TL) (t : Nat) (hp1 : bnOK p1) (ht : txOK t) (Q : TI → Prop) (R2 : Int32 → TI → Prop)  (hR2 : ∀ (v2 : Int32) (I : TI), R2 v2 I → V G Y_X1_readGates 2 [(0, .ref 344), (1, .ref p1), (2, .int v2)] [] (I, L, RT b d t, 457) 0 0 (fun v9 u9 => ∃ (I9 : TI), v9 = none ∧ u9 = (I9, L, RT b d t, 457) ∧ Q I9) (fun _ _ => False)) (v2 : Int32) (I : TI)  (h : D_X1_readGates_2 p1 L t Q R2 v2 I) : V G Y_X1_readGates 2 [(0, .ref 344), (1, .ref p1), (2, .int v2)] [] (I, L, RT b d t, 457) 0 0 (fun v9 u9 => ∃ (I9 : TI), v9 = none ∧ u9 = (I9, L, RT b d t, 457) ∧ Q I9) (fun _ _ => False) := by
  unfold D_X1_readGates_2 at h
  refine v_iload_n (pc' := 3) 2 2 rfl rfl rfl rfl ?_
  refine v_bipush (v := 12) (pc' := 5) 3 rfl rfl (by decide) ?_
  refine v_icmp_gt (tgt := 46) (pc' := 8) 4 rfl rfl (by decide) (fun hc => ?_) (fun hc => ?_)
  · replace h := h.1 hc
    exact v_vret 23 rfl rfl (by decide) (by decide) ⟨_, rfl, rfl, h⟩
  replace h := h.2 hc
  refine v_aload_n (pc' := 9) 5 0 rfl rfl rfl rfl ?_
  refine v_ldcS (pc' := 11) 6 rfl rfl sr_X1_105 ?_
  refine v_cV (Y2 := Y_X7_isWord) (As := [.ref 461]) (b := 344) (pc' := 14) (c1 := 0) (s1 := 0) 7 rfl rfl mf_X7_isWord rfl rfl ml_X1_77 mi_X7_isWord se_X7_isWord (ci := 6) rfl ly_344 (lay_lt ly_344 (by decide)) rfl (Nat.le_of_ble_eq_true rfl) ⟨Nat.le_of_ble_eq_true rfl, Nat.le_of_ble_eq_true rfl⟩ rfl rfl (ok_X7_isWord 461 I L t ht h) ?_ ?_
  · intro e9 u9 hx9
    exact hx9.elim
  intro v9 u9 hv9
  obtain ⟨r723, rfl, rfl, h⟩ := hv9
  refine ⟨fun q => absurd q (Nat.lt_irrefl _), ?_⟩
  show V G Y_X1_readGates 14 _ (.int r723 :: _) _ _ _ _ _
  refine v_if_eq (tgt := 46) (pc' := 17) 8 rfl rfl (by decide) (fun hc => ?_) (fun hc => ?_)
  · replace h := h.1 hc
    exact v_vret 23 rfl rfl (by decide) (by decide) ⟨_, rfl, rfl, h⟩
  replace h := h.2 hc
  refine v_iload_n (pc' := 18) 9 2 rfl rfl rfl rfl ?_
  refine v_bipush (v := 12) (pc' := 20) 10 rfl rfl (by decide) ?_
  refine v_icmp_ne (tgt := 31) (pc' := 23) 11 rfl rfl (by decide) (fun hc => ?_) (fun hc => ?_)
  · replace h := h.1 hc
    refine v_aload_n (pc' := 32) 16 0 rfl rfl rfl rfl ?_
    refine v_cV (Y2 := Y_X7_advance) (As := []) (b := 344) (pc' := 35) (c1 := 0) (s1 := 0) 17 rfl rfl mf_X7_advance rfl rfl ml_X1_81 mi_X7_advance se_X7_advance (ci := 6) rfl ly_344 (lay_lt ly_344 (by decide)) rfl (Nat.le_of_ble_eq_true rfl) ⟨Nat.le_of_ble_eq_true rfl, Nat.le_of_ble_eq_true rfl⟩ rfl rfl (ok_X7_advance I L t ht h) ?_ ?_
    · intro e9 u9 hx9
      exact hx9.elim
    intro v9 u9 hv9
    obtain ⟨I724, rfl, rfl, h⟩ := hv9
    refine ⟨fun q => absurd q (Nat.lt_irrefl _), ?_⟩
    show V G Y_X1_readGates 35 _ _ _ _ _ _ _
    refine v_aload_n (pc' := 36) 18 0 rfl rfl rfl rfl ?_
    refine v_aload_n (pc' := 37) 19 1 rfl rfl rfl rfl ?_
    refine v_cS (Y2 := Y_X1_readGate) (As := [.ref 344, .ref p1]) (pc' := 40) (c1 := 0) (s1 := 0) 20 rfl rfl mf_X1_readGate rfl rfl ml_X1_107 ms_X1_readGate rfl (Nat.le_of_ble_eq_true rfl) ⟨Nat.le_of_ble_eq_true rfl, Nat.le_of_ble_eq_true rfl⟩ rfl rfl (ok_X1_readGate p1 I724 L t hp1 ht h) ?_ ?_
    · intro e9 u9 hx9
      exact hx9.elim
    intro v9 u9 hv9
    obtain ⟨I725, rfl, rfl, h⟩ := hv9
    refine ⟨fun q => absurd q (Nat.lt_irrefl _), ?_⟩
    show V G Y_X1_readGates 40 _ _ _ _ _ _ _
    exact b_X1_readGates_40 p1 v2 I725 L t hp1 ht Q R2 hR2 h
  replace h := h.2 hc
  refine v_aload_n (pc' := 24) 12 0 rfl rfl rfl rfl ?_
  refine v_iconst (v := 3) (pc' := 25) 13 rfl rfl (by decide) ?_
  refine v_cV (Y2 := Y_X7_fail) (As := [.int 3]) (b := 344) (pc' := 28) (c1 := 0) (s1 := 0) 14 rfl rfl mf_X7_fail rfl rfl ml_X1_30 mi_X7_fail se_X7_fail (ci := 6) rfl ly_344 (lay_lt ly_344 (by decide)) rfl (Nat.le_of_ble_eq_true rfl) ⟨Nat.le_of_ble_eq_true rfl, Nat.le_of_ble_eq_true rfl⟩ rfl rfl (ok_X7_fail (3 : Int32) I L h) ?_ ?_
  · intro e9 u9 hx9
    exact hx9.elim
  intro v9 u9 hv9
  obtain ⟨I726, rfl, rfl, h⟩ := hv9
  refine ⟨fun q => absurd q (Nat.lt_irrefl _), ?_⟩
  show V G Y_X1_readGates 28 _ _ _ _ _ _ _
  refine v_goto (tgt := 40) 15 rfl (by decide) ?_
  exact b_X1_readGates_40 p1 v2 I726 L t hp1 ht Q R2 hR2 h
theorem l_X1_readGates_2 {G : GT} {b d : Nat} (p1 : Nat) (L : TL) (t : Nat) (hp1 : bnOK p1) (ht : txOK t) (Q : TI → Prop)  : ∀ (n9 : Nat) (v2 : Int32) (I : TI), L_X1_readGates_2 p1 L t Q n9 v2 I → V G Y_X1_readGates 2 [(0, .ref 344), (1, .ref p1), (2, .int v2)] [] (I, L, RT b d t, 457) 0 0 (fun v9 u9 => ∃ (I9 : TI), v9 = none ∧ u9 = (I9, L, RT b d t, 457) ∧ Q I9) (fun _ _ => False)
  | 0, _, _, h => h.elim
  | n9 + 1, v2, I, h => d_X1_readGates_2 p1 L t hp1 ht Q _ (l_X1_readGates_2 p1 L t hp1 ht Q n9) v2 I h
def W_X1_readGates (p1 : Nat) (I : TI) (L : TL) (t : Nat) (Q : TI → Prop) : Prop :=
  ∃ n727, L_X1_readGates_2 p1 L t Q n727 (0 : Int32) I
set_option maxHeartbeats 4000000 in
set_option maxRecDepth 100000 in
theorem ok_X1_readGates {G : GT} {b d : Nat} (p1 : Nat) (I : TI) (L : TL) (t : Nat) (hp1 : bnOK p1) (ht : txOK t) {Q : TI → Prop} (h : W_X1_readGates p1 I L t Q) : MW G Y_X1_readGates [.ref 344, .ref p1] (I, L, RT b d t, 457) (fun v9 u9 => ∃ (I9 : TI), v9 = none ∧ u9 = (I9, L, RT b d t, 457) ∧ Q I9) (fun _ _ => False) := by
  unfold W_X1_readGates at h
  refine MW.intro rfl (by decide) is_X1_readGates (Nat.le_of_ble_eq_true rfl) ?_
  show V G Y_X1_readGates 0 [(0, .ref 344), (1, .ref p1)] [] (I, L, RT b d t, 457) 0 0 _ _
  refine v_iconst (v := 0) (pc' := 1) 0 rfl rfl (by decide) ?_
  refine v_istore_n (ls' := [(2, .int 0), (0, .ref 344), (1, .ref p1)]) (pc' := 2) 1 rfl rfl rfl (by decide) rfl ?_
  refine V.sub [1, 2, 0] rfl ?_
  obtain ⟨n727, h⟩ := h
  exact l_X1_readGates_2 p1 L t hp1 ht Q n727 (0 : Int32) I h
def D_X1_readPurses_15 (p1 : Nat) (L : TL) (t : Nat) (Q : TI → Prop) (R15 : Int32 → TI → Prop) (v2 : Int32) (I : TI) : Prop :=
  (3 ≤ v2 → W_X7_takeSign (59 : Int32) I L t (fun (I740 : TI) => Q I740)) ∧ (¬ 3 ≤ v2 → W_X7_takeNumber (0 : Int32) (99999 : Int32) I L t (fun (r741 : Int32) (I742 : TI) => vp_in v2 3 ∧ (R15 (v2 + 1) (up2 I742 (p1 + 15) (v2.toNatClampNeg) r741))))
def L_X1_readPurses_15 (p1 : Nat) (L : TL) (t : Nat) (Q : TI → Prop) : Nat → Int32 → TI → Prop
  | 0, _, _ => False
  | n9 + 1, v2, I => D_X1_readPurses_15 p1 L t Q (fun v2 I => L_X1_readPurses_15 p1 L t Q n9 v2 I) v2 I
set_option maxHeartbeats 4000000 in
set_option maxRecDepth 100000 in
theorem d_X1_readPurses_15 {G : GT} {b d : Nat} (p1 : Nat) (L : TL) (t : Nat) (hp1 : bnOK p1) (ht : txOK t) (Q : TI → Prop) (R15 : Int32 → TI → Prop)  (hR15 : ∀ (v2 : Int32) (I : TI), R15 v2 I → V G Y_X1_readPurses 15 [(0, .ref 344), (1, .ref p1), (2, .int v2)] [] (I, L, RT b d t, 457) 0 0 (fun v9 u9 => ∃ (I9 : TI), v9 = none ∧ u9 = (I9, L, RT b d t, 457) ∧ Q I9) (fun _ _ => False)) (v2 : Int32) (I : TI)  (h : D_X1_readPurses_15 p1 L t Q R15 v2 I) : V G Y_X1_readPurses 15 [(0, .ref 344), (1, .ref p1), (2, .int v2)] [] (I, L, RT b d t, 457) 0 0 (fun v9 u9 => ∃ (I9 : TI), v9 = none ∧ u9 = (I9, L, RT b d t, 457) ∧ Q I9) (fun _ _ => False) := by
  unfold D_X1_readPurses_15 at h
  refine v_iload_n (pc' := 16) 8 2 rfl rfl rfl rfl ?_
  refine v_iconst (v := 3) (pc' := 17) 9 rfl rfl (by decide) ?_
  refine v_icmp_ge (tgt := 42) (pc' := 20) 10 rfl rfl (by decide) (fun hc => ?_) (fun hc => ?_)
  · replace h := h.1 hc
    refine v_aload_n (pc' := 43) 22 0 rfl rfl rfl rfl ?_
    refine v_bipush (v := 59) (pc' := 45) 23 rfl rfl (by decide) ?_
    refine v_cV (Y2 := Y_X7_takeSign) (As := [.int 59]) (b := 344) (pc' := 48) (c1 := 0) (s1 := 0) 24 rfl rfl mf_X7_takeSign rfl rfl ml_X1_71 mi_X7_takeSign se_X7_takeSign (ci := 6) rfl ly_344 (lay_lt ly_344 (by decide)) rfl (Nat.le_of_ble_eq_true rfl) ⟨Nat.le_of_ble_eq_true rfl, Nat.le_of_ble_eq_true rfl⟩ rfl rfl (ok_X7_takeSign (59 : Int32) I L t ht h) ?_ ?_
    · intro e9 u9 hx9
      exact hx9.elim
    intro v9 u9 hv9
    obtain ⟨I740, rfl, rfl, h⟩ := hv9
    refine ⟨fun q => absurd q (Nat.lt_irrefl _), ?_⟩
    show V G Y_X1_readPurses 48 _ _ _ _ _ _ _
    exact v_vret 25 rfl rfl (by decide) (by decide) ⟨_, rfl, rfl, h⟩
  replace h := h.2 hc
  refine v_aload_n (pc' := 21) 11 1 rfl rfl rfl rfl ?_
  refine v_getR (t := (p1 + 6)) (pc' := 24) 12 rfl rfl pf_X1_56 (bn0l hp1) (lay_lt (bn0l hp1) (by decide)) (rt_bn_1 hp1) ?_
  refine v_getR (t := (p1 + 15)) (pc' := 27) 13 rfl rfl pf_X1_135 (bn6l hp1) (lay_lt (bn6l hp1) (by decide)) (rt_st_5 (bn_st hp1)) ?_
  refine v_iload_n (pc' := 28) 14 2 rfl rfl rfl rfl ?_
  refine v_aload_n (pc' := 29) 15 0 rfl rfl rfl rfl ?_
  refine v_iconst (v := 0) (pc' := 30) 16 rfl rfl (by decide) ?_
  refine v_ldc (v := 99999) (pc' := 32) 17 rfl rfl ki_X1_138 ?_
  refine v_cV (Y2 := Y_X7_takeNumber) (As := [.int 0, .int 99999]) (b := 344) (pc' := 35) (c1 := 0) (s1 := 0) 18 rfl rfl mf_X7_takeNumber rfl rfl ml_X1_46 mi_X7_takeNumber se_X7_takeNumber (ci := 6) rfl ly_344 (lay_lt ly_344 (by decide)) rfl (Nat.le_of_ble_eq_true rfl) ⟨Nat.le_of_ble_eq_true rfl, Nat.le_of_ble_eq_true rfl⟩ rfl rfl (ok_X7_takeNumber (0 : Int32) (99999 : Int32) I L t ht h) ?_ ?_
  · intro e9 u9 hx9
    exact hx9.elim
  intro v9 u9 hv9
  obtain ⟨r741, I742, rfl, rfl, h⟩ := hv9
  refine ⟨fun q => absurd q (Nat.lt_irrefl _), ?_⟩
  show V G Y_X1_readPurses 35 _ (.int r741 :: _) _ _ _ _ _
  obtain ⟨hi743, h⟩ := h
  refine v_iast (i := v2) (j := v2.toNatClampNeg) (pc' := 36) 19 rfl rfl (bn15l hp1) (bn15n hp1) (lay_lt (bn15l hp1) (by decide)) hi743 rfl ?_
  refine v_iinc (v := (v2 + 1)) (ls' := [(2, .int (v2 + 1)), (0, .ref 344), (1, .ref p1)]) (pc' := 39) 20 2 rfl rfl rfl rfl (by decide) rfl ?_
  refine v_goto (tgt := 15) 21 rfl (by decide) ?_
  refine V.sub [1, 2, 0] rfl ?_
  exact hR15 (v2 + 1) (up2 I742 (p1 + 15) (v2.toNatClampNeg) r741) h
theorem l_X1_readPurses_15 {G : GT} {b d : Nat} (p1 : Nat) (L : TL) (t : Nat) (hp1 : bnOK p1) (ht : txOK t) (Q : TI → Prop)  : ∀ (n9 : Nat) (v2 : Int32) (I : TI), L_X1_readPurses_15 p1 L t Q n9 v2 I → V G Y_X1_readPurses 15 [(0, .ref 344), (1, .ref p1), (2, .int v2)] [] (I, L, RT b d t, 457) 0 0 (fun v9 u9 => ∃ (I9 : TI), v9 = none ∧ u9 = (I9, L, RT b d t, 457) ∧ Q I9) (fun _ _ => False)
  | 0, _, _, h => h.elim
  | n9 + 1, v2, I, h => d_X1_readPurses_15 p1 L t hp1 ht Q _ (l_X1_readPurses_15 p1 L t hp1 ht Q n9) v2 I h
def W_X1_readPurses (p1 : Nat) (I : TI) (L : TL) (t : Nat) (Q : TI → Prop) : Prop :=
  W_X7_isWord 469 I L t (fun (r744 : Int32) => (r744 = 0 → Q I) ∧ (¬ r744 = 0 → W_X7_advance I L t (fun (I745 : TI) => ∃ n746, L_X1_readPurses_15 p1 L t Q n746 (0 : Int32) I745)))
set_option maxHeartbeats 4000000 in
set_option maxRecDepth 100000 in
theorem ok_X1_readPurses {G : GT} {b d : Nat} (p1 : Nat) (I : TI) (L : TL) (t : Nat) (hp1 : bnOK p1) (ht : txOK t) {Q : TI → Prop} (h : W_X1_readPurses p1 I L t Q) : MW G Y_X1_readPurses [.ref 344, .ref p1] (I, L, RT b d t, 457) (fun v9 u9 => ∃ (I9 : TI), v9 = none ∧ u9 = (I9, L, RT b d t, 457) ∧ Q I9) (fun _ _ => False) := by
  unfold W_X1_readPurses at h
  refine MW.intro rfl (by decide) is_X1_readPurses (Nat.le_of_ble_eq_true rfl) ?_
  show V G Y_X1_readPurses 0 [(0, .ref 344), (1, .ref p1)] [] (I, L, RT b d t, 457) 0 0 _ _
  refine v_aload_n (pc' := 1) 0 0 rfl rfl rfl rfl ?_
  refine v_ldcS (pc' := 3) 1 rfl rfl sr_X1_133 ?_
  refine v_cV (Y2 := Y_X7_isWord) (As := [.ref 469]) (b := 344) (pc' := 6) (c1 := 0) (s1 := 0) 2 rfl rfl mf_X7_isWord rfl rfl ml_X1_77 mi_X7_isWord se_X7_isWord (ci := 6) rfl ly_344 (lay_lt ly_344 (by decide)) rfl (Nat.le_of_ble_eq_true rfl) ⟨Nat.le_of_ble_eq_true rfl, Nat.le_of_ble_eq_true rfl⟩ rfl rfl (ok_X7_isWord 469 I L t ht h) ?_ ?_
  · intro e9 u9 hx9
    exact hx9.elim
  intro v9 u9 hv9
  obtain ⟨r744, rfl, rfl, h⟩ := hv9
  refine ⟨fun q => absurd q (Nat.lt_irrefl _), ?_⟩
  show V G Y_X1_readPurses 6 _ (.int r744 :: _) _ _ _ _ _
  refine v_if_eq (tgt := 48) (pc' := 9) 3 rfl rfl (by decide) (fun hc => ?_) (fun hc => ?_)
  · replace h := h.1 hc
    exact v_vret 25 rfl rfl (by decide) (by decide) ⟨_, rfl, rfl, h⟩
  replace h := h.2 hc
  refine v_aload_n (pc' := 10) 4 0 rfl rfl rfl rfl ?_
  refine v_cV (Y2 := Y_X7_advance) (As := []) (b := 344) (pc' := 13) (c1 := 0) (s1 := 0) 5 rfl rfl mf_X7_advance rfl rfl ml_X1_81 mi_X7_advance se_X7_advance (ci := 6) rfl ly_344 (lay_lt ly_344 (by decide)) rfl (Nat.le_of_ble_eq_true rfl) ⟨Nat.le_of_ble_eq_true rfl, Nat.le_of_ble_eq_true rfl⟩ rfl rfl (ok_X7_advance I L t ht h) ?_ ?_
  · intro e9 u9 hx9
    exact hx9.elim
  intro v9 u9 hv9
  obtain ⟨I745, rfl, rfl, h⟩ := hv9
  refine ⟨fun q => absurd q (Nat.lt_irrefl _), ?_⟩
  show V G Y_X1_readPurses 13 _ _ _ _ _ _ _
  refine v_iconst (v := 0) (pc' := 14) 6 rfl rfl (by decide) ?_
  refine v_istore_n (ls' := [(2, .int 0), (0, .ref 344), (1, .ref p1)]) (pc' := 15) 7 rfl rfl rfl (by decide) rfl ?_
  refine V.sub [1, 2, 0] rfl ?_
  obtain ⟨n746, h⟩ := h
  exact l_X1_readPurses_15 p1 L t hp1 ht Q n746 (0 : Int32) I745 h
def W_X7_isEnd (I : TI) (L : TL) (Q : Int32 → Prop) : Prop :=
  W_X7_failed I L (fun (r748 : Int32) => (¬ r748 = 0 → Q 0) ∧ (r748 = 0 → (¬ (I 344 4) = 0 → Q 0) ∧ ((I 344 4) = 0 → Q 1)))
set_option maxHeartbeats 4000000 in
set_option maxRecDepth 100000 in
theorem ok_X7_isEnd {G : GT} {b d t : Nat} (I : TI) (L : TL)  {Q : Int32 → Prop} (h : W_X7_isEnd I L Q) : MW G Y_X7_isEnd [.ref 344] (I, L, RT b d t, 457) (fun v9 u9 => ∃ (r9 : Int32), v9 = some (.int r9) ∧ u9 = (I, L, RT b d t, 457) ∧ Q r9) (fun _ _ => False) := by
  unfold W_X7_isEnd at h
  refine MW.intro rfl (by decide) is_X7_isEnd (Nat.le_of_ble_eq_true rfl) ?_
  show V G Y_X7_isEnd 0 [(0, .ref 344)] [] (I, L, RT b d t, 457) 0 0 _ _
  refine v_aload_n (pc' := 1) 0 0 rfl rfl rfl rfl ?_
  refine v_cV (Y2 := Y_X7_failed) (As := []) (b := 344) (pc' := 4) (c1 := 0) (s1 := 0) 1 rfl rfl mf_X7_failed rfl rfl ml_X7_46 mi_X7_failed se_X7_failed (ci := 6) rfl ly_344 (lay_lt ly_344 (by decide)) rfl (Nat.le_of_ble_eq_true rfl) ⟨Nat.le_of_ble_eq_true rfl, Nat.le_of_ble_eq_true rfl⟩ rfl rfl (ok_X7_failed I L h) ?_ ?_
  · intro e9 u9 hx9
    exact hx9.elim
  intro v9 u9 hv9
  obtain ⟨r748, rfl, rfl, h⟩ := hv9
  refine ⟨fun q => absurd q (Nat.lt_irrefl _), ?_⟩
  show V G Y_X7_isEnd 4 _ (.int r748 :: _) _ _ _ _ _
  refine v_if_ne (tgt := 18) (pc' := 7) 2 rfl rfl (by decide) (fun hc => ?_) (fun hc => ?_)
  · replace h := h.1 hc
    refine v_iconst (v := 0) (pc' := 19) 8 rfl rfl (by decide) ?_
    exact v_bret 9 rfl rfl (by decide) (by decide) (by decide) ⟨_, rfl, rfl, h⟩
  replace h := h.2 hc
  refine v_aload_n (pc' := 8) 3 0 rfl rfl rfl rfl ?_
  refine v_getI (pc' := 11) 4 rfl rfl pf_X7_25 ly_344 (lay_lt ly_344 (by decide)) ?_
  refine v_if_ne (tgt := 18) (pc' := 14) 5 rfl rfl (by decide) (fun hc => ?_) (fun hc => ?_)
  · replace h := h.1 hc
    refine v_iconst (v := 0) (pc' := 19) 8 rfl rfl (by decide) ?_
    exact v_bret 9 rfl rfl (by decide) (by decide) (by decide) ⟨_, rfl, rfl, h⟩
  replace h := h.2 hc
  refine v_iconst (v := 1) (pc' := 15) 6 rfl rfl (by decide) ?_
  refine v_goto (tgt := 19) 7 rfl (by decide) ?_
  exact v_bret 9 rfl rfl (by decide) (by decide) (by decide) ⟨_, rfl, rfl, h⟩
def W_X1_read (p1 : Nat) (I : TI) (L : TL) (t : Nat) (Q : TI → TL → Prop) : Prop :=
  W_X1_readHead p1 I L t (fun (I756 : TI) => W_X1_readInputs p1 I756 L t (fun (I757 : TI) (L758 : TL) => W_X1_readGates p1 I757 L758 t (fun (I759 : TI) => W_X1_readPurses p1 I759 L758 t (fun (I760 : TI) => W_X7_isEnd I760 L758 (fun (r761 : Int32) => (¬ r761 = 0 → Q I760 L758) ∧ (r761 = 0 → W_X7_fail (1 : Int32) I760 L758 (fun (I762 : TI) => Q I762 L758)))))))
set_option maxHeartbeats 4000000 in
set_option maxRecDepth 100000 in
theorem ok_X1_read {G : GT} {b d : Nat} (p1 : Nat) (I : TI) (L : TL) (t : Nat) (hp1 : bnOK p1) (ht : txOK t) {Q : TI → TL → Prop} (h : W_X1_read p1 I L t Q) : MW G Y_X1_read [.ref 344, .ref p1] (I, L, RT b d t, 457) (fun v9 u9 => ∃ (I9 : TI) (L9 : TL), v9 = none ∧ u9 = (I9, L9, RT b d t, 457) ∧ Q I9 L9) (fun _ _ => False) := by
  unfold W_X1_read at h
  refine MW.intro rfl (by decide) is_X1_read (Nat.le_of_ble_eq_true rfl) ?_
  show V G Y_X1_read 0 [(0, .ref 344), (1, .ref p1)] [] (I, L, RT b d t, 457) 0 0 _ _
  refine v_aload_n (pc' := 1) 0 0 rfl rfl rfl rfl ?_
  refine v_aload_n (pc' := 2) 1 1 rfl rfl rfl rfl ?_
  refine v_cS (Y2 := Y_X1_readHead) (As := [.ref 344, .ref p1]) (pc' := 5) (c1 := 0) (s1 := 0) 2 rfl rfl mf_X1_readHead rfl rfl ml_X1_9 ms_X1_readHead rfl (Nat.le_of_ble_eq_true rfl) ⟨Nat.le_of_ble_eq_true rfl, Nat.le_of_ble_eq_true rfl⟩ rfl rfl (ok_X1_readHead p1 I L t hp1 ht h) ?_ ?_
  · intro e9 u9 hx9
    exact hx9.elim
  intro v9 u9 hv9
  obtain ⟨I756, rfl, rfl, h⟩ := hv9
  refine ⟨fun q => absurd q (Nat.lt_irrefl _), ?_⟩
  show V G Y_X1_read 5 _ _ _ _ _ _ _
  refine v_aload_n (pc' := 6) 3 0 rfl rfl rfl rfl ?_
  refine v_aload_n (pc' := 7) 4 1 rfl rfl rfl rfl ?_
  refine v_cS (Y2 := Y_X1_readInputs) (As := [.ref 344, .ref p1]) (pc' := 10) (c1 := 0) (s1 := 0) 5 rfl rfl mf_X1_readInputs rfl rfl ml_X1_15 ms_X1_readInputs rfl (Nat.le_of_ble_eq_true rfl) ⟨Nat.le_of_ble_eq_true rfl, Nat.le_of_ble_eq_true rfl⟩ rfl rfl (ok_X1_readInputs p1 I756 L t hp1 ht h) ?_ ?_
  · intro e9 u9 hx9
    exact hx9.elim
  intro v9 u9 hv9
  obtain ⟨I757, L758, rfl, rfl, h⟩ := hv9
  refine ⟨fun q => absurd q (Nat.lt_irrefl _), ?_⟩
  show V G Y_X1_read 10 _ _ _ _ _ _ _
  refine v_aload_n (pc' := 11) 6 0 rfl rfl rfl rfl ?_
  refine v_aload_n (pc' := 12) 7 1 rfl rfl rfl rfl ?_
  refine v_cS (Y2 := Y_X1_readGates) (As := [.ref 344, .ref p1]) (pc' := 15) (c1 := 0) (s1 := 0) 8 rfl rfl mf_X1_readGates rfl rfl ml_X1_18 ms_X1_readGates rfl (Nat.le_of_ble_eq_true rfl) ⟨Nat.le_of_ble_eq_true rfl, Nat.le_of_ble_eq_true rfl⟩ rfl rfl (ok_X1_readGates p1 I757 L758 t hp1 ht h) ?_ ?_
  · intro e9 u9 hx9
    exact hx9.elim
  intro v9 u9 hv9
  obtain ⟨I759, rfl, rfl, h⟩ := hv9
  refine ⟨fun q => absurd q (Nat.lt_irrefl _), ?_⟩
  show V G Y_X1_read 15 _ _ _ _ _ _ _
  refine v_aload_n (pc' := 16) 9 0 rfl rfl rfl rfl ?_
  refine v_aload_n (pc' := 17) 10 1 rfl rfl rfl rfl ?_
  refine v_cS (Y2 := Y_X1_readPurses) (As := [.ref 344, .ref p1]) (pc' := 20) (c1 := 0) (s1 := 0) 11 rfl rfl mf_X1_readPurses rfl rfl ml_X1_21 ms_X1_readPurses rfl (Nat.le_of_ble_eq_true rfl) ⟨Nat.le_of_ble_eq_true rfl, Nat.le_of_ble_eq_true rfl⟩ rfl rfl (ok_X1_readPurses p1 I759 L758 t hp1 ht h) ?_ ?_
  · intro e9 u9 hx9
    exact hx9.elim
  intro v9 u9 hv9
  obtain ⟨I760, rfl, rfl, h⟩ := hv9
  refine ⟨fun q => absurd q (Nat.lt_irrefl _), ?_⟩
  show V G Y_X1_read 20 _ _ _ _ _ _ _
  refine v_aload_n (pc' := 21) 12 0 rfl rfl rfl rfl ?_
  refine v_cV (Y2 := Y_X7_isEnd) (As := []) (b := 344) (pc' := 24) (c1 := 0) (s1 := 0) 13 rfl rfl mf_X7_isEnd rfl rfl ml_X1_24 mi_X7_isEnd se_X7_isEnd (ci := 6) rfl ly_344 (lay_lt ly_344 (by decide)) rfl (Nat.le_of_ble_eq_true rfl) ⟨Nat.le_of_ble_eq_true rfl, Nat.le_of_ble_eq_true rfl⟩ rfl rfl (ok_X7_isEnd I760 L758 h) ?_ ?_
  · intro e9 u9 hx9
    exact hx9.elim
  intro v9 u9 hv9
  obtain ⟨r761, rfl, rfl, h⟩ := hv9
  refine ⟨fun q => absurd q (Nat.lt_irrefl _), ?_⟩
  show V G Y_X1_read 24 _ (.int r761 :: _) _ _ _ _ _
  refine v_if_ne (tgt := 32) (pc' := 27) 14 rfl rfl (by decide) (fun hc => ?_) (fun hc => ?_)
  · replace h := h.1 hc
    exact v_vret 18 rfl rfl (by decide) (by decide) ⟨_, _, rfl, rfl, h⟩
  replace h := h.2 hc
  refine v_aload_n (pc' := 28) 15 0 rfl rfl rfl rfl ?_
  refine v_iconst (v := 1) (pc' := 29) 16 rfl rfl (by decide) ?_
  refine v_cV (Y2 := Y_X7_fail) (As := [.int 1]) (b := 344) (pc' := 32) (c1 := 0) (s1 := 0) 17 rfl rfl mf_X7_fail rfl rfl ml_X1_30 mi_X7_fail se_X7_fail (ci := 6) rfl ly_344 (lay_lt ly_344 (by decide)) rfl (Nat.le_of_ble_eq_true rfl) ⟨Nat.le_of_ble_eq_true rfl, Nat.le_of_ble_eq_true rfl⟩ rfl rfl (ok_X7_fail (1 : Int32) I760 L758 h) ?_ ?_
  · intro e9 u9 hx9
    exact hx9.elim
  intro v9 u9 hv9
  obtain ⟨I762, rfl, rfl, h⟩ := hv9
  refine ⟨fun q => absurd q (Nat.lt_irrefl _), ?_⟩
  show V G Y_X1_read 32 _ _ _ _ _ _ _
  exact v_vret 18 rfl rfl (by decide) (by decide) ⟨_, _, rfl, rfl, h⟩
def W_X2_hasNet (p0 : Nat) (p1 : Int32) (I : TI) (L : TL) (Q : Int32 → Prop) : Prop :=
  (p1 < 0 → Q 0) ∧ (¬ p1 < 0 → W_X2_nets p0 I L (fun (r764 : Int32) => (r764 ≤ p1 → Q 0) ∧ (¬ r764 ≤ p1 → Q 1)))
set_option maxHeartbeats 4000000 in
set_option maxRecDepth 100000 in
theorem ok_X2_hasNet {G : GT} {b d t : Nat} (p0 : Nat) (p1 : Int32) (I : TI) (L : TL) (hp0 : ckOK p0) {Q : Int32 → Prop} (h : W_X2_hasNet p0 p1 I L Q) : MW G Y_X2_hasNet [.ref p0, .int p1] (I, L, RT b d t, 457) (fun v9 u9 => ∃ (r9 : Int32), v9 = some (.int r9) ∧ u9 = (I, L, RT b d t, 457) ∧ Q r9) (fun _ _ => False) := by
  unfold W_X2_hasNet at h
  refine MW.intro rfl (by decide) is_X2_hasNet (Nat.le_of_ble_eq_true rfl) ?_
  show V G Y_X2_hasNet 0 [(0, .ref p0), (1, .int p1)] [] (I, L, RT b d t, 457) 0 0 _ _
  refine v_iload_n (pc' := 1) 0 1 rfl rfl rfl rfl ?_
  refine v_if_lt (tgt := 16) (pc' := 4) 1 rfl rfl (by decide) (fun hc => ?_) (fun hc => ?_)
  · replace h := h.1 hc
    refine v_iconst (v := 0) (pc' := 17) 8 rfl rfl (by decide) ?_
    exact v_bret 9 rfl rfl (by decide) (by decide) (by decide) ⟨_, rfl, rfl, h⟩
  replace h := h.2 hc
  refine v_iload_n (pc' := 5) 2 1 rfl rfl rfl rfl ?_
  refine v_aload_n (pc' := 6) 3 0 rfl rfl rfl rfl ?_
  refine v_cV (Y2 := Y_X2_nets) (As := []) (b := p0) (pc' := 9) (c1 := 0) (s1 := 0) 4 rfl rfl mf_X2_nets rfl rfl ml_X2_40 mi_X2_nets se_X2_nets (ci := 1) rfl (ck0l hp0) (lay_lt (ck0l hp0) (by decide)) rfl (Nat.le_of_ble_eq_true rfl) ⟨Nat.le_of_ble_eq_true rfl, Nat.le_of_ble_eq_true rfl⟩ rfl rfl (ok_X2_nets p0 I L hp0 h) ?_ ?_
  · intro e9 u9 hx9
    exact hx9.elim
  intro v9 u9 hv9
  obtain ⟨r764, rfl, rfl, h⟩ := hv9
  refine ⟨fun q => absurd q (Nat.lt_irrefl _), ?_⟩
  show V G Y_X2_hasNet 9 _ (.int r764 :: _) _ _ _ _ _
  refine v_icmp_ge (tgt := 16) (pc' := 12) 5 rfl rfl (by decide) (fun hc => ?_) (fun hc => ?_)
  · replace h := h.1 hc
    refine v_iconst (v := 0) (pc' := 17) 8 rfl rfl (by decide) ?_
    exact v_bret 9 rfl rfl (by decide) (by decide) (by decide) ⟨_, rfl, rfl, h⟩
  replace h := h.2 hc
  refine v_iconst (v := 1) (pc' := 13) 6 rfl rfl (by decide) ?_
  refine v_goto (tgt := 17) 7 rfl (by decide) ?_
  exact v_bret 9 rfl rfl (by decide) (by decide) (by decide) ⟨_, rfl, rfl, h⟩
def W_X2_hasTime (p0 : Nat) (p1 : Int32) (I : TI) (L : TL) (Q : Int32 → Prop) : Prop :=
  (p1 < 0 → Q 0) ∧ (¬ p1 < 0 → ((I p0 6) < p1 → Q 0) ∧ (¬ (I p0 6) < p1 → Q 1))
set_option maxHeartbeats 4000000 in
set_option maxRecDepth 100000 in
theorem ok_X2_hasTime {G : GT} {b d t : Nat} (p0 : Nat) (p1 : Int32) (I : TI) (L : TL) (hp0 : ckOK p0) {Q : Int32 → Prop} (h : W_X2_hasTime p0 p1 I L Q) : MW G Y_X2_hasTime [.ref p0, .int p1] (I, L, RT b d t, 457) (fun v9 u9 => ∃ (r9 : Int32), v9 = some (.int r9) ∧ u9 = (I, L, RT b d t, 457) ∧ Q r9) (fun _ _ => False) := by
  unfold W_X2_hasTime at h
  refine MW.intro rfl (by decide) is_X2_hasTime (Nat.le_of_ble_eq_true rfl) ?_
  show V G Y_X2_hasTime 0 [(0, .ref p0), (1, .int p1)] [] (I, L, RT b d t, 457) 0 0 _ _
  refine v_iload_n (pc' := 1) 0 1 rfl rfl rfl rfl ?_
  refine v_if_lt (tgt := 16) (pc' := 4) 1 rfl rfl (by decide) (fun hc => ?_) (fun hc => ?_)
  · replace h := h.1 hc
    refine v_iconst (v := 0) (pc' := 17) 8 rfl rfl (by decide) ?_
    exact v_bret 9 rfl rfl (by decide) (by decide) (by decide) ⟨_, rfl, rfl, h⟩
  replace h := h.2 hc
  refine v_iload_n (pc' := 5) 2 1 rfl rfl rfl rfl ?_
  refine v_aload_n (pc' := 6) 3 0 rfl rfl rfl rfl ?_
  refine v_getI (pc' := 9) 4 rfl rfl pf_X2_31 (ck0l hp0) (lay_lt (ck0l hp0) (by decide)) ?_
  refine v_icmp_gt (tgt := 16) (pc' := 12) 5 rfl rfl (by decide) (fun hc => ?_) (fun hc => ?_)
  · replace h := h.1 hc
    refine v_iconst (v := 0) (pc' := 17) 8 rfl rfl (by decide) ?_
    exact v_bret 9 rfl rfl (by decide) (by decide) (by decide) ⟨_, rfl, rfl, h⟩
  replace h := h.2 hc
  refine v_iconst (v := 1) (pc' := 13) 6 rfl rfl (by decide) ?_
  refine v_goto (tgt := 17) 7 rfl (by decide) ?_
  exact v_bret 9 rfl rfl (by decide) (by decide) (by decide) ⟨_, rfl, rfl, h⟩
def W_X3_start (p0 : Nat) (p1 : Int32) (p2 : Int32) (p3 : Int32) (p4 : Int32) (p5 : Int32) (p6 : Int32) (I : TI) (L : TL) (Q : TI → Prop) : Prop :=
  ∀ I766 : TI, I766 = (up2 (up2 (up2 (up2 (up2 I p0 0 p1) p0 1 p2) p0 2 p3) p0 3 p4) p0 4 p5) → ((p6 = 0 ∨ p6 = 1) ∧ (Q (up2 (up2 (up2 I766 p0 5 p6) p0 6 0) p0 7 (-1))))
set_option maxHeartbeats 4000000 in
set_option maxRecDepth 100000 in
theorem ok_X3_start {G : GT} {b d t : Nat} (p0 : Nat) (p1 : Int32) (p2 : Int32) (p3 : Int32) (p4 : Int32) (p5 : Int32) (p6 : Int32) (I : TI) (L : TL) (hp0 : LAY p0 = 2) {Q : TI → Prop} (h : W_X3_start p0 p1 p2 p3 p4 p5 p6 I L Q) : MW G Y_X3_start [.ref p0, .int p1, .int p2, .int p3, .int p4, .int p5, .int p6] (I, L, RT b d t, 457) (fun v9 u9 => ∃ (I9 : TI), v9 = none ∧ u9 = (I9, L, RT b d t, 457) ∧ Q I9) (fun _ _ => False) := by
  unfold W_X3_start at h
  refine MW.intro rfl (by decide) is_X3_start (Nat.le_of_ble_eq_true rfl) ?_
  show V G Y_X3_start 0 [(0, .ref p0), (1, .int p1), (2, .int p2), (3, .int p3), (4, .int p4), (5, .int p5), (6, .int p6)] [] (I, L, RT b d t, 457) 0 0 _ _
  refine v_aload_n (pc' := 1) 0 0 rfl rfl rfl rfl ?_
  refine v_iload_n (pc' := 2) 1 1 rfl rfl rfl rfl ?_
  refine v_putI (pc' := 5) 2 rfl rfl pf_X3_15 (fun q => absurd q (by decide)) hp0 (lay_lt hp0 (by decide)) ?_
  refine v_aload_n (pc' := 6) 3 0 rfl rfl rfl rfl ?_
  refine v_iload_n (pc' := 7) 4 2 rfl rfl rfl rfl ?_
  refine v_putI (pc' := 10) 5 rfl rfl pf_X3_18 (fun q => absurd q (by decide)) hp0 (lay_lt hp0 (by decide)) ?_
  refine v_aload_n (pc' := 11) 6 0 rfl rfl rfl rfl ?_
  refine v_iload_n (pc' := 12) 7 3 rfl rfl rfl rfl ?_
  refine v_putI (pc' := 15) 8 rfl rfl pf_X3_21 (fun q => absurd q (by decide)) hp0 (lay_lt hp0 (by decide)) ?_
  refine v_aload_n (pc' := 16) 9 0 rfl rfl rfl rfl ?_
  refine v_iload (pc' := 18) 10 4 rfl rfl rfl ?_
  refine v_putI (pc' := 21) 11 rfl rfl pf_X3_24 (fun q => absurd q (by decide)) hp0 (lay_lt hp0 (by decide)) ?_
  refine v_aload_n (pc' := 22) 12 0 rfl rfl rfl rfl ?_
  refine v_iload (pc' := 24) 13 5 rfl rfl rfl ?_
  refine v_putI (pc' := 27) 14 rfl rfl pf_X3_27 (fun q => absurd q (by decide)) hp0 (lay_lt hp0 (by decide)) ?_
  refine nm_M (e := (up2 (up2 (up2 (up2 (up2 I p0 0 p1) p0 1 p2) p0 2 p3) p0 3 p4) p0 4 p5)) (fun I766 hI766 => ?_)
  replace h := h I766 hI766
  refine v_aload_n (pc' := 28) 15 0 rfl rfl rfl rfl ?_
  refine v_iload (pc' := 30) 16 6 rfl rfl rfl ?_
  obtain ⟨hz767, h⟩ := h
  refine v_putZ (pc' := 33) 17 rfl rfl pf_X3_30 (fun q => absurd q (by decide)) hp0 (lay_lt hp0 (by decide)) hz767 ?_
  refine v_aload_n (pc' := 34) 18 0 rfl rfl rfl rfl ?_
  refine v_iconst (v := 0) (pc' := 35) 19 rfl rfl (by decide) ?_
  refine v_putI (pc' := 38) 20 rfl rfl pf_X3_34 (fun q => absurd q (by decide)) hp0 (lay_lt hp0 (by decide)) ?_
  refine v_aload_n (pc' := 39) 21 0 rfl rfl rfl rfl ?_
  refine v_iconst (v := -1) (pc' := 40) 22 rfl rfl (by decide) ?_
  refine v_putI (pc' := 43) 23 rfl rfl pf_X3_9 (fun q => absurd q (by decide)) hp0 (lay_lt hp0 (by decide)) ?_
  exact v_vret 24 rfl rfl (by decide) (by decide) ⟨_, rfl, rfl, h⟩
def W_X3_copyFrom (p0 : Nat) (p1 : Nat) (I : TI) (L : TL) (Q : TI → Prop) : Prop :=
  W_X3_start p0 (I p1 0) (I p1 1) (I p1 2) (I p1 3) (I p1 4) (I p1 5) I L (fun (I769 : TI) => ∀ I770 : TI, I770 = (up2 (up2 I769 p0 6 (I769 p1 6)) p0 7 ((up2 I769 p0 6 (I769 p1 6)) p1 7)) → (Q I770))
set_option maxHeartbeats 4000000 in
set_option maxRecDepth 100000 in
theorem ok_X3_copyFrom {G : GT} {b d t : Nat} (p0 : Nat) (p1 : Nat) (I : TI) (L : TL) (hp0 : LAY p0 = 2) (hp1 : LAY p1 = 2) {Q : TI → Prop} (h : W_X3_copyFrom p0 p1 I L Q) : MW G Y_X3_copyFrom [.ref p0, .ref p1] (I, L, RT b d t, 457) (fun v9 u9 => ∃ (I9 : TI), v9 = none ∧ u9 = (I9, L, RT b d t, 457) ∧ Q I9) (fun _ _ => False) := by
  unfold W_X3_copyFrom at h
  refine MW.intro rfl (by decide) is_X3_copyFrom (Nat.le_of_ble_eq_true rfl) ?_
  show V G Y_X3_copyFrom 0 [(0, .ref p0), (1, .ref p1)] [] (I, L, RT b d t, 457) 0 0 _ _
  refine v_aload_n (pc' := 1) 0 0 rfl rfl rfl rfl ?_
  refine v_aload_n (pc' := 2) 1 1 rfl rfl rfl rfl ?_
  refine v_getI (pc' := 5) 2 rfl rfl pf_X3_15 hp1 (lay_lt hp1 (by decide)) ?_
  refine v_aload_n (pc' := 6) 3 1 rfl rfl rfl rfl ?_
  refine v_getI (pc' := 9) 4 rfl rfl pf_X3_18 hp1 (lay_lt hp1 (by decide)) ?_
  refine v_aload_n (pc' := 10) 5 1 rfl rfl rfl rfl ?_
  refine v_getI (pc' := 13) 6 rfl rfl pf_X3_21 hp1 (lay_lt hp1 (by decide)) ?_
  refine v_aload_n (pc' := 14) 7 1 rfl rfl rfl rfl ?_
  refine v_getI (pc' := 17) 8 rfl rfl pf_X3_24 hp1 (lay_lt hp1 (by decide)) ?_
  refine v_aload_n (pc' := 18) 9 1 rfl rfl rfl rfl ?_
  refine v_getI (pc' := 21) 10 rfl rfl pf_X3_27 hp1 (lay_lt hp1 (by decide)) ?_
  refine v_aload_n (pc' := 22) 11 1 rfl rfl rfl rfl ?_
  refine v_getZ (pc' := 25) 12 rfl rfl pf_X3_30 hp1 (lay_lt hp1 (by decide)) ?_
  refine v_cV (Y2 := Y_X3_start) (As := [.int (I p1 0), .int (I p1 1), .int (I p1 2), .int (I p1 3), .int (I p1 4), .int (I p1 5)]) (b := p0) (pc' := 28) (c1 := 0) (s1 := 0) 13 rfl rfl mf_X3_start rfl rfl ml_X3_37 mi_X3_start se_X3_start (ci := 2) rfl hp0 (lay_lt hp0 (by decide)) rfl (Nat.le_of_ble_eq_true rfl) ⟨Nat.le_of_ble_eq_true rfl, Nat.le_of_ble_eq_true rfl⟩ rfl rfl (ok_X3_start p0 (I p1 0) (I p1 1) (I p1 2) (I p1 3) (I p1 4) (I p1 5) I L hp0 h) ?_ ?_
  · intro e9 u9 hx9
    exact hx9.elim
  intro v9 u9 hv9
  obtain ⟨I769, rfl, rfl, h⟩ := hv9
  refine ⟨fun q => absurd q (Nat.lt_irrefl _), ?_⟩
  show V G Y_X3_copyFrom 28 _ _ _ _ _ _ _
  refine v_aload_n (pc' := 29) 14 0 rfl rfl rfl rfl ?_
  refine v_aload_n (pc' := 30) 15 1 rfl rfl rfl rfl ?_
  refine v_getI (pc' := 33) 16 rfl rfl pf_X3_34 hp1 (lay_lt hp1 (by decide)) ?_
  refine v_putI (pc' := 36) 17 rfl rfl pf_X3_34 (fun q => absurd q (by decide)) hp0 (lay_lt hp0 (by decide)) ?_
  refine v_aload_n (pc' := 37) 18 0 rfl rfl rfl rfl ?_
  refine v_aload_n (pc' := 38) 19 1 rfl rfl rfl rfl ?_
  refine v_getI (pc' := 41) 20 rfl rfl pf_X3_9 hp1 (lay_lt hp1 (by decide)) ?_
  refine v_putI (pc' := 44) 21 rfl rfl pf_X3_9 (fun q => absurd q (by decide)) hp0 (lay_lt hp0 (by decide)) ?_
  refine nm_M (e := (up2 (up2 I769 p0 6 (I769 p1 6)) p0 7 ((up2 I769 p0 6 (I769 p1 6)) p1 7))) (fun I770 hI770 => ?_)
  replace h := h I770 hI770
  exact v_vret 22 rfl rfl (by decide) (by decide) ⟨_, rfl, rfl, h⟩
def W_X3_times (p0 : Nat) (I : TI) (L : TL) (Q : Int32 → Prop) : Prop :=
  Q (((I p0 2) - (I p0 1)) + 1)
set_option maxHeartbeats 4000000 in
set_option maxRecDepth 100000 in
theorem ok_X3_times {G : GT} {b d t : Nat} (p0 : Nat) (I : TI) (L : TL) (hp0 : LAY p0 = 2) {Q : Int32 → Prop} (h : W_X3_times p0 I L Q) : MW G Y_X3_times [.ref p0] (I, L, RT b d t, 457) (fun v9 u9 => ∃ (r9 : Int32), v9 = some (.int r9) ∧ u9 = (I, L, RT b d t, 457) ∧ Q r9) (fun _ _ => False) := by
  unfold W_X3_times at h
  refine MW.intro rfl (by decide) is_X3_times (Nat.le_of_ble_eq_true rfl) ?_
  show V G Y_X3_times 0 [(0, .ref p0)] [] (I, L, RT b d t, 457) 0 0 _ _
  refine v_aload_n (pc' := 1) 0 0 rfl rfl rfl rfl ?_
  refine v_getI (pc' := 4) 1 rfl rfl pf_X3_21 hp0 (lay_lt hp0 (by decide)) ?_
  refine v_aload_n (pc' := 5) 2 0 rfl rfl rfl rfl ?_
  refine v_getI (pc' := 8) 3 rfl rfl pf_X3_18 hp0 (lay_lt hp0 (by decide)) ?_
  refine v_isub (pc' := 9) 4 rfl rfl ?_
  refine v_iconst (v := 1) (pc' := 10) 5 rfl rfl (by decide) ?_
  refine v_iadd (pc' := 11) 6 rfl rfl ?_
  exact v_iret 7 rfl rfl (by decide) (by decide) ⟨_, rfl, rfl, h⟩
def B_X3_loserBy_17 (p0 : Nat) (s0 : Int32) (I : TI) (L : TL) (Q : Int32 → Prop) : Prop :=
  (¬ s0 = (I p0 5) → Q (I p0 4)) ∧ (s0 = (I p0 5) → Q ((1 : Int32) - (I p0 4)))
set_option maxHeartbeats 4000000 in
set_option maxRecDepth 100000 in
theorem b_X3_loserBy_17 {G : GT} {b d t : Nat} (p0 : Nat) (s0 : Int32) (I : TI) (L : TL) (hp0 : LAY p0 = 2) (Q : Int32 → Prop)  (h : B_X3_loserBy_17 p0 s0 I L Q) : V G Y_X3_loserBy 17 [(0, .ref p0)] [.int s0] (I, L, RT b d t, 457) 0 0 (fun v9 u9 => ∃ (r9 : Int32), v9 = some (.int r9) ∧ u9 = (I, L, RT b d t, 457) ∧ Q r9) (fun _ _ => False) := by
  unfold B_X3_loserBy_17 at h
  refine v_aload_n (pc' := 18) 11 0 rfl rfl rfl rfl ?_
  refine v_getZ (pc' := 21) 12 rfl rfl pf_X3_30 hp0 (lay_lt hp0 (by decide)) ?_
  refine v_icmp_ne (tgt := 33) (pc' := 24) 13 rfl rfl (by decide) (fun hc => ?_) (fun hc => ?_)
  · replace h := h.1 hc
    refine v_aload_n (pc' := 34) 19 0 rfl rfl rfl rfl ?_
    refine v_getI (pc' := 37) 20 rfl rfl pf_X3_27 hp0 (lay_lt hp0 (by decide)) ?_
    exact v_iret 21 rfl rfl (by decide) (by decide) ⟨_, rfl, rfl, h⟩
  replace h := h.2 hc
  refine v_iconst (v := 1) (pc' := 25) 14 rfl rfl (by decide) ?_
  refine v_aload_n (pc' := 26) 15 0 rfl rfl rfl rfl ?_
  refine v_getI (pc' := 29) 16 rfl rfl pf_X3_27 hp0 (lay_lt hp0 (by decide)) ?_
  refine v_isub (pc' := 30) 17 rfl rfl ?_
  refine v_goto (tgt := 37) 18 rfl (by decide) ?_
  exact v_iret 21 rfl rfl (by decide) (by decide) ⟨_, rfl, rfl, h⟩
def W_X3_loserBy (p0 : Nat) (p1 : Int32) (I : TI) (L : TL) (Q : Int32 → Prop) : Prop :=
  (¬ p1 = (-1) → (¬ p1 = 1 → B_X3_loserBy_17 p0 (0 : Int32) I L Q) ∧ (p1 = 1 → B_X3_loserBy_17 p0 (1 : Int32) I L Q)) ∧ (p1 = (-1) → Q (-1))
set_option maxHeartbeats 4000000 in
set_option maxRecDepth 100000 in
theorem ok_X3_loserBy {G : GT} {b d t : Nat} (p0 : Nat) (p1 : Int32) (I : TI) (L : TL) (hp0 : LAY p0 = 2) {Q : Int32 → Prop} (h : W_X3_loserBy p0 p1 I L Q) : MW G Y_X3_loserBy [.ref p0, .int p1] (I, L, RT b d t, 457) (fun v9 u9 => ∃ (r9 : Int32), v9 = some (.int r9) ∧ u9 = (I, L, RT b d t, 457) ∧ Q r9) (fun _ _ => False) := by
  unfold W_X3_loserBy at h
  refine MW.intro rfl (by decide) is_X3_loserBy (Nat.le_of_ble_eq_true rfl) ?_
  show V G Y_X3_loserBy 0 [(0, .ref p0), (1, .int p1)] [] (I, L, RT b d t, 457) 0 0 _ _
  refine v_iload_n (pc' := 1) 0 1 rfl rfl rfl rfl ?_
  refine v_iconst (v := -1) (pc' := 2) 1 rfl rfl (by decide) ?_
  refine v_icmp_ne (tgt := 7) (pc' := 5) 2 rfl rfl (by decide) (fun hc => ?_) (fun hc => ?_)
  · replace h := h.1 hc
    refine v_iload_n (pc' := 8) 5 1 rfl rfl rfl rfl ?_
    refine v_iconst (v := 1) (pc' := 9) 6 rfl rfl (by decide) ?_
    refine v_icmp_ne (tgt := 16) (pc' := 12) 7 rfl rfl (by decide) (fun hc => ?_) (fun hc => ?_)
    · replace h := h.1 hc
      refine v_iconst (v := 0) (pc' := 17) 10 rfl rfl (by decide) ?_
      refine V.sub [0] rfl ?_
      exact b_X3_loserBy_17 p0 (0 : Int32) I L hp0 Q h
    replace h := h.2 hc
    refine v_iconst (v := 1) (pc' := 13) 8 rfl rfl (by decide) ?_
    refine v_goto (tgt := 17) 9 rfl (by decide) ?_
    refine V.sub [0] rfl ?_
    exact b_X3_loserBy_17 p0 (1 : Int32) I L hp0 Q h
  replace h := h.2 hc
  refine v_iconst (v := -1) (pc' := 6) 3 rfl rfl (by decide) ?_
  exact v_iret 4 rfl rfl (by decide) (by decide) ⟨_, rfl, rfl, h⟩
def D_X6_copyFrom_115 (p0 : Nat) (p1 : Nat) (L : TL) (Q : TI → TL → Prop) (R115 : Int32 → TI → Prop) (v2 : Int32) (I : TI) : Prop :=
  ((I p0 7) ≤ v2 → Q (up2 I p0 8 (I p1 8)) L) ∧ (¬ (I p0 7) ≤ v2 → vp_in v2 20 ∧ (vp_in v2 20 ∧ (W_X3_copyFrom ((p0 + 11) + v2.toNatClampNeg) ((p1 + 11) + v2.toNatClampNeg) I L (fun (I780 : TI) => R115 (v2 + 1) I780))))
def L_X6_copyFrom_115 (p0 : Nat) (p1 : Nat) (L : TL) (Q : TI → TL → Prop) : Nat → Int32 → TI → Prop
  | 0, _, _ => False
  | n9 + 1, v2, I => D_X6_copyFrom_115 p0 p1 L Q (fun v2 I => L_X6_copyFrom_115 p0 p1 L Q n9 v2 I) v2 I
set_option maxHeartbeats 4000000 in
set_option maxRecDepth 100000 in
theorem d_X6_copyFrom_115 {G : GT} {b d t : Nat} (p0 : Nat) (p1 : Nat) (L : TL) (hp0 : stOK p0) (hp1 : stOK p1) (Q : TI → TL → Prop) (R115 : Int32 → TI → Prop)  (hR115 : ∀ (v2 : Int32) (I : TI), R115 v2 I → V G Y_X6_copyFrom 115 [(0, .ref p0), (1, .ref p1), (2, .int v2)] [] (I, L, RT b d t, 457) 0 0 (fun v9 u9 => ∃ (I9 : TI) (L9 : TL), v9 = none ∧ u9 = (I9, L9, RT b d t, 457) ∧ Q I9 L9) (fun _ _ => False)) (v2 : Int32) (I : TI)  (h : D_X6_copyFrom_115 p0 p1 L Q R115 v2 I) : V G Y_X6_copyFrom 115 [(0, .ref p0), (1, .ref p1), (2, .int v2)] [] (I, L, RT b d t, 457) 0 0 (fun v9 u9 => ∃ (I9 : TI) (L9 : TL), v9 = none ∧ u9 = (I9, L9, RT b d t, 457) ∧ Q I9 L9) (fun _ _ => False) := by
  unfold D_X6_copyFrom_115 at h
  refine v_iload_n (pc' := 116) 65 2 rfl rfl rfl rfl ?_
  refine v_aload_n (pc' := 117) 66 0 rfl rfl rfl rfl ?_
  refine v_getI (pc' := 120) 67 rfl rfl pf_X6_39 (st0l hp0) (lay_lt (st0l hp0) (by decide)) ?_
  refine v_icmp_ge (tgt := 144) (pc' := 123) 68 rfl rfl (by decide) (fun hc => ?_) (fun hc => ?_)
  · replace h := h.1 hc
    refine v_aload_n (pc' := 145) 80 0 rfl rfl rfl rfl ?_
    refine v_aload_n (pc' := 146) 81 1 rfl rfl rfl rfl ?_
    refine v_getI (pc' := 149) 82 rfl rfl pf_X6_43 (st0l hp1) (lay_lt (st0l hp1) (by decide)) ?_
    refine v_putI (pc' := 152) 83 rfl rfl pf_X6_43 (fun q => absurd q (by decide)) (st0l hp0) (lay_lt (st0l hp0) (by decide)) ?_
    exact v_vret 84 rfl rfl (by decide) (by decide) ⟨_, _, rfl, rfl, h⟩
  replace h := h.2 hc
  refine v_aload_n (pc' := 124) 69 0 rfl rfl rfl rfl ?_
  refine v_getR (t := (p0 + 10)) (pc' := 127) 70 rfl rfl pf_X6_35 (st0l hp0) (lay_lt (st0l hp0) (by decide)) (rt_st_6 hp0) ?_
  refine v_iload_n (pc' := 128) 71 2 rfl rfl rfl rfl ?_
  obtain ⟨hi778, h⟩ := h
  refine v_aald5 (i := v2) (r := ((p0 + 11) + v2.toNatClampNeg)) (j := v2.toNatClampNeg) (pc' := 129) 72 rfl rfl (st10l hp0) (st10n hp0) (lay_lt (st10l hp0) (by decide)) hi778 rfl (rt_dis hp0 (vp_nat hi778)) ?_
  refine v_aload_n (pc' := 130) 73 1 rfl rfl rfl rfl ?_
  refine v_getR (t := (p1 + 10)) (pc' := 133) 74 rfl rfl pf_X6_35 (st0l hp1) (lay_lt (st0l hp1) (by decide)) (rt_st_6 hp1) ?_
  refine v_iload_n (pc' := 134) 75 2 rfl rfl rfl rfl ?_
  obtain ⟨hi779, h⟩ := h
  refine v_aald5 (i := v2) (r := ((p1 + 11) + v2.toNatClampNeg)) (j := v2.toNatClampNeg) (pc' := 135) 76 rfl rfl (st10l hp1) (st10n hp1) (lay_lt (st10l hp1) (by decide)) hi779 rfl (rt_dis hp1 (vp_nat hi779)) ?_
  refine v_cV (Y2 := Y_X3_copyFrom) (As := [.ref ((p1 + 11) + v2.toNatClampNeg)]) (b := ((p0 + 11) + v2.toNatClampNeg)) (pc' := 138) (c1 := 0) (s1 := 0) 77 rfl rfl mf_X3_copyFrom rfl rfl ml_X6_63 mi_X3_copyFrom se_X3_copyFrom (ci := 2) rfl (st_disl hp0 (vp_nat hi778)) (lay_lt (st_disl hp0 (vp_nat hi778)) (by decide)) rfl (Nat.le_of_ble_eq_true rfl) ⟨Nat.le_of_ble_eq_true rfl, Nat.le_of_ble_eq_true rfl⟩ rfl rfl (ok_X3_copyFrom ((p0 + 11) + v2.toNatClampNeg) ((p1 + 11) + v2.toNatClampNeg) I L (st_disl hp0 (vp_nat hi778)) (st_disl hp1 (vp_nat hi779)) h) ?_ ?_
  · intro e9 u9 hx9
    exact hx9.elim
  intro v9 u9 hv9
  obtain ⟨I780, rfl, rfl, h⟩ := hv9
  refine ⟨fun q => absurd q (Nat.lt_irrefl _), ?_⟩
  show V G Y_X6_copyFrom 138 _ _ _ _ _ _ _
  refine v_iinc (v := (v2 + 1)) (ls' := [(2, .int (v2 + 1)), (0, .ref p0), (1, .ref p1)]) (pc' := 141) 78 2 rfl rfl rfl rfl (by decide) rfl ?_
  refine v_goto (tgt := 115) 79 rfl (by decide) ?_
  refine V.sub [1, 2, 0] rfl ?_
  exact hR115 (v2 + 1) I780 h
theorem l_X6_copyFrom_115 {G : GT} {b d t : Nat} (p0 : Nat) (p1 : Nat) (L : TL) (hp0 : stOK p0) (hp1 : stOK p1) (Q : TI → TL → Prop)  : ∀ (n9 : Nat) (v2 : Int32) (I : TI), L_X6_copyFrom_115 p0 p1 L Q n9 v2 I → V G Y_X6_copyFrom 115 [(0, .ref p0), (1, .ref p1), (2, .int v2)] [] (I, L, RT b d t, 457) 0 0 (fun v9 u9 => ∃ (I9 : TI) (L9 : TL), v9 = none ∧ u9 = (I9, L9, RT b d t, 457) ∧ Q I9 L9) (fun _ _ => False)
  | 0, _, _, h => h.elim
  | n9 + 1, v2, I, h => d_X6_copyFrom_115 p0 p1 L hp0 hp1 Q _ (l_X6_copyFrom_115 p0 p1 L hp0 hp1 Q n9) v2 I h
def D_X6_copyFrom_2 (p0 : Nat) (p1 : Nat) (L : TL) (Q : TI → TL → Prop) (R2 : Int32 → TI → Prop) (v2 : Int32) (I : TI) : Prop :=
  (3 ≤ v2 → ∀ L781 : TL, L781 = (cpy (cpy L (p1 + 5) (p0 + 5) 0 0 4) (p1 + 6) (p0 + 6) 0 0 16) → (∀ L782 : TL, L782 = (cpy (cpy L781 (p1 + 7) (p0 + 7) 0 0 16) (p1 + 8) (p0 + 8) 0 0 16) → (∀ I783 : TI, I783 = (up2 (cpy I (p1 + 9) (p0 + 9) 0 0 3) p0 7 ((cpy I (p1 + 9) (p0 + 9) 0 0 3) p1 7)) → (∃ n784, L_X6_copyFrom_115 p0 p1 L782 Q n784 (0 : Int32) I783)))) ∧ (¬ 3 ≤ v2 → vp_in v2 3 ∧ (vp_in v2 3 ∧ (∀ I787 : TI, I787 = (cpy I ((p1 + 2) + v2.toNatClampNeg) ((p0 + 2) + v2.toNatClampNeg) 0 0 16) → (R2 (v2 + 1) I787))))
def L_X6_copyFrom_2 (p0 : Nat) (p1 : Nat) (L : TL) (Q : TI → TL → Prop) : Nat → Int32 → TI → Prop
  | 0, _, _ => False
  | n9 + 1, v2, I => D_X6_copyFrom_2 p0 p1 L Q (fun v2 I => L_X6_copyFrom_2 p0 p1 L Q n9 v2 I) v2 I
set_option maxHeartbeats 4000000 in
set_option maxRecDepth 100000 in
theorem d_X6_copyFrom_2 {G : GT} {b d t : Nat} (p0 : Nat) (p1 : Nat) (L : TL) (hp0 : stOK p0) (hp1 : stOK p1) (Q : TI → TL → Prop) (R2 : Int32 → TI → Prop)  (hR2 : ∀ (v2 : Int32) (I : TI), R2 v2 I → V G Y_X6_copyFrom 2 [(0, .ref p0), (1, .ref p1), (2, .int v2)] [] (I, L, RT b d t, 457) 0 0 (fun v9 u9 => ∃ (I9 : TI) (L9 : TL), v9 = none ∧ u9 = (I9, L9, RT b d t, 457) ∧ Q I9 L9) (fun _ _ => False)) (v2 : Int32) (I : TI)  (h : D_X6_copyFrom_2 p0 p1 L Q R2 v2 I) : V G Y_X6_copyFrom 2 [(0, .ref p0), (1, .ref p1), (2, .int v2)] [] (I, L, RT b d t, 457) 0 0 (fun v9 u9 => ∃ (I9 : TI) (L9 : TL), v9 = none ∧ u9 = (I9, L9, RT b d t, 457) ∧ Q I9 L9) (fun _ _ => False) := by
  unfold D_X6_copyFrom_2 at h
  refine v_iload_n (pc' := 3) 2 2 rfl rfl rfl rfl ?_
  refine v_iconst (v := 3) (pc' := 4) 3 rfl rfl (by decide) ?_
  refine v_icmp_ge (tgt := 32) (pc' := 7) 4 rfl rfl (by decide) (fun hc => ?_) (fun hc => ?_)
  · replace h := h.1 hc
    refine v_aload_n (pc' := 33) 19 1 rfl rfl rfl rfl ?_
    refine v_getR (t := (p1 + 5)) (pc' := 36) 20 rfl rfl pf_X6_16 (st0l hp1) (lay_lt (st0l hp1) (by decide)) (rt_st_1 hp1) ?_
    refine v_iconst (v := 0) (pc' := 37) 21 rfl rfl (by decide) ?_
    refine v_aload_n (pc' := 38) 22 0 rfl rfl rfl rfl ?_
    refine v_getR (t := (p0 + 5)) (pc' := 41) 23 rfl rfl pf_X6_16 (st0l hp0) (lay_lt (st0l hp0) (by decide)) (rt_st_1 hp0) ?_
    refine v_iconst (v := 0) (pc' := 42) 24 rfl rfl (by decide) ?_
    refine v_iconst (v := 4) (pc' := 43) 25 rfl rfl (by decide) ?_
    refine v_copyl (pc' := 46) 26 rfl rfl cp_X6_57 (st5l hp1) (st5l hp0) (st5n hp1) (st5n hp0) (lay_lt (st5l hp1) (by decide)) (lay_lt (st5l hp0) (by decide)) (by decide) (by decide) (by decide) (by decide) (by decide) (by decide) (by decide) ?_
    refine v_aload_n (pc' := 47) 27 1 rfl rfl rfl rfl ?_
    refine v_getR (t := (p1 + 6)) (pc' := 50) 28 rfl rfl pf_X6_20 (st0l hp1) (lay_lt (st0l hp1) (by decide)) (rt_st_2 hp1) ?_
    refine v_iconst (v := 0) (pc' := 51) 29 rfl rfl (by decide) ?_
    refine v_aload_n (pc' := 52) 30 0 rfl rfl rfl rfl ?_
    refine v_getR (t := (p0 + 6)) (pc' := 55) 31 rfl rfl pf_X6_20 (st0l hp0) (lay_lt (st0l hp0) (by decide)) (rt_st_2 hp0) ?_
    refine v_iconst (v := 0) (pc' := 56) 32 rfl rfl (by decide) ?_
    refine v_bipush (v := 16) (pc' := 58) 33 rfl rfl (by decide) ?_
    refine v_copyl (pc' := 61) 34 rfl rfl cp_X6_57 (st6l hp1) (st6l hp0) (st6n hp1) (st6n hp0) (lay_lt (st6l hp1) (by decide)) (lay_lt (st6l hp0) (by decide)) (by decide) (by decide) (by decide) (by decide) (by decide) (by decide) (by decide) ?_
    refine nm_N (e := (cpy (cpy L (p1 + 5) (p0 + 5) 0 0 4) (p1 + 6) (p0 + 6) 0 0 16)) (fun L781 hL781 => ?_)
    replace h := h L781 hL781
    refine v_aload_n (pc' := 62) 35 1 rfl rfl rfl rfl ?_
    refine v_getR (t := (p1 + 7)) (pc' := 65) 36 rfl rfl pf_X6_23 (st0l hp1) (lay_lt (st0l hp1) (by decide)) (rt_st_3 hp1) ?_
    refine v_iconst (v := 0) (pc' := 66) 37 rfl rfl (by decide) ?_
    refine v_aload_n (pc' := 67) 38 0 rfl rfl rfl rfl ?_
    refine v_getR (t := (p0 + 7)) (pc' := 70) 39 rfl rfl pf_X6_23 (st0l hp0) (lay_lt (st0l hp0) (by decide)) (rt_st_3 hp0) ?_
    refine v_iconst (v := 0) (pc' := 71) 40 rfl rfl (by decide) ?_
    refine v_bipush (v := 16) (pc' := 73) 41 rfl rfl (by decide) ?_
    refine v_copyl (pc' := 76) 42 rfl rfl cp_X6_57 (st7l hp1) (st7l hp0) (st7n hp1) (st7n hp0) (lay_lt (st7l hp1) (by decide)) (lay_lt (st7l hp0) (by decide)) (by decide) (by decide) (by decide) (by decide) (by decide) (by decide) (by decide) ?_
    refine v_aload_n (pc' := 77) 43 1 rfl rfl rfl rfl ?_
    refine v_getR (t := (p1 + 8)) (pc' := 80) 44 rfl rfl pf_X6_26 (st0l hp1) (lay_lt (st0l hp1) (by decide)) (rt_st_4 hp1) ?_
    refine v_iconst (v := 0) (pc' := 81) 45 rfl rfl (by decide) ?_
    refine v_aload_n (pc' := 82) 46 0 rfl rfl rfl rfl ?_
    refine v_getR (t := (p0 + 8)) (pc' := 85) 47 rfl rfl pf_X6_26 (st0l hp0) (lay_lt (st0l hp0) (by decide)) (rt_st_4 hp0) ?_
    refine v_iconst (v := 0) (pc' := 86) 48 rfl rfl (by decide) ?_
    refine v_bipush (v := 16) (pc' := 88) 49 rfl rfl (by decide) ?_
    refine v_copyl (pc' := 91) 50 rfl rfl cp_X6_57 (st8l hp1) (st8l hp0) (st8n hp1) (st8n hp0) (lay_lt (st8l hp1) (by decide)) (lay_lt (st8l hp0) (by decide)) (by decide) (by decide) (by decide) (by decide) (by decide) (by decide) (by decide) ?_
    refine nm_N (e := (cpy (cpy L781 (p1 + 7) (p0 + 7) 0 0 16) (p1 + 8) (p0 + 8) 0 0 16)) (fun L782 hL782 => ?_)
    replace h := h L782 hL782
    refine v_aload_n (pc' := 92) 51 1 rfl rfl rfl rfl ?_
    refine v_getR (t := (p1 + 9)) (pc' := 95) 52 rfl rfl pf_X6_29 (st0l hp1) (lay_lt (st0l hp1) (by decide)) (rt_st_5 hp1) ?_
    refine v_iconst (v := 0) (pc' := 96) 53 rfl rfl (by decide) ?_
    refine v_aload_n (pc' := 97) 54 0 rfl rfl rfl rfl ?_
    refine v_getR (t := (p0 + 9)) (pc' := 100) 55 rfl rfl pf_X6_29 (st0l hp0) (lay_lt (st0l hp0) (by decide)) (rt_st_5 hp0) ?_
    refine v_iconst (v := 0) (pc' := 101) 56 rfl rfl (by decide) ?_
    refine v_iconst (v := 3) (pc' := 102) 57 rfl rfl (by decide) ?_
    refine v_copyi (pc' := 105) 58 rfl rfl cp_X6_57 (st9l hp1) (st9l hp0) (st9n hp1) (st9n hp0) (lay_lt (st9l hp1) (by decide)) (lay_lt (st9l hp0) (by decide)) (by decide) (by decide) (by decide) (by decide) (by decide) (by decide) (by decide) ?_
    refine v_aload_n (pc' := 106) 59 0 rfl rfl rfl rfl ?_
    refine v_aload_n (pc' := 107) 60 1 rfl rfl rfl rfl ?_
    refine v_getI (pc' := 110) 61 rfl rfl pf_X6_39 (st0l hp1) (lay_lt (st0l hp1) (by decide)) ?_
    refine v_putI (pc' := 113) 62 rfl rfl pf_X6_39 (fun q => absurd q (by decide)) (st0l hp0) (lay_lt (st0l hp0) (by decide)) ?_
    refine nm_M (e := (up2 (cpy I (p1 + 9) (p0 + 9) 0 0 3) p0 7 ((cpy I (p1 + 9) (p0 + 9) 0 0 3) p1 7))) (fun I783 hI783 => ?_)
    replace h := h I783 hI783
    refine v_iconst (v := 0) (pc' := 114) 63 rfl rfl (by decide) ?_
    refine v_istore_n (ls' := [(2, .int 0), (0, .ref p0), (1, .ref p1)]) (pc' := 115) 64 rfl rfl rfl (by decide) rfl ?_
    refine V.sub [1, 2, 0] rfl ?_
    obtain ⟨n784, h⟩ := h
    exact l_X6_copyFrom_115 p0 p1 L782 hp0 hp1 Q n784 (0 : Int32) I783 h
  replace h := h.2 hc
  refine v_aload_n (pc' := 8) 5 1 rfl rfl rfl rfl ?_
  refine v_getR (t := (p1 + 1)) (pc' := 11) 6 rfl rfl pf_X6_11 (st0l hp1) (lay_lt (st0l hp1) (by decide)) (rt_st_0 hp1) ?_
  refine v_iload_n (pc' := 12) 7 2 rfl rfl rfl rfl ?_
  obtain ⟨hi785, h⟩ := h
  refine v_aald6 (i := v2) (r := ((p1 + 2) + v2.toNatClampNeg)) (j := v2.toNatClampNeg) (pc' := 13) 8 rfl rfl (st1l hp1) (st1n hp1) (lay_lt (st1l hp1) (by decide)) hi785 rfl (rt_row hp1 (vp_nat hi785)) ?_
  refine v_iconst (v := 0) (pc' := 14) 9 rfl rfl (by decide) ?_
  refine v_aload_n (pc' := 15) 10 0 rfl rfl rfl rfl ?_
  refine v_getR (t := (p0 + 1)) (pc' := 18) 11 rfl rfl pf_X6_11 (st0l hp0) (lay_lt (st0l hp0) (by decide)) (rt_st_0 hp0) ?_
  refine v_iload_n (pc' := 19) 12 2 rfl rfl rfl rfl ?_
  obtain ⟨hi786, h⟩ := h
  refine v_aald6 (i := v2) (r := ((p0 + 2) + v2.toNatClampNeg)) (j := v2.toNatClampNeg) (pc' := 20) 13 rfl rfl (st1l hp0) (st1n hp0) (lay_lt (st1l hp0) (by decide)) hi786 rfl (rt_row hp0 (vp_nat hi786)) ?_
  refine v_iconst (v := 0) (pc' := 21) 14 rfl rfl (by decide) ?_
  refine v_bipush (v := 16) (pc' := 23) 15 rfl rfl (by decide) ?_
  refine v_copyi (pc' := 26) 16 rfl rfl cp_X6_57 (st_rowl hp1 (vp_nat hi785)) (st_rowl hp0 (vp_nat hi786)) (st_rown hp1 (vp_nat hi785)) (st_rown hp0 (vp_nat hi786)) (lay_lt (st_rowl hp1 (vp_nat hi785)) (by decide)) (lay_lt (st_rowl hp0 (vp_nat hi786)) (by decide)) (by decide) (by decide) (by decide) (by decide) (by decide) (by decide) (by decide) ?_
  refine nm_M (e := (cpy I ((p1 + 2) + v2.toNatClampNeg) ((p0 + 2) + v2.toNatClampNeg) 0 0 16)) (fun I787 hI787 => ?_)
  replace h := h I787 hI787
  refine v_iinc (v := (v2 + 1)) (ls' := [(2, .int (v2 + 1)), (0, .ref p0), (1, .ref p1)]) (pc' := 29) 17 2 rfl rfl rfl rfl (by decide) rfl ?_
  refine v_goto (tgt := 2) 18 rfl (by decide) ?_
  refine V.sub [1, 2, 0] rfl ?_
  exact hR2 (v2 + 1) I787 h
theorem l_X6_copyFrom_2 {G : GT} {b d t : Nat} (p0 : Nat) (p1 : Nat) (L : TL) (hp0 : stOK p0) (hp1 : stOK p1) (Q : TI → TL → Prop)  : ∀ (n9 : Nat) (v2 : Int32) (I : TI), L_X6_copyFrom_2 p0 p1 L Q n9 v2 I → V G Y_X6_copyFrom 2 [(0, .ref p0), (1, .ref p1), (2, .int v2)] [] (I, L, RT b d t, 457) 0 0 (fun v9 u9 => ∃ (I9 : TI) (L9 : TL), v9 = none ∧ u9 = (I9, L9, RT b d t, 457) ∧ Q I9 L9) (fun _ _ => False)
  | 0, _, _, h => h.elim
  | n9 + 1, v2, I, h => d_X6_copyFrom_2 p0 p1 L hp0 hp1 Q _ (l_X6_copyFrom_2 p0 p1 L hp0 hp1 Q n9) v2 I h
def W_X6_copyFrom (p0 : Nat) (p1 : Nat) (I : TI) (L : TL) (Q : TI → TL → Prop) : Prop :=
  ∃ n788, L_X6_copyFrom_2 p0 p1 L Q n788 (0 : Int32) I
set_option maxHeartbeats 4000000 in
set_option maxRecDepth 100000 in
theorem ok_X6_copyFrom {G : GT} {b d t : Nat} (p0 : Nat) (p1 : Nat) (I : TI) (L : TL) (hp0 : stOK p0) (hp1 : stOK p1) {Q : TI → TL → Prop} (h : W_X6_copyFrom p0 p1 I L Q) : MW G Y_X6_copyFrom [.ref p0, .ref p1] (I, L, RT b d t, 457) (fun v9 u9 => ∃ (I9 : TI) (L9 : TL), v9 = none ∧ u9 = (I9, L9, RT b d t, 457) ∧ Q I9 L9) (fun _ _ => False) := by
  unfold W_X6_copyFrom at h
  refine MW.intro rfl (by decide) is_X6_copyFrom (Nat.le_of_ble_eq_true rfl) ?_
  show V G Y_X6_copyFrom 0 [(0, .ref p0), (1, .ref p1)] [] (I, L, RT b d t, 457) 0 0 _ _
  refine v_iconst (v := 0) (pc' := 1) 0 rfl rfl (by decide) ?_
  refine v_istore_n (ls' := [(2, .int 0), (0, .ref p0), (1, .ref p1)]) (pc' := 2) 1 rfl rfl rfl (by decide) rfl ?_
  refine V.sub [1, 2, 0] rfl ?_
  obtain ⟨n788, h⟩ := h
  exact l_X6_copyFrom_2 p0 p1 L hp0 hp1 Q n788 (0 : Int32) I h
def B_X4_record_33 (p1 : Nat) (s1 : Int32) (I : TI) (L : TL) (Q : TI → TL → Prop) : Prop :=
  ∀ I795 : TI, I795 = (up2 (up2 I 1 4 s1) 1 3 (mnI (((up2 I 1 4 s1) 1 3) + 1) (10 : Int32))) → (Q I795 L)
set_option maxHeartbeats 4000000 in
set_option maxRecDepth 100000 in
theorem b_X4_record_33 {G : GT} {b d t : Nat} (p1 : Nat) (s1 : Int32) (I : TI) (L : TL) (hp1 : stOK p1) (Q : TI → TL → Prop)  (h : B_X4_record_33 p1 s1 I L Q) : V G Y_X4_record 33 [(0, .ref 1)] [.int s1, .ref 1] (I, L, RT b d t, 457) 0 0 (fun v9 u9 => ∃ (I9 : TI) (L9 : TL), v9 = none ∧ u9 = (I9, L9, RT b d t, 457) ∧ Q I9 L9) (fun _ _ => False) := by
  unfold B_X4_record_33 at h
  refine v_putI (pc' := 36) 18 rfl rfl pf_X4_30 (fun q => absurd q (by decide)) ly_1 (lay_lt ly_1 (by decide)) ?_
  refine v_aload_n (pc' := 37) 19 0 rfl rfl rfl rfl ?_
  refine v_aload_n (pc' := 38) 20 0 rfl rfl rfl rfl ?_
  refine v_getI (pc' := 41) 21 rfl rfl pf_X4_26 ly_1 (lay_lt ly_1 (by decide)) ?_
  refine v_iconst (v := 1) (pc' := 42) 22 rfl rfl (by decide) ?_
  refine v_iadd (pc' := 43) 23 rfl rfl ?_
  refine v_bipush (v := 10) (pc' := 45) 24 rfl rfl (by decide) ?_
  refine v_mmin (pc' := 48) 25 rfl rfl mm_X4_37 (Nat.le_of_ble_eq_true rfl) (by decide) (by decide) ⟨Nat.le_of_ble_eq_true rfl, Nat.le_of_ble_eq_true rfl⟩ ?_
  refine v_putI (pc' := 51) 26 rfl rfl pf_X4_26 (fun q => absurd q (by decide)) ly_1 (lay_lt ly_1 (by decide)) ?_
  refine nm_M (e := (up2 (up2 I 1 4 s1) 1 3 (mnI (((up2 I 1 4 s1) 1 3) + 1) (10 : Int32)))) (fun I795 hI795 => ?_)
  replace h := h I795 hI795
  exact v_vret 27 rfl rfl (by decide) (by decide) ⟨_, _, rfl, rfl, h⟩
def W_X4_record (p1 : Nat) (I : TI) (L : TL) (Q : TI → TL → Prop) : Prop :=
  vp_in (I 1 4) 10 ∧ (W_X6_copyFrom (34 + 31 * (I 1 4).toNatClampNeg) p1 I L (fun (I797 : TI) (L798 : TL) => (¬ (I797 1 4) = 9 → B_X4_record_33 p1 ((I797 1 4) + 1) I797 L798 Q) ∧ ((I797 1 4) = 9 → B_X4_record_33 p1 (0 : Int32) I797 L798 Q)))
set_option maxHeartbeats 4000000 in
set_option maxRecDepth 100000 in
theorem ok_X4_record {G : GT} {b d t : Nat} (p1 : Nat) (I : TI) (L : TL) (hp1 : stOK p1) {Q : TI → TL → Prop} (h : W_X4_record p1 I L Q) : MW G Y_X4_record [.ref 1, .ref p1] (I, L, RT b d t, 457) (fun v9 u9 => ∃ (I9 : TI) (L9 : TL), v9 = none ∧ u9 = (I9, L9, RT b d t, 457) ∧ Q I9 L9) (fun _ _ => False) := by
  unfold W_X4_record at h
  refine MW.intro rfl (by decide) is_X4_record (Nat.le_of_ble_eq_true rfl) ?_
  show V G Y_X4_record 0 [(0, .ref 1), (1, .ref p1)] [] (I, L, RT b d t, 457) 0 0 _ _
  refine v_aload_n (pc' := 1) 0 0 rfl rfl rfl rfl ?_
  refine v_getR (t := 2) (pc' := 4) 1 rfl rfl pf_X4_11 ly_1 (lay_lt ly_1 (by decide)) rt_1_0 ?_
  refine v_aload_n (pc' := 5) 2 0 rfl rfl rfl rfl ?_
  refine v_getI (pc' := 8) 3 rfl rfl pf_X4_30 ly_1 (lay_lt ly_1 (by decide)) ?_
  obtain ⟨hi796, h⟩ := h
  refine v_aald4 (i := (I 1 4)) (r := (34 + 31 * (I 1 4).toNatClampNeg)) (j := (I 1 4).toNatClampNeg) (pc' := 9) 4 rfl rfl ly_2 ln_2 (lay_lt ly_2 (by decide)) hi796 rfl (rt_hs (vp_nat hi796)) ?_
  refine v_aload_n (pc' := 10) 5 1 rfl rfl rfl rfl ?_
  refine v_cV (Y2 := Y_X6_copyFrom) (As := [.ref p1]) (b := (34 + 31 * (I 1 4).toNatClampNeg)) (pc' := 13) (c1 := 0) (s1 := 0) 6 rfl rfl mf_X6_copyFrom rfl rfl ml_X4_33 mi_X6_copyFrom se_X6_copyFrom (ci := 5) rfl (st0l (hs_row (vp_nat hi796))) (lay_lt (st0l (hs_row (vp_nat hi796))) (by decide)) rfl (Nat.le_of_ble_eq_true rfl) ⟨Nat.le_of_ble_eq_true rfl, Nat.le_of_ble_eq_true rfl⟩ rfl rfl (ok_X6_copyFrom (34 + 31 * (I 1 4).toNatClampNeg) p1 I L (hs_row (vp_nat hi796)) hp1 h) ?_ ?_
  · intro e9 u9 hx9
    exact hx9.elim
  intro v9 u9 hv9
  obtain ⟨I797, L798, rfl, rfl, h⟩ := hv9
  refine ⟨fun q => absurd q (Nat.lt_irrefl _), ?_⟩
  show V G Y_X4_record 13 _ _ _ _ _ _ _
  refine v_aload_n (pc' := 14) 7 0 rfl rfl rfl rfl ?_
  refine v_aload_n (pc' := 15) 8 0 rfl rfl rfl rfl ?_
  refine v_getI (pc' := 18) 9 rfl rfl pf_X4_30 ly_1 (lay_lt ly_1 (by decide)) ?_
  refine v_bipush (v := 9) (pc' := 20) 10 rfl rfl (by decide) ?_
  refine v_icmp_ne (tgt := 27) (pc' := 23) 11 rfl rfl (by decide) (fun hc => ?_) (fun hc => ?_)
  · replace h := h.1 hc
    refine v_aload_n (pc' := 28) 14 0 rfl rfl rfl rfl ?_
    refine v_getI (pc' := 31) 15 rfl rfl pf_X4_30 ly_1 (lay_lt ly_1 (by decide)) ?_
    refine v_iconst (v := 1) (pc' := 32) 16 rfl rfl (by decide) ?_
    refine v_iadd (pc' := 33) 17 rfl rfl ?_
    refine V.sub [0] rfl ?_
    exact b_X4_record_33 p1 ((I797 1 4) + 1) I797 L798 hp1 Q h
  replace h := h.2 hc
  refine v_iconst (v := 0) (pc' := 24) 12 rfl rfl (by decide) ?_
  refine v_goto (tgt := 33) 13 rfl (by decide) ?_
  refine V.sub [0] rfl ?_
  exact b_X4_record_33 p1 (0 : Int32) I797 L798 hp1 Q h
def B_X4_takeBack_19 (p1 : Nat) (s1 : Int32) (I : TI) (L : TL) (Q : TI → TL → Prop) : Prop :=
  vp_in ((up2 (up2 I 1 4 s1) 1 3 (((up2 I 1 4 s1) 1 3) - 1)) 1 4) 10 ∧ (W_X6_copyFrom p1 (34 + 31 * ((up2 (up2 I 1 4 s1) 1 3 (((up2 I 1 4 s1) 1 3) - 1)) 1 4).toNatClampNeg) (up2 (up2 I 1 4 s1) 1 3 (((up2 I 1 4 s1) 1 3) - 1)) L (fun (I806 : TI) (L807 : TL) => Q I806 L807))
set_option maxHeartbeats 4000000 in
set_option maxRecDepth 100000 in
theorem b_X4_takeBack_19 {G : GT} {b d t : Nat} (p1 : Nat) (s1 : Int32) (I : TI) (L : TL) (hp1 : stOK p1) (Q : TI → TL → Prop)  (h : B_X4_takeBack_19 p1 s1 I L Q) : V G Y_X4_takeBack 19 [(0, .ref 1), (1, .ref p1)] [.int s1, .ref 1] (I, L, RT b d t, 457) 0 0 (fun v9 u9 => ∃ (I9 : TI) (L9 : TL), v9 = none ∧ u9 = (I9, L9, RT b d t, 457) ∧ Q I9 L9) (fun _ _ => False) := by
  unfold B_X4_takeBack_19 at h
  refine v_putI (pc' := 22) 10 rfl rfl pf_X4_30 (fun q => absurd q (by decide)) ly_1 (lay_lt ly_1 (by decide)) ?_
  refine v_aload_n (pc' := 23) 11 0 rfl rfl rfl rfl ?_
  refine v_dup (pc' := 24) 12 rfl rfl rfl ?_
  refine v_getI (pc' := 27) 13 rfl rfl pf_X4_26 ly_1 (lay_lt ly_1 (by decide)) ?_
  refine v_iconst (v := 1) (pc' := 28) 14 rfl rfl (by decide) ?_
  refine v_isub (pc' := 29) 15 rfl rfl ?_
  refine v_putI (pc' := 32) 16 rfl rfl pf_X4_26 (fun q => absurd q (by decide)) ly_1 (lay_lt ly_1 (by decide)) ?_
  refine v_aload_n (pc' := 33) 17 1 rfl rfl rfl rfl ?_
  refine v_aload_n (pc' := 34) 18 0 rfl rfl rfl rfl ?_
  refine v_getR (t := 2) (pc' := 37) 19 rfl rfl pf_X4_11 ly_1 (lay_lt ly_1 (by decide)) rt_1_0 ?_
  refine v_aload_n (pc' := 38) 20 0 rfl rfl rfl rfl ?_
  refine v_getI (pc' := 41) 21 rfl rfl pf_X4_30 ly_1 (lay_lt ly_1 (by decide)) ?_
  obtain ⟨hi805, h⟩ := h
  refine v_aald4 (i := ((up2 (up2 I 1 4 s1) 1 3 (((up2 I 1 4 s1) 1 3) - 1)) 1 4)) (r := (34 + 31 * ((up2 (up2 I 1 4 s1) 1 3 (((up2 I 1 4 s1) 1 3) - 1)) 1 4).toNatClampNeg)) (j := ((up2 (up2 I 1 4 s1) 1 3 (((up2 I 1 4 s1) 1 3) - 1)) 1 4).toNatClampNeg) (pc' := 42) 22 rfl rfl ly_2 ln_2 (lay_lt ly_2 (by decide)) hi805 rfl (rt_hs (vp_nat hi805)) ?_
  refine v_cV (Y2 := Y_X6_copyFrom) (As := [.ref (34 + 31 * ((up2 (up2 I 1 4 s1) 1 3 (((up2 I 1 4 s1) 1 3) - 1)) 1 4).toNatClampNeg)]) (b := p1) (pc' := 45) (c1 := 0) (s1 := 0) 23 rfl rfl mf_X6_copyFrom rfl rfl ml_X4_33 mi_X6_copyFrom se_X6_copyFrom (ci := 5) rfl (st0l hp1) (lay_lt (st0l hp1) (by decide)) rfl (Nat.le_of_ble_eq_true rfl) ⟨Nat.le_of_ble_eq_true rfl, Nat.le_of_ble_eq_true rfl⟩ rfl rfl (ok_X6_copyFrom p1 (34 + 31 * ((up2 (up2 I 1 4 s1) 1 3 (((up2 I 1 4 s1) 1 3) - 1)) 1 4).toNatClampNeg) (up2 (up2 I 1 4 s1) 1 3 (((up2 I 1 4 s1) 1 3) - 1)) L hp1 (hs_row (vp_nat hi805)) h) ?_ ?_
  · intro e9 u9 hx9
    exact hx9.elim
  intro v9 u9 hv9
  obtain ⟨I806, L807, rfl, rfl, h⟩ := hv9
  refine ⟨fun q => absurd q (Nat.lt_irrefl _), ?_⟩
  show V G Y_X4_takeBack 45 _ _ _ _ _ _ _
  exact v_vret 24 rfl rfl (by decide) (by decide) ⟨_, _, rfl, rfl, h⟩
def W_X4_takeBack (p1 : Nat) (I : TI) (L : TL) (Q : TI → TL → Prop) : Prop :=
  (¬ (I 1 4) = 0 → B_X4_takeBack_19 p1 ((I 1 4) - 1) I L Q) ∧ ((I 1 4) = 0 → B_X4_takeBack_19 p1 (9 : Int32) I L Q)
set_option maxHeartbeats 4000000 in
set_option maxRecDepth 100000 in
theorem ok_X4_takeBack {G : GT} {b d t : Nat} (p1 : Nat) (I : TI) (L : TL) (hp1 : stOK p1) {Q : TI → TL → Prop} (h : W_X4_takeBack p1 I L Q) : MW G Y_X4_takeBack [.ref 1, .ref p1] (I, L, RT b d t, 457) (fun v9 u9 => ∃ (I9 : TI) (L9 : TL), v9 = none ∧ u9 = (I9, L9, RT b d t, 457) ∧ Q I9 L9) (fun _ _ => False) := by
  unfold W_X4_takeBack at h
  refine MW.intro rfl (by decide) is_X4_takeBack (Nat.le_of_ble_eq_true rfl) ?_
  show V G Y_X4_takeBack 0 [(0, .ref 1), (1, .ref p1)] [] (I, L, RT b d t, 457) 0 0 _ _
  refine v_aload_n (pc' := 1) 0 0 rfl rfl rfl rfl ?_
  refine v_aload_n (pc' := 2) 1 0 rfl rfl rfl rfl ?_
  refine v_getI (pc' := 5) 2 rfl rfl pf_X4_30 ly_1 (lay_lt ly_1 (by decide)) ?_
  refine v_if_ne (tgt := 13) (pc' := 8) 3 rfl rfl (by decide) (fun hc => ?_) (fun hc => ?_)
  · replace h := h.1 hc
    refine v_aload_n (pc' := 14) 6 0 rfl rfl rfl rfl ?_
    refine v_getI (pc' := 17) 7 rfl rfl pf_X4_30 ly_1 (lay_lt ly_1 (by decide)) ?_
    refine v_iconst (v := 1) (pc' := 18) 8 rfl rfl (by decide) ?_
    refine v_isub (pc' := 19) 9 rfl rfl ?_
    exact b_X4_takeBack_19 p1 ((I 1 4) - 1) I L hp1 Q h
  replace h := h.2 hc
  refine v_bipush (v := 9) (pc' := 10) 4 rfl rfl (by decide) ?_
  refine v_goto (tgt := 19) 5 rfl (by decide) ?_
  exact b_X4_takeBack_19 p1 (9 : Int32) I L hp1 Q h
def W_X4_keep (p1 : Nat) (I : TI) (L : TL) (Q : TI → TL → Prop) : Prop :=
  W_X6_copyFrom 3 p1 I L (fun (I810 : TI) (L811 : TL) => Q (up2 I810 1 2 1) L811)
set_option maxHeartbeats 4000000 in
set_option maxRecDepth 100000 in
theorem ok_X4_keep {G : GT} {b d t : Nat} (p1 : Nat) (I : TI) (L : TL) (hp1 : stOK p1) {Q : TI → TL → Prop} (h : W_X4_keep p1 I L Q) : MW G Y_X4_keep [.ref 1, .ref p1] (I, L, RT b d t, 457) (fun v9 u9 => ∃ (I9 : TI) (L9 : TL), v9 = none ∧ u9 = (I9, L9, RT b d t, 457) ∧ Q I9 L9) (fun _ _ => False) := by
  unfold W_X4_keep at h
  refine MW.intro rfl (by decide) is_X4_keep (Nat.le_of_ble_eq_true rfl) ?_
  show V G Y_X4_keep 0 [(0, .ref 1), (1, .ref p1)] [] (I, L, RT b d t, 457) 0 0 _ _
  refine v_aload_n (pc' := 1) 0 0 rfl rfl rfl rfl ?_
  refine v_getR (t := 3) (pc' := 4) 1 rfl rfl pf_X4_18 ly_1 (lay_lt ly_1 (by decide)) rt_1_1 ?_
  refine v_aload_n (pc' := 5) 2 1 rfl rfl rfl rfl ?_
  refine v_cV (Y2 := Y_X6_copyFrom) (As := [.ref p1]) (b := 3) (pc' := 8) (c1 := 0) (s1 := 0) 3 rfl rfl mf_X6_copyFrom rfl rfl ml_X4_33 mi_X6_copyFrom se_X6_copyFrom (ci := 5) rfl (st0l st_3) (lay_lt (st0l st_3) (by decide)) rfl (Nat.le_of_ble_eq_true rfl) ⟨Nat.le_of_ble_eq_true rfl, Nat.le_of_ble_eq_true rfl⟩ rfl rfl (ok_X6_copyFrom 3 p1 I L st_3 hp1 h) ?_ ?_
  · intro e9 u9 hx9
    exact hx9.elim
  intro v9 u9 hv9
  obtain ⟨I810, L811, rfl, rfl, h⟩ := hv9
  refine ⟨fun q => absurd q (Nat.lt_irrefl _), ?_⟩
  show V G Y_X4_keep 8 _ _ _ _ _ _ _
  refine v_aload_n (pc' := 9) 4 0 rfl rfl rfl rfl ?_
  refine v_iconst (v := 1) (pc' := 10) 5 rfl rfl (by decide) ?_
  refine v_putZ (pc' := 13) 6 rfl rfl pf_X4_22 (fun q => absurd q (by decide)) ly_1 (lay_lt ly_1 (by decide)) (by decide) ?_
  exact v_vret 7 rfl rfl (by decide) (by decide) ⟨_, _, rfl, rfl, h⟩
def W_X4_bringBack (p1 : Nat) (I : TI) (L : TL) (Q : TI → TL → Prop) : Prop :=
  W_X6_copyFrom p1 3 I L (fun (I814 : TI) (L815 : TL) => Q (up2 I814 1 3 0) L815)
set_option maxHeartbeats 4000000 in
set_option maxRecDepth 100000 in
theorem ok_X4_bringBack {G : GT} {b d t : Nat} (p1 : Nat) (I : TI) (L : TL) (hp1 : stOK p1) {Q : TI → TL → Prop} (h : W_X4_bringBack p1 I L Q) : MW G Y_X4_bringBack [.ref 1, .ref p1] (I, L, RT b d t, 457) (fun v9 u9 => ∃ (I9 : TI) (L9 : TL), v9 = none ∧ u9 = (I9, L9, RT b d t, 457) ∧ Q I9 L9) (fun _ _ => False) := by
  unfold W_X4_bringBack at h
  refine MW.intro rfl (by decide) is_X4_bringBack (Nat.le_of_ble_eq_true rfl) ?_
  show V G Y_X4_bringBack 0 [(0, .ref 1), (1, .ref p1)] [] (I, L, RT b d t, 457) 0 0 _ _
  refine v_aload_n (pc' := 1) 0 1 rfl rfl rfl rfl ?_
  refine v_aload_n (pc' := 2) 1 0 rfl rfl rfl rfl ?_
  refine v_getR (t := 3) (pc' := 5) 2 rfl rfl pf_X4_18 ly_1 (lay_lt ly_1 (by decide)) rt_1_1 ?_
  refine v_cV (Y2 := Y_X6_copyFrom) (As := [.ref 3]) (b := p1) (pc' := 8) (c1 := 0) (s1 := 0) 3 rfl rfl mf_X6_copyFrom rfl rfl ml_X4_33 mi_X6_copyFrom se_X6_copyFrom (ci := 5) rfl (st0l hp1) (lay_lt (st0l hp1) (by decide)) rfl (Nat.le_of_ble_eq_true rfl) ⟨Nat.le_of_ble_eq_true rfl, Nat.le_of_ble_eq_true rfl⟩ rfl rfl (ok_X6_copyFrom p1 3 I L hp1 st_3 h) ?_ ?_
  · intro e9 u9 hx9
    exact hx9.elim
  intro v9 u9 hv9
  obtain ⟨I814, L815, rfl, rfl, h⟩ := hv9
  refine ⟨fun q => absurd q (Nat.lt_irrefl _), ?_⟩
  show V G Y_X4_bringBack 8 _ _ _ _ _ _ _
  refine v_aload_n (pc' := 9) 4 0 rfl rfl rfl rfl ?_
  refine v_iconst (v := 0) (pc' := 10) 5 rfl rfl (by decide) ?_
  refine v_putI (pc' := 13) 6 rfl rfl pf_X4_26 (fun q => absurd q (by decide)) ly_1 (lay_lt ly_1 (by decide)) ?_
  exact v_vret 7 rfl rfl (by decide) (by decide) ⟨_, _, rfl, rfl, h⟩
def W_X4_discardAll (I : TI) (L : TL) (Q : TI → Prop) : Prop :=
  Q (up2 (up2 I 1 3 0) 1 2 0)
set_option maxHeartbeats 4000000 in
set_option maxRecDepth 100000 in
theorem ok_X4_discardAll {G : GT} {b d t : Nat} (I : TI) (L : TL)  {Q : TI → Prop} (h : W_X4_discardAll I L Q) : MW G Y_X4_discardAll [.ref 1] (I, L, RT b d t, 457) (fun v9 u9 => ∃ (I9 : TI), v9 = none ∧ u9 = (I9, L, RT b d t, 457) ∧ Q I9) (fun _ _ => False) := by
  unfold W_X4_discardAll at h
  refine MW.intro rfl (by decide) is_X4_discardAll (Nat.le_of_ble_eq_true rfl) ?_
  show V G Y_X4_discardAll 0 [(0, .ref 1)] [] (I, L, RT b d t, 457) 0 0 _ _
  refine v_aload_n (pc' := 1) 0 0 rfl rfl rfl rfl ?_
  refine v_iconst (v := 0) (pc' := 2) 1 rfl rfl (by decide) ?_
  refine v_putI (pc' := 5) 2 rfl rfl pf_X4_26 (fun q => absurd q (by decide)) ly_1 (lay_lt ly_1 (by decide)) ?_
  refine v_aload_n (pc' := 6) 3 0 rfl rfl rfl rfl ?_
  refine v_iconst (v := 0) (pc' := 7) 4 rfl rfl (by decide) ?_
  refine v_putZ (pc' := 10) 5 rfl rfl pf_X4_22 (fun q => absurd q (by decide)) ly_1 (lay_lt ly_1 (by decide)) (by decide) ?_
  exact v_vret 6 rfl rfl (by decide) (by decide) ⟨_, rfl, rfl, h⟩
def W_X5_beginTest (I : TI) (L : TL) (Q : TI → Prop) : Prop :=
  Q (up2 (up2 I 346 5 0) 346 6 ((up2 I 346 5 0) 346 4))
set_option maxHeartbeats 4000000 in
set_option maxRecDepth 100000 in
theorem ok_X5_beginTest {G : GT} {b d t : Nat} (I : TI) (L : TL)  {Q : TI → Prop} (h : W_X5_beginTest I L Q) : MW G Y_X5_beginTest [.ref 346] (I, L, RT b d t, 457) (fun v9 u9 => ∃ (I9 : TI), v9 = none ∧ u9 = (I9, L, RT b d t, 457) ∧ Q I9) (fun _ _ => False) := by
  unfold W_X5_beginTest at h
  refine MW.intro rfl (by decide) is_X5_beginTest (Nat.le_of_ble_eq_true rfl) ?_
  show V G Y_X5_beginTest 0 [(0, .ref 346)] [] (I, L, RT b d t, 457) 0 0 _ _
  refine v_aload_n (pc' := 1) 0 0 rfl rfl rfl rfl ?_
  refine v_iconst (v := 0) (pc' := 2) 1 rfl rfl (by decide) ?_
  refine v_putI (pc' := 5) 2 rfl rfl pf_X5_29 (fun q => absurd q (by decide)) ly_346 (lay_lt ly_346 (by decide)) ?_
  refine v_aload_n (pc' := 6) 3 0 rfl rfl rfl rfl ?_
  refine v_aload_n (pc' := 7) 4 0 rfl rfl rfl rfl ?_
  refine v_getI (pc' := 10) 5 rfl rfl pf_X5_26 ly_346 (lay_lt ly_346 (by decide)) ?_
  refine v_putI (pc' := 13) 6 rfl rfl pf_X5_32 (fun q => absurd q (by decide)) ly_346 (lay_lt ly_346 (by decide)) ?_
  exact v_vret 7 rfl rfl (by decide) (by decide) ⟨_, rfl, rfl, h⟩
def B_X5_openFactors_103 (v3 : Int32) (I : TI) (L : TL) (t : Nat) (Q : TI → Prop) (R9 : Int32 → Int32 → TI → Prop) : Prop :=
  W_X7_isWord 467 I L t (fun (r834 : Int32) => R9 r834 (v3 + 1) I)
set_option maxHeartbeats 4000000 in
set_option maxRecDepth 100000 in
theorem b_X5_openFactors_103 {G : GT} {b d : Nat} (v3 : Int32) (I : TI) (L : TL) (t : Nat) (ht : txOK t) (Q : TI → Prop) (R9 : Int32 → Int32 → TI → Prop) (hR9 : ∀ (v2 : Int32) (v3 : Int32) (I : TI), R9 v2 v3 I → V G Y_X5_openFactors 9 [(0, .ref 346), (1, .ref 344), (2, .int v2), (3, .int v3)] [] (I, L, RT b d t, 457) 0 0 (fun v9 u9 => ∃ (I9 : TI), v9 = none ∧ u9 = (I9, L, RT b d t, 457) ∧ Q I9) (fun _ _ => False)) (h : B_X5_openFactors_103 v3 I L t Q R9) : V G Y_X5_openFactors 103 [(0, .ref 346), (1, .ref 344), (3, .int v3)] [] (I, L, RT b d t, 457) 0 0 (fun v9 u9 => ∃ (I9 : TI), v9 = none ∧ u9 = (I9, L, RT b d t, 457) ∧ Q I9) (fun _ _ => False) := by
  unfold B_X5_openFactors_103 at h
  refine v_aload_n (pc' := 104) 55 1 rfl rfl rfl rfl ?_
  refine v_ldcS (pc' := 106) 56 rfl rfl sr_X5_69 ?_
  refine v_cV (Y2 := Y_X7_isWord) (As := [.ref 467]) (b := 344) (pc' := 109) (c1 := 0) (s1 := 0) 57 rfl rfl mf_X7_isWord rfl rfl ml_X5_71 mi_X7_isWord se_X7_isWord (ci := 6) rfl ly_344 (lay_lt ly_344 (by decide)) rfl (Nat.le_of_ble_eq_true rfl) ⟨Nat.le_of_ble_eq_true rfl, Nat.le_of_ble_eq_true rfl⟩ rfl rfl (ok_X7_isWord 467 I L t ht h) ?_ ?_
  · intro e9 u9 hx9
    exact hx9.elim
  intro v9 u9 hv9
  obtain ⟨r834, rfl, rfl, h⟩ := hv9
  refine ⟨fun q => absurd q (Nat.lt_irrefl _), ?_⟩
  show V G Y_X5_openFactors 109 _ (.int r834 :: _) _ _ _ _ _
  refine v_istore_n (ls' := [(2, .int r834), (0, .ref 346), (1, .ref 344), (3, .int v3)]) (pc' := 110) 58 rfl rfl rfl (by decide) rfl ?_
  refine v_iinc (v := (v3 + 1)) (ls' := [(3, .int (v3 + 1)), (2, .int r834), (0, .ref 346), (1, .ref 344)]) (pc' := 113) 59 3 rfl rfl rfl rfl (by decide) rfl ?_
  refine v_goto (tgt := 9) 60 rfl (by decide) ?_
  refine V.sub [2, 3, 1, 0] rfl ?_
  exact hR9 r834 (v3 + 1) I h
def B_X5_openFactors_99 (v3 : Int32) (I : TI) (L : TL) (t : Nat) (Q : TI → Prop) (R9 : Int32 → Int32 → TI → Prop) : Prop :=
  W_X7_advance I L t (fun (I835 : TI) => B_X5_openFactors_103 v3 I835 L t Q R9)
set_option maxHeartbeats 4000000 in
set_option maxRecDepth 100000 in
theorem b_X5_openFactors_99 {G : GT} {b d : Nat} (v3 : Int32) (I : TI) (L : TL) (t : Nat) (ht : txOK t) (Q : TI → Prop) (R9 : Int32 → Int32 → TI → Prop) (hR9 : ∀ (v2 : Int32) (v3 : Int32) (I : TI), R9 v2 v3 I → V G Y_X5_openFactors 9 [(0, .ref 346), (1, .ref 344), (2, .int v2), (3, .int v3)] [] (I, L, RT b d t, 457) 0 0 (fun v9 u9 => ∃ (I9 : TI), v9 = none ∧ u9 = (I9, L, RT b d t, 457) ∧ Q I9) (fun _ _ => False)) (h : B_X5_openFactors_99 v3 I L t Q R9) : V G Y_X5_openFactors 99 [(0, .ref 346), (1, .ref 344), (3, .int v3)] [] (I, L, RT b d t, 457) 0 0 (fun v9 u9 => ∃ (I9 : TI), v9 = none ∧ u9 = (I9, L, RT b d t, 457) ∧ Q I9) (fun _ _ => False) := by
  unfold B_X5_openFactors_99 at h
  refine v_aload_n (pc' := 100) 53 1 rfl rfl rfl rfl ?_
  refine v_cV (Y2 := Y_X7_advance) (As := []) (b := 344) (pc' := 103) (c1 := 0) (s1 := 0) 54 rfl rfl mf_X7_advance rfl rfl ml_X5_84 mi_X7_advance se_X7_advance (ci := 6) rfl ly_344 (lay_lt ly_344 (by decide)) rfl (Nat.le_of_ble_eq_true rfl) ⟨Nat.le_of_ble_eq_true rfl, Nat.le_of_ble_eq_true rfl⟩ rfl rfl (ok_X7_advance I L t ht h) ?_ ?_
  · intro e9 u9 hx9
    exact hx9.elim
  intro v9 u9 hv9
  obtain ⟨I835, rfl, rfl, h⟩ := hv9
  refine ⟨fun q => absurd q (Nat.lt_irrefl _), ?_⟩
  show V G Y_X5_openFactors 103 _ _ _ _ _ _ _
  exact b_X5_openFactors_103 v3 I835 L t ht Q R9 hR9 h
def B_X5_openFactors_28 (v2 : Int32) (v3 : Int32) (I : TI) (L : TL) (t : Nat) (Q : TI → Prop) (R9 : Int32 → Int32 → TI → Prop) : Prop :=
  ((I 346 3) < 6 → vp_in (I 346 3) 6 ∧ (vp_in ((up2 I 347 ((I 346 3).toNatClampNeg) (v2 &&& 1)) 346 3) 6 ∧ (∀ I838 : TI, I838 = (up2 (up2 I 347 ((I 346 3).toNatClampNeg) (v2 &&& 1)) 348 (((up2 I 347 ((I 346 3).toNatClampNeg) (v2 &&& 1)) 346 3).toNatClampNeg) ((up2 I 347 ((I 346 3).toNatClampNeg) (v2 &&& 1)) 346 5)) → (vp_in (I838 346 3) 6 ∧ (∀ I840 : TI, I840 = (up2 (up2 I838 349 ((I838 346 3).toNatClampNeg) (I838 346 6)) 346 3 (((up2 I838 349 ((I838 346 3).toNatClampNeg) (I838 346 6)) 346 3) + 1)) → ((¬ v2 = 0 → B_X5_openFactors_99 v3 I840 L t Q R9) ∧ (v2 = 0 → W_X5_beginTest I840 L (fun (I841 : TI) => B_X5_openFactors_99 v3 I841 L t Q R9)))))))) ∧ (¬ (I 346 3) < 6 → W_X7_fail (3 : Int32) I L (fun (I842 : TI) => B_X5_openFactors_103 v3 I842 L t Q R9))
set_option maxHeartbeats 4000000 in
set_option maxRecDepth 100000 in
theorem b_X5_openFactors_28 {G : GT} {b d : Nat} (v2 : Int32) (v3 : Int32) (I : TI) (L : TL) (t : Nat) (ht : txOK t) (Q : TI → Prop) (R9 : Int32 → Int32 → TI → Prop) (hR9 : ∀ (v2 : Int32) (v3 : Int32) (I : TI), R9 v2 v3 I → V G Y_X5_openFactors 9 [(0, .ref 346), (1, .ref 344), (2, .int v2), (3, .int v3)] [] (I, L, RT b d t, 457) 0 0 (fun v9 u9 => ∃ (I9 : TI), v9 = none ∧ u9 = (I9, L, RT b d t, 457) ∧ Q I9) (fun _ _ => False)) (h : B_X5_openFactors_28 v2 v3 I L t Q R9) : V G Y_X5_openFactors 28 [(0, .ref 346), (1, .ref 344), (2, .int v2), (3, .int v3)] [] (I, L, RT b d t, 457) 0 0 (fun v9 u9 => ∃ (I9 : TI), v9 = none ∧ u9 = (I9, L, RT b d t, 457) ∧ Q I9) (fun _ _ => False) := by
  unfold B_X5_openFactors_28 at h
  refine v_aload_n (pc' := 29) 15 0 rfl rfl rfl rfl ?_
  refine v_getI (pc' := 32) 16 rfl rfl pf_X5_22 ly_346 (lay_lt ly_346 (by decide)) ?_
  refine v_bipush (v := 6) (pc' := 34) 17 rfl rfl (by decide) ?_
  refine v_icmp_lt (tgt := 45) (pc' := 37) 18 rfl rfl (by decide) (fun hc => ?_) (fun hc => ?_)
  · replace h := h.1 hc
    refine v_aload_n (pc' := 46) 23 0 rfl rfl rfl rfl ?_
    refine v_getR (t := 347) (pc' := 49) 24 rfl rfl pf_X5_9 ly_346 (lay_lt ly_346 (by decide)) rt_346_0 ?_
    refine v_aload_n (pc' := 50) 25 0 rfl rfl rfl rfl ?_
    refine v_getI (pc' := 53) 26 rfl rfl pf_X5_22 ly_346 (lay_lt ly_346 (by decide)) ?_
    refine v_iload_n (pc' := 54) 27 2 rfl rfl rfl rfl ?_
    obtain ⟨hi836, h⟩ := h
    refine v_zast (i := (I 346 3)) (j := (I 346 3).toNatClampNeg) (pc' := 55) 28 rfl rfl ly_347 ln_347 (lay_lt ly_347 (by decide)) hi836 rfl ?_
    refine v_aload_n (pc' := 56) 29 0 rfl rfl rfl rfl ?_
    refine v_getR (t := 348) (pc' := 59) 30 rfl rfl pf_X5_15 ly_346 (lay_lt ly_346 (by decide)) rt_346_1 ?_
    refine v_aload_n (pc' := 60) 31 0 rfl rfl rfl rfl ?_
    refine v_getI (pc' := 63) 32 rfl rfl pf_X5_22 ly_346 (lay_lt ly_346 (by decide)) ?_
    refine v_aload_n (pc' := 64) 33 0 rfl rfl rfl rfl ?_
    refine v_getI (pc' := 67) 34 rfl rfl pf_X5_29 ly_346 (lay_lt ly_346 (by decide)) ?_
    obtain ⟨hi837, h⟩ := h
    refine v_iast (i := ((up2 I 347 ((I 346 3).toNatClampNeg) (v2 &&& 1)) 346 3)) (j := ((up2 I 347 ((I 346 3).toNatClampNeg) (v2 &&& 1)) 346 3).toNatClampNeg) (pc' := 68) 35 rfl rfl ly_348 ln_348 (lay_lt ly_348 (by decide)) hi837 rfl ?_
    refine nm_M (e := (up2 (up2 I 347 ((I 346 3).toNatClampNeg) (v2 &&& 1)) 348 (((up2 I 347 ((I 346 3).toNatClampNeg) (v2 &&& 1)) 346 3).toNatClampNeg) ((up2 I 347 ((I 346 3).toNatClampNeg) (v2 &&& 1)) 346 5))) (fun I838 hI838 => ?_)
    replace h := h I838 hI838
    refine v_aload_n (pc' := 69) 36 0 rfl rfl rfl rfl ?_
    refine v_getR (t := 349) (pc' := 72) 37 rfl rfl pf_X5_19 ly_346 (lay_lt ly_346 (by decide)) rt_346_2 ?_
    refine v_aload_n (pc' := 73) 38 0 rfl rfl rfl rfl ?_
    refine v_getI (pc' := 76) 39 rfl rfl pf_X5_22 ly_346 (lay_lt ly_346 (by decide)) ?_
    refine v_aload_n (pc' := 77) 40 0 rfl rfl rfl rfl ?_
    refine v_getI (pc' := 80) 41 rfl rfl pf_X5_32 ly_346 (lay_lt ly_346 (by decide)) ?_
    obtain ⟨hi839, h⟩ := h
    refine v_iast (i := (I838 346 3)) (j := (I838 346 3).toNatClampNeg) (pc' := 81) 42 rfl rfl ly_349 ln_349 (lay_lt ly_349 (by decide)) hi839 rfl ?_
    refine v_aload_n (pc' := 82) 43 0 rfl rfl rfl rfl ?_
    refine v_dup (pc' := 83) 44 rfl rfl rfl ?_
    refine v_getI (pc' := 86) 45 rfl rfl pf_X5_22 ly_346 (lay_lt ly_346 (by decide)) ?_
    refine v_iconst (v := 1) (pc' := 87) 46 rfl rfl (by decide) ?_
    refine v_iadd (pc' := 88) 47 rfl rfl ?_
    refine v_putI (pc' := 91) 48 rfl rfl pf_X5_22 (fun q => absurd q (by decide)) ly_346 (lay_lt ly_346 (by decide)) ?_
    refine nm_M (e := (up2 (up2 I838 349 ((I838 346 3).toNatClampNeg) (I838 346 6)) 346 3 (((up2 I838 349 ((I838 346 3).toNatClampNeg) (I838 346 6)) 346 3) + 1))) (fun I840 hI840 => ?_)
    replace h := h I840 hI840
    refine v_iload_n (pc' := 92) 49 2 rfl rfl rfl rfl ?_
    refine v_if_ne (tgt := 99) (pc' := 95) 50 rfl rfl (by decide) (fun hc => ?_) (fun hc => ?_)
    · replace h := h.1 hc
      refine V.sub [0, 1, 3] rfl ?_
      exact b_X5_openFactors_99 v3 I840 L t ht Q R9 hR9 h
    replace h := h.2 hc
    refine v_aload_n (pc' := 96) 51 0 rfl rfl rfl rfl ?_
    refine v_cV (Y2 := Y_X5_beginTest) (As := []) (b := 346) (pc' := 99) (c1 := 0) (s1 := 0) 52 rfl rfl mf_X5_beginTest rfl rfl ml_X5_47 mi_X5_beginTest se_X5_beginTest (ci := 4) rfl ly_346 (lay_lt ly_346 (by decide)) rfl (Nat.le_of_ble_eq_true rfl) ⟨Nat.le_of_ble_eq_true rfl, Nat.le_of_ble_eq_true rfl⟩ rfl rfl (ok_X5_beginTest I840 L h) ?_ ?_
    · intro e9 u9 hx9
      exact hx9.elim
    intro v9 u9 hv9
    obtain ⟨I841, rfl, rfl, h⟩ := hv9
    refine ⟨fun q => absurd q (Nat.lt_irrefl _), ?_⟩
    show V G Y_X5_openFactors 99 _ _ _ _ _ _ _
    refine V.sub [0, 1, 3] rfl ?_
    exact b_X5_openFactors_99 v3 I841 L t ht Q R9 hR9 h
  replace h := h.2 hc
  refine v_aload_n (pc' := 38) 19 1 rfl rfl rfl rfl ?_
  refine v_iconst (v := 3) (pc' := 39) 20 rfl rfl (by decide) ?_
  refine v_cV (Y2 := Y_X7_fail) (As := [.int 3]) (b := 344) (pc' := 42) (c1 := 0) (s1 := 0) 21 rfl rfl mf_X7_fail rfl rfl ml_X5_81 mi_X7_fail se_X7_fail (ci := 6) rfl ly_344 (lay_lt ly_344 (by decide)) rfl (Nat.le_of_ble_eq_true rfl) ⟨Nat.le_of_ble_eq_true rfl, Nat.le_of_ble_eq_true rfl⟩ rfl rfl (ok_X7_fail (3 : Int32) I L h) ?_ ?_
  · intro e9 u9 hx9
    exact hx9.elim
  intro v9 u9 hv9
  obtain ⟨I842, rfl, rfl, h⟩ := hv9
  refine ⟨fun q => absurd q (Nat.lt_irrefl _), ?_⟩
  show V G Y_X5_openFactors 42 _ _ _ _ _ _ _
  refine v_goto (tgt := 103) 22 rfl (by decide) ?_
  refine V.sub [0, 1, 3] rfl ?_
  exact b_X5_openFactors_103 v3 I842 L t ht Q R9 hR9 h
def D_X5_openFactors_9 (L : TL) (t : Nat) (Q : TI → Prop) (R9 : Int32 → Int32 → TI → Prop) (v2 : Int32) (v3 : Int32) (I : TI) : Prop :=
  (6 < v3 → Q I) ∧ (¬ 6 < v3 → (¬ v2 = 0 → B_X5_openFactors_28 v2 v3 I L t Q R9) ∧ (v2 = 0 → W_X7_isSign (40 : Int32) I L t (fun (r843 : Int32) => (r843 = 0 → Q I) ∧ (¬ r843 = 0 → B_X5_openFactors_28 v2 v3 I L t Q R9))))
def L_X5_openFactors_9 (L : TL) (t : Nat) (Q : TI → Prop) : Nat → Int32 → Int32 → TI → Prop
  | 0, _, _, _ => False
  | n9 + 1, v2, v3, I => D_X5_openFactors_9 L t Q (fun v2 v3 I => L_X5_openFactors_9 L t Q n9 v2 v3 I) v2 v3 I
set_option maxHeartbeats 4000000 in
set_option maxRecDepth 100000 in
theorem d_X5_openFactors_9 {G : GT} {b d : Nat} (L : TL) (t : Nat) (ht : txOK t) (Q : TI → Prop) (R9 : Int32 → Int32 → TI → Prop)  (hR9 : ∀ (v2 : Int32) (v3 : Int32) (I : TI), R9 v2 v3 I → V G Y_X5_openFactors 9 [(0, .ref 346), (1, .ref 344), (2, .int v2), (3, .int v3)] [] (I, L, RT b d t, 457) 0 0 (fun v9 u9 => ∃ (I9 : TI), v9 = none ∧ u9 = (I9, L, RT b d t, 457) ∧ Q I9) (fun _ _ => False)) (v2 : Int32) (v3 : Int32) (I : TI)  (h : D_X5_openFactors_9 L t Q R9 v2 v3 I) : V G Y_X5_openFactors 9 [(0, .ref 346), (1, .ref 344), (2, .int v2), (3, .int v3)] [] (I, L, RT b d t, 457) 0 0 (fun v9 u9 => ∃ (I9 : TI), v9 = none ∧ u9 = (I9, L, RT b d t, 457) ∧ Q I9) (fun _ _ => False) := by
  unfold D_X5_openFactors_9 at h
  refine v_iload_n (pc' := 10) 6 3 rfl rfl rfl rfl ?_
  refine v_bipush (v := 6) (pc' := 12) 7 rfl rfl (by decide) ?_
  refine v_icmp_gt (tgt := 116) (pc' := 15) 8 rfl rfl (by decide) (fun hc => ?_) (fun hc => ?_)
  · replace h := h.1 hc
    exact v_vret 61 rfl rfl (by decide) (by decide) ⟨_, rfl, rfl, h⟩
  replace h := h.2 hc
  refine v_iload_n (pc' := 16) 9 2 rfl rfl rfl rfl ?_
  refine v_if_ne (tgt := 28) (pc' := 19) 10 rfl rfl (by decide) (fun hc => ?_) (fun hc => ?_)
  · replace h := h.1 hc
    exact b_X5_openFactors_28 v2 v3 I L t ht Q R9 hR9 h
  replace h := h.2 hc
  refine v_aload_n (pc' := 20) 11 1 rfl rfl rfl rfl ?_
  refine v_bipush (v := 40) (pc' := 22) 12 rfl rfl (by decide) ?_
  refine v_cV (Y2 := Y_X7_isSign) (As := [.int 40]) (b := 344) (pc' := 25) (c1 := 0) (s1 := 0) 13 rfl rfl mf_X7_isSign rfl rfl ml_X5_77 mi_X7_isSign se_X7_isSign (ci := 6) rfl ly_344 (lay_lt ly_344 (by decide)) rfl (Nat.le_of_ble_eq_true rfl) ⟨Nat.le_of_ble_eq_true rfl, Nat.le_of_ble_eq_true rfl⟩ rfl rfl (ok_X7_isSign (40 : Int32) I L t ht h) ?_ ?_
  · intro e9 u9 hx9
    exact hx9.elim
  intro v9 u9 hv9
  obtain ⟨r843, rfl, rfl, h⟩ := hv9
  refine ⟨fun q => absurd q (Nat.lt_irrefl _), ?_⟩
  show V G Y_X5_openFactors 25 _ (.int r843 :: _) _ _ _ _ _
  refine v_if_eq (tgt := 116) (pc' := 28) 14 rfl rfl (by decide) (fun hc => ?_) (fun hc => ?_)
  · replace h := h.1 hc
    exact v_vret 61 rfl rfl (by decide) (by decide) ⟨_, rfl, rfl, h⟩
  replace h := h.2 hc
  exact b_X5_openFactors_28 v2 v3 I L t ht Q R9 hR9 h
theorem l_X5_openFactors_9 {G : GT} {b d : Nat} (L : TL) (t : Nat) (ht : txOK t) (Q : TI → Prop)  : ∀ (n9 : Nat) (v2 : Int32) (v3 : Int32) (I : TI), L_X5_openFactors_9 L t Q n9 v2 v3 I → V G Y_X5_openFactors 9 [(0, .ref 346), (1, .ref 344), (2, .int v2), (3, .int v3)] [] (I, L, RT b d t, 457) 0 0 (fun v9 u9 => ∃ (I9 : TI), v9 = none ∧ u9 = (I9, L, RT b d t, 457) ∧ Q I9) (fun _ _ => False)
  | 0, _, _, _, h => h.elim
  | n9 + 1, v2, v3, I, h => d_X5_openFactors_9 L t ht Q _ (l_X5_openFactors_9 L t ht Q n9) v2 v3 I h
def W_X5_openFactors (I : TI) (L : TL) (t : Nat) (Q : TI → Prop) : Prop :=
  W_X7_isWord 467 I L t (fun (r844 : Int32) => ∃ n845, L_X5_openFactors_9 L t Q n845 r844 (0 : Int32) I)
set_option maxHeartbeats 4000000 in
set_option maxRecDepth 100000 in
theorem ok_X5_openFactors {G : GT} {b d : Nat} (I : TI) (L : TL) (t : Nat) (ht : txOK t) {Q : TI → Prop} (h : W_X5_openFactors I L t Q) : MW G Y_X5_openFactors [.ref 346, .ref 344] (I, L, RT b d t, 457) (fun v9 u9 => ∃ (I9 : TI), v9 = none ∧ u9 = (I9, L, RT b d t, 457) ∧ Q I9) (fun _ _ => False) := by
  unfold W_X5_openFactors at h
  refine MW.intro rfl (by decide) is_X5_openFactors (Nat.le_of_ble_eq_true rfl) ?_
  show V G Y_X5_openFactors 0 [(0, .ref 346), (1, .ref 344)] [] (I, L, RT b d t, 457) 0 0 _ _
  refine v_aload_n (pc' := 1) 0 1 rfl rfl rfl rfl ?_
  refine v_ldcS (pc' := 3) 1 rfl rfl sr_X5_69 ?_
  refine v_cV (Y2 := Y_X7_isWord) (As := [.ref 467]) (b := 344) (pc' := 6) (c1 := 0) (s1 := 0) 2 rfl rfl mf_X7_isWord rfl rfl ml_X5_71 mi_X7_isWord se_X7_isWord (ci := 6) rfl ly_344 (lay_lt ly_344 (by decide)) rfl (Nat.le_of_ble_eq_true rfl) ⟨Nat.le_of_ble_eq_true rfl, Nat.le_of_ble_eq_true rfl⟩ rfl rfl (ok_X7_isWord 467 I L t ht h) ?_ ?_
  · intro e9 u9 hx9
    exact hx9.elim
  intro v9 u9 hv9
  obtain ⟨r844, rfl, rfl, h⟩ := hv9
  refine ⟨fun q => absurd q (Nat.lt_irrefl _), ?_⟩
  show V G Y_X5_openFactors 6 _ (.int r844 :: _) _ _ _ _ _
  refine v_istore_n (ls' := [(2, .int r844), (0, .ref 346), (1, .ref 344)]) (pc' := 7) 3 rfl rfl rfl (by decide) rfl ?_
  refine v_iconst (v := 0) (pc' := 8) 4 rfl rfl (by decide) ?_
  refine v_istore_n (ls' := [(3, .int 0), (2, .int r844), (0, .ref 346), (1, .ref 344)]) (pc' := 9) 5 rfl rfl rfl (by decide) rfl ?_
  refine V.sub [2, 3, 1, 0] rfl ?_
  obtain ⟨n845, h⟩ := h
  exact l_X5_openFactors_9 L t ht Q n845 r844 (0 : Int32) I h
def W_X8_propertyWord (p0 : Int32) (I : TI) (L : TL) (Q : Nat → Prop) : Prop :=
  (p0 = 0 → Q 471) ∧ (p0 = 1 → Q 472) ∧ (p0 = 2 → Q 484) ∧ (p0 = 3 → Q 485) ∧ (p0 = 4 → Q 486) ∧ (p0 = 5 → Q 487) ∧ (p0 = 6 → Q 488) ∧ (p0 = 7 → Q 489) ∧ (p0 < 0 ∨ 7 < p0 → Q 490)
set_option maxHeartbeats 4000000 in
set_option maxRecDepth 100000 in
theorem ok_X8_propertyWord {G : GT} {b d t : Nat} (p0 : Int32) (I : TI) (L : TL)  {Q : Nat → Prop} (h : W_X8_propertyWord p0 I L Q) : MW G Y_X8_propertyWord [.int p0] (I, L, RT b d t, 457) (fun v9 u9 => ∃ (r9 : Nat), v9 = some (.ref r9) ∧ u9 = (I, L, RT b d t, 457) ∧ Q r9) (fun _ _ => False) := by
  unfold W_X8_propertyWord at h
  refine MW.intro rfl (by decide) is_X8_propertyWord (Nat.le_of_ble_eq_true rfl) ?_
  show V G Y_X8_propertyWord 0 [(0, .int p0)] [] (I, L, RT b d t, 457) 0 0 _ _
  refine v_iload_n (pc' := 1) 0 0 rfl rfl rfl rfl ?_
  refine v_ts (clo := 0) (chi := 7) (dt := 78) 1 8 [48, 51, 54, 58, 62, 66, 70, 74] rfl (by decide) (by decide) (by decide) (by decide) (by decide) ?_ (fun hc => ?_)
  · intro j9 t9 ht9 hj9 hx9
    match j9, ht9, hj9, hx9 with
    | 0, ht9, hj9, hx9 =>
      cases ht9
      replace hx9 := hx9.trans (show Int32.ofInt _ = (0 : Int32) by decide)
      replace h := h.1 hx9
      refine v_ldcS (pc' := 50) 2 rfl rfl sr_X8_179 ?_
      exact v_aret 3 rfl rfl (by decide) (by decide) ⟨_, rfl, rfl, h⟩
    | 1, ht9, hj9, hx9 =>
      cases ht9
      replace hx9 := hx9.trans (show Int32.ofInt _ = (1 : Int32) by decide)
      replace h := h.2.1 hx9
      refine v_ldcS (pc' := 53) 4 rfl rfl sr_X8_199 ?_
      exact v_aret 5 rfl rfl (by decide) (by decide) ⟨_, rfl, rfl, h⟩
    | 2, ht9, hj9, hx9 =>
      cases ht9
      replace hx9 := hx9.trans (show Int32.ofInt _ = (2 : Int32) by decide)
      replace h := h.2.2.1 hx9
      refine v_ldcSW (pc' := 57) 6 rfl rfl sr_X8_422 ?_
      exact v_aret 7 rfl rfl (by decide) (by decide) ⟨_, rfl, rfl, h⟩
    | 3, ht9, hj9, hx9 =>
      cases ht9
      replace hx9 := hx9.trans (show Int32.ofInt _ = (3 : Int32) by decide)
      replace h := h.2.2.2.1 hx9
      refine v_ldcSW (pc' := 61) 8 rfl rfl sr_X8_423 ?_
      exact v_aret 9 rfl rfl (by decide) (by decide) ⟨_, rfl, rfl, h⟩
    | 4, ht9, hj9, hx9 =>
      cases ht9
      replace hx9 := hx9.trans (show Int32.ofInt _ = (4 : Int32) by decide)
      replace h := h.2.2.2.2.1 hx9
      refine v_ldcSW (pc' := 65) 10 rfl rfl sr_X8_425 ?_
      exact v_aret 11 rfl rfl (by decide) (by decide) ⟨_, rfl, rfl, h⟩
    | 5, ht9, hj9, hx9 =>
      cases ht9
      replace hx9 := hx9.trans (show Int32.ofInt _ = (5 : Int32) by decide)
      replace h := h.2.2.2.2.2.1 hx9
      refine v_ldcSW (pc' := 69) 12 rfl rfl sr_X8_427 ?_
      exact v_aret 13 rfl rfl (by decide) (by decide) ⟨_, rfl, rfl, h⟩
    | 6, ht9, hj9, hx9 =>
      cases ht9
      replace hx9 := hx9.trans (show Int32.ofInt _ = (6 : Int32) by decide)
      replace h := h.2.2.2.2.2.2.1 hx9
      refine v_ldcSW (pc' := 73) 14 rfl rfl sr_X8_429 ?_
      exact v_aret 15 rfl rfl (by decide) (by decide) ⟨_, rfl, rfl, h⟩
    | 7, ht9, hj9, hx9 =>
      cases ht9
      replace hx9 := hx9.trans (show Int32.ofInt _ = (7 : Int32) by decide)
      replace h := h.2.2.2.2.2.2.2.1 hx9
      refine v_ldcSW (pc' := 77) 16 rfl rfl sr_X8_431 ?_
      exact v_aret 17 rfl rfl (by decide) (by decide) ⟨_, rfl, rfl, h⟩
    | q9 + 8, ht9, hj9, hx9 => exact absurd hj9 (by omega)
  replace h := h.2.2.2.2.2.2.2.2 hc
  refine v_ldcSW (pc' := 81) 18 rfl rfl sr_X8_432 ?_
  exact v_aret 19 rfl rfl (by decide) (by decide) ⟨_, rfl, rfl, h⟩
def D_X5_readOperand_2 (I : TI) (L : TL) (t : Nat) (Q : Int32 → TI → Prop) (R2 : Int32 → Prop) (v1 : Int32) : Prop :=
  (9 ≤ v1 → W_X7_takeNumber (0 : Int32) (9999 : Int32) I L t (fun (r856 : Int32) (I857 : TI) => Q r856 I857)) ∧ (¬ 9 ≤ v1 → W_X8_propertyWord v1 I L (fun (r858 : Nat) => W_X7_isWord r858 I L t (fun (r859 : Int32) => (r859 = 0 → R2 (v1 + 1)) ∧ (¬ r859 = 0 → W_X7_advance I L t (fun (I860 : TI) => Q ((10000 : Int32) + v1) I860)))))
def L_X5_readOperand_2 (I : TI) (L : TL) (t : Nat) (Q : Int32 → TI → Prop) : Nat → Int32 → Prop
  | 0, _ => False
  | n9 + 1, v1 => D_X5_readOperand_2 I L t Q (fun v1 => L_X5_readOperand_2 I L t Q n9 v1) v1
set_option maxHeartbeats 4000000 in
set_option maxRecDepth 100000 in
theorem d_X5_readOperand_2 {G : GT} {b d : Nat} (I : TI) (L : TL) (t : Nat) (ht : txOK t) (Q : Int32 → TI → Prop) (R2 : Int32 → Prop)  (hR2 : ∀ (v1 : Int32), R2 v1 → V G Y_X5_readOperand 2 [(0, .ref 344), (1, .int v1)] [] (I, L, RT b d t, 457) 0 0 (fun v9 u9 => ∃ (r9 : Int32) (I9 : TI), v9 = some (.int r9) ∧ u9 = (I9, L, RT b d t, 457) ∧ Q r9 I9) (fun _ _ => False)) (v1 : Int32)  (h : D_X5_readOperand_2 I L t Q R2 v1) : V G Y_X5_readOperand 2 [(0, .ref 344), (1, .int v1)] [] (I, L, RT b d t, 457) 0 0 (fun v9 u9 => ∃ (r9 : Int32) (I9 : TI), v9 = some (.int r9) ∧ u9 = (I9, L, RT b d t, 457) ∧ Q r9 I9) (fun _ _ => False) := by
  unfold D_X5_readOperand_2 at h
  refine v_iload_n (pc' := 3) 2 1 rfl rfl rfl rfl ?_
  refine v_bipush (v := 9) (pc' := 5) 3 rfl rfl (by decide) ?_
  refine v_icmp_ge (tgt := 35) (pc' := 8) 4 rfl rfl (by decide) (fun hc => ?_) (fun hc => ?_)
  · replace h := h.1 hc
    refine v_aload_n (pc' := 36) 18 0 rfl rfl rfl rfl ?_
    refine v_iconst (v := 0) (pc' := 37) 19 rfl rfl (by decide) ?_
    refine v_sipush (v := 9999) (pc' := 40) 20 rfl rfl (by decide) ?_
    refine v_cV (Y2 := Y_X7_takeNumber) (As := [.int 0, .int 9999]) (b := 344) (pc' := 43) (c1 := 0) (s1 := 0) 21 rfl rfl mf_X7_takeNumber rfl rfl ml_X5_107 mi_X7_takeNumber se_X7_takeNumber (ci := 6) rfl ly_344 (lay_lt ly_344 (by decide)) rfl (Nat.le_of_ble_eq_true rfl) ⟨Nat.le_of_ble_eq_true rfl, Nat.le_of_ble_eq_true rfl⟩ rfl rfl (ok_X7_takeNumber (0 : Int32) (9999 : Int32) I L t ht h) ?_ ?_
    · intro e9 u9 hx9
      exact hx9.elim
    intro v9 u9 hv9
    obtain ⟨r856, I857, rfl, rfl, h⟩ := hv9
    refine ⟨fun q => absurd q (Nat.lt_irrefl _), ?_⟩
    show V G Y_X5_readOperand 43 _ (.int r856 :: _) _ _ _ _ _
    exact v_iret 22 rfl rfl (by decide) (by decide) ⟨_, _, rfl, rfl, h⟩
  replace h := h.2 hc
  refine v_aload_n (pc' := 9) 5 0 rfl rfl rfl rfl ?_
  refine v_iload_n (pc' := 10) 6 1 rfl rfl rfl rfl ?_
  refine v_cNS (Y2 := Y_X8_propertyWord) (As := [.int v1]) (pc' := 13) (c1 := 0) (s1 := 0) 7 rfl rfl mf_X8_propertyWord rfl rfl nt_X5_103 ms_X8_propertyWord rfl (Nat.le_of_ble_eq_true rfl) ⟨Nat.le_of_ble_eq_true rfl, Nat.le_of_ble_eq_true rfl⟩ rfl rfl (ok_X8_propertyWord v1 I L h) ?_ ?_
  · intro e9 u9 hx9
    exact hx9.elim
  intro v9 u9 hv9
  obtain ⟨r858, rfl, rfl, h⟩ := hv9
  refine ⟨fun q => absurd q (Nat.lt_irrefl _), ?_⟩
  show V G Y_X5_readOperand 13 _ (.ref r858 :: _) _ _ _ _ _
  refine v_cV (Y2 := Y_X7_isWord) (As := [.ref r858]) (b := 344) (pc' := 16) (c1 := 0) (s1 := 0) 8 rfl rfl mf_X7_isWord rfl rfl ml_X5_71 mi_X7_isWord se_X7_isWord (ci := 6) rfl ly_344 (lay_lt ly_344 (by decide)) rfl (Nat.le_of_ble_eq_true rfl) ⟨Nat.le_of_ble_eq_true rfl, Nat.le_of_ble_eq_true rfl⟩ rfl rfl (ok_X7_isWord r858 I L t ht h) ?_ ?_
  · intro e9 u9 hx9
    exact hx9.elim
  intro v9 u9 hv9
  obtain ⟨r859, rfl, rfl, h⟩ := hv9
  refine ⟨fun q => absurd q (Nat.lt_irrefl _), ?_⟩
  show V G Y_X5_readOperand 16 _ (.int r859 :: _) _ _ _ _ _
  refine v_if_eq (tgt := 29) (pc' := 19) 9 rfl rfl (by decide) (fun hc => ?_) (fun hc => ?_)
  · replace h := h.1 hc
    refine v_iinc (v := (v1 + 1)) (ls' := [(1, .int (v1 + 1)), (0, .ref 344)]) (pc' := 32) 16 1 rfl rfl rfl rfl (by decide) rfl ?_
    refine v_goto (tgt := 2) 17 rfl (by decide) ?_
    refine V.sub [1, 0] rfl ?_
    exact hR2 (v1 + 1) h
  replace h := h.2 hc
  refine v_aload_n (pc' := 20) 10 0 rfl rfl rfl rfl ?_
  refine v_cV (Y2 := Y_X7_advance) (As := []) (b := 344) (pc' := 23) (c1 := 0) (s1 := 0) 11 rfl rfl mf_X7_advance rfl rfl ml_X5_84 mi_X7_advance se_X7_advance (ci := 6) rfl ly_344 (lay_lt ly_344 (by decide)) rfl (Nat.le_of_ble_eq_true rfl) ⟨Nat.le_of_ble_eq_true rfl, Nat.le_of_ble_eq_true rfl⟩ rfl rfl (ok_X7_advance I L t ht h) ?_ ?_
  · intro e9 u9 hx9
    exact hx9.elim
  intro v9 u9 hv9
  obtain ⟨I860, rfl, rfl, h⟩ := hv9
  refine ⟨fun q => absurd q (Nat.lt_irrefl _), ?_⟩
  show V G Y_X5_readOperand 23 _ _ _ _ _ _ _
  refine v_sipush (v := 10000) (pc' := 26) 12 rfl rfl (by decide) ?_
  refine v_iload_n (pc' := 27) 13 1 rfl rfl rfl rfl ?_
  refine v_iadd (pc' := 28) 14 rfl rfl ?_
  exact v_iret 15 rfl rfl (by decide) (by decide) ⟨_, _, rfl, rfl, h⟩
theorem l_X5_readOperand_2 {G : GT} {b d : Nat} (I : TI) (L : TL) (t : Nat) (ht : txOK t) (Q : Int32 → TI → Prop)  : ∀ (n9 : Nat) (v1 : Int32), L_X5_readOperand_2 I L t Q n9 v1 → V G Y_X5_readOperand 2 [(0, .ref 344), (1, .int v1)] [] (I, L, RT b d t, 457) 0 0 (fun v9 u9 => ∃ (r9 : Int32) (I9 : TI), v9 = some (.int r9) ∧ u9 = (I9, L, RT b d t, 457) ∧ Q r9 I9) (fun _ _ => False)
  | 0, _, h => h.elim
  | n9 + 1, v1, h => d_X5_readOperand_2 I L t ht Q _ (l_X5_readOperand_2 I L t ht Q n9) v1 h
def W_X5_readOperand (I : TI) (L : TL) (t : Nat) (Q : Int32 → TI → Prop) : Prop :=
  ∃ n861, L_X5_readOperand_2 I L t Q n861 (0 : Int32)
set_option maxHeartbeats 4000000 in
set_option maxRecDepth 100000 in
theorem ok_X5_readOperand {G : GT} {b d : Nat} (I : TI) (L : TL) (t : Nat) (ht : txOK t) {Q : Int32 → TI → Prop} (h : W_X5_readOperand I L t Q) : MW G Y_X5_readOperand [.ref 344] (I, L, RT b d t, 457) (fun v9 u9 => ∃ (r9 : Int32) (I9 : TI), v9 = some (.int r9) ∧ u9 = (I9, L, RT b d t, 457) ∧ Q r9 I9) (fun _ _ => False) := by
  unfold W_X5_readOperand at h
  refine MW.intro rfl (by decide) is_X5_readOperand (Nat.le_of_ble_eq_true rfl) ?_
  show V G Y_X5_readOperand 0 [(0, .ref 344)] [] (I, L, RT b d t, 457) 0 0 _ _
  refine v_iconst (v := 0) (pc' := 1) 0 rfl rfl (by decide) ?_
  refine v_istore_n (ls' := [(1, .int 0), (0, .ref 344)]) (pc' := 2) 1 rfl rfl rfl (by decide) rfl ?_
  refine V.sub [1, 0] rfl ?_
  obtain ⟨n861, h⟩ := h
  exact l_X5_readOperand_2 I L t ht Q n861 (0 : Int32) h
