set_option maxHeartbeats 4000000 in
set_option maxRecDepth 100000 in
theorem ok_X7_takeWord {G : GT} {b d : Nat} (p1 : Nat) (I : TI) (L : TL) (t : Nat) (ht : txOK t) {Q : TI → Prop} (h : W_X7_takeWord p1 I L t Q) : MW G Y_X7_takeWord [.ref 344, .ref p1] (I, L, RT b d t, 457) (fun v9 u9 => ∃ (I9 : TI), v9 = none ∧ u9 = (I9, L, RT b d t, 457) ∧ Q I9) (fun _ _ => False) := by
  unfold W_X7_takeWord at h
  refine MW.intro rfl (by decide) is_X7_takeWord (Nat.le_of_ble_eq_true rfl) ?_
  show V G Y_X7_takeWord 0 [(0, .ref 344), (1, .ref p1)] [] (I, L, RT b d t, 457) 0 0 _ _
  refine v_aload_n (pc' := 1) 0 0 rfl rfl rfl rfl ?_
  refine v_aload_n (pc' := 2) 1 1 rfl rfl rfl rfl ?_
  refine v_cV (Y2 := Y_X7_isWord) (As := [.ref p1]) (b := 344) (pc' := 5) (c1 := 0) (s1 := 0) 2 rfl rfl mf_X7_isWord rfl rfl ml_X7_76 mi_X7_isWord se_X7_isWord (ci := 6) rfl ly_344 (lay_lt ly_344 (by decide)) rfl (Nat.le_of_ble_eq_true rfl) ⟨Nat.le_of_ble_eq_true rfl, Nat.le_of_ble_eq_true rfl⟩ rfl rfl (ok_X7_isWord p1 I L t ht h) ?_ ?_
  · intro e9 u9 hx9
    exact hx9.elim
  intro v9 u9 hv9
  obtain ⟨r439, rfl, rfl, h⟩ := hv9
  refine ⟨fun q => absurd q (Nat.lt_irrefl _), ?_⟩
  show V G Y_X7_takeWord 5 _ (.int r439 :: _) _ _ _ _ _
  refine v_if_ne (tgt := 13) (pc' := 8) 3 rfl rfl (by decide) (fun hc => ?_) (fun hc => ?_)
  · replace h := h.1 hc
    refine V.sub [0] rfl ?_
    exact b_X7_takeWord_13 p1 I L t ht Q h
  replace h := h.2 hc
  refine v_aload_n (pc' := 9) 4 0 rfl rfl rfl rfl ?_
  refine v_iconst (v := 1) (pc' := 10) 5 rfl rfl (by decide) ?_
  refine v_cV (Y2 := Y_X7_fail) (As := [.int 1]) (b := 344) (pc' := 13) (c1 := 0) (s1 := 0) 6 rfl rfl mf_X7_fail rfl rfl ml_X7_69 mi_X7_fail se_X7_fail (ci := 6) rfl ly_344 (lay_lt ly_344 (by decide)) rfl (Nat.le_of_ble_eq_true rfl) ⟨Nat.le_of_ble_eq_true rfl, Nat.le_of_ble_eq_true rfl⟩ rfl rfl (ok_X7_fail (1 : Int32) I L h) ?_ ?_
  · intro e9 u9 hx9
    exact hx9.elim
  intro v9 u9 hv9
  obtain ⟨I440, rfl, rfl, h⟩ := hv9
  refine ⟨fun q => absurd q (Nat.lt_irrefl _), ?_⟩
  show V G Y_X7_takeWord 13 _ _ _ _ _ _ _
  refine V.sub [0] rfl ?_
  exact b_X7_takeWord_13 p1 I440 L t ht Q h
set_option maxHeartbeats 4000000 in
set_option maxRecDepth 100000 in
theorem ok_X7_isNumber {G : GT} {b d t : Nat} (I : TI) (L : TL)  {Q : Int32 → Prop} (h : W_X7_isNumber I L Q) : MW G Y_X7_isNumber [.ref 344] (I, L, RT b d t, 457) (fun v9 u9 => ∃ (r9 : Int32), v9 = some (.int r9) ∧ u9 = (I, L, RT b d t, 457) ∧ Q r9) (fun _ _ => False) := by
  unfold W_X7_isNumber at h
  refine MW.intro rfl (by decide) is_X7_isNumber (Nat.le_of_ble_eq_true rfl) ?_
  show V G Y_X7_isNumber 0 [(0, .ref 344)] [] (I, L, RT b d t, 457) 0 0 _ _
  refine v_aload_n (pc' := 1) 0 0 rfl rfl rfl rfl ?_
  refine v_cV (Y2 := Y_X7_failed) (As := []) (b := 344) (pc' := 4) (c1 := 0) (s1 := 0) 1 rfl rfl mf_X7_failed rfl rfl ml_X7_46 mi_X7_failed se_X7_failed (ci := 6) rfl ly_344 (lay_lt ly_344 (by decide)) rfl (Nat.le_of_ble_eq_true rfl) ⟨Nat.le_of_ble_eq_true rfl, Nat.le_of_ble_eq_true rfl⟩ rfl rfl (ok_X7_failed I L h) ?_ ?_
  · intro e9 u9 hx9
    exact hx9.elim
  intro v9 u9 hv9
  obtain ⟨r442, rfl, rfl, h⟩ := hv9
  refine ⟨fun q => absurd q (Nat.lt_irrefl _), ?_⟩
  show V G Y_X7_isNumber 4 _ (.int r442 :: _) _ _ _ _ _
  refine v_if_ne (tgt := 19) (pc' := 7) 2 rfl rfl (by decide) (fun hc => ?_) (fun hc => ?_)
  · replace h := h.1 hc
    refine v_iconst (v := 0) (pc' := 20) 9 rfl rfl (by decide) ?_
    exact v_bret 10 rfl rfl (by decide) (by decide) (by decide) ⟨_, rfl, rfl, h⟩
  replace h := h.2 hc
  refine v_aload_n (pc' := 8) 3 0 rfl rfl rfl rfl ?_
  refine v_getI (pc' := 11) 4 rfl rfl pf_X7_25 ly_344 (lay_lt ly_344 (by decide)) ?_
  refine v_iconst (v := 2) (pc' := 12) 5 rfl rfl (by decide) ?_
  refine v_icmp_ne (tgt := 19) (pc' := 15) 6 rfl rfl (by decide) (fun hc => ?_) (fun hc => ?_)
  · replace h := h.1 hc
    refine v_iconst (v := 0) (pc' := 20) 9 rfl rfl (by decide) ?_
    exact v_bret 10 rfl rfl (by decide) (by decide) (by decide) ⟨_, rfl, rfl, h⟩
  replace h := h.2 hc
  refine v_iconst (v := 1) (pc' := 16) 7 rfl rfl (by decide) ?_
  refine v_goto (tgt := 20) 8 rfl (by decide) ?_
  exact v_bret 10 rfl rfl (by decide) (by decide) (by decide) ⟨_, rfl, rfl, h⟩
set_option maxHeartbeats 4000000 in
set_option maxRecDepth 100000 in
theorem b_X7_peekNumber_36 {G : GT} {b d t : Nat} (v1 : Int32) (I : TI) (L : TL)  (Q : Int32 → TI → Prop)  (h : B_X7_peekNumber_36 v1 I L Q) : V G Y_X7_peekNumber 36 [(0, .ref 344), (1, .int v1)] [] (I, L, RT b d t, 457) 0 0 (fun v9 u9 => ∃ (r9 : Int32) (I9 : TI), v9 = some (.int r9) ∧ u9 = (I9, L, RT b d t, 457) ∧ Q r9 I9) (fun _ _ => False) := by
  unfold B_X7_peekNumber_36 at h
  refine v_aload_n (pc' := 37) 18 0 rfl rfl rfl rfl ?_
  refine v_cV (Y2 := Y_X7_failed) (As := []) (b := 344) (pc' := 40) (c1 := 0) (s1 := 0) 19 rfl rfl mf_X7_failed rfl rfl ml_X7_46 mi_X7_failed se_X7_failed (ci := 6) rfl ly_344 (lay_lt ly_344 (by decide)) rfl (Nat.le_of_ble_eq_true rfl) ⟨Nat.le_of_ble_eq_true rfl, Nat.le_of_ble_eq_true rfl⟩ rfl rfl (ok_X7_failed I L h) ?_ ?_
  · intro e9 u9 hx9
    exact hx9.elim
  intro v9 u9 hv9
  obtain ⟨r451, rfl, rfl, h⟩ := hv9
  refine ⟨fun q => absurd q (Nat.lt_irrefl _), ?_⟩
  show V G Y_X7_peekNumber 40 _ (.int r451 :: _) _ _ _ _ _
  refine v_if_eq (tgt := 47) (pc' := 43) 20 rfl rfl (by decide) (fun hc => ?_) (fun hc => ?_)
  · replace h := h.1 hc
    refine v_aload_n (pc' := 48) 23 0 rfl rfl rfl rfl ?_
    refine v_getI (pc' := 51) 24 rfl rfl pf_X7_28 ly_344 (lay_lt ly_344 (by decide)) ?_
    exact v_iret 25 rfl rfl (by decide) (by decide) ⟨_, _, rfl, rfl, h⟩
  replace h := h.2 hc
  refine v_iload_n (pc' := 44) 21 1 rfl rfl rfl rfl ?_
  refine v_goto (tgt := 51) 22 rfl (by decide) ?_
  exact v_iret 25 rfl rfl (by decide) (by decide) ⟨_, _, rfl, rfl, h⟩
set_option maxHeartbeats 4000000 in
set_option maxRecDepth 100000 in
theorem b_X7_peekNumber_31 {G : GT} {b d t : Nat} (v1 : Int32) (I : TI) (L : TL)  (Q : Int32 → TI → Prop)  (h : B_X7_peekNumber_31 v1 I L Q) : V G Y_X7_peekNumber 31 [(0, .ref 344), (1, .int v1)] [] (I, L, RT b d t, 457) 0 0 (fun v9 u9 => ∃ (r9 : Int32) (I9 : TI), v9 = some (.int r9) ∧ u9 = (I9, L, RT b d t, 457) ∧ Q r9 I9) (fun _ _ => False) := by
  unfold B_X7_peekNumber_31 at h
  refine v_aload_n (pc' := 32) 15 0 rfl rfl rfl rfl ?_
  refine v_iconst (v := 2) (pc' := 33) 16 rfl rfl (by decide) ?_
  refine v_cV (Y2 := Y_X7_fail) (As := [.int 2]) (b := 344) (pc' := 36) (c1 := 0) (s1 := 0) 17 rfl rfl mf_X7_fail rfl rfl ml_X7_69 mi_X7_fail se_X7_fail (ci := 6) rfl ly_344 (lay_lt ly_344 (by decide)) rfl (Nat.le_of_ble_eq_true rfl) ⟨Nat.le_of_ble_eq_true rfl, Nat.le_of_ble_eq_true rfl⟩ rfl rfl (ok_X7_fail (2 : Int32) I L h) ?_ ?_
  · intro e9 u9 hx9
    exact hx9.elim
  intro v9 u9 hv9
  obtain ⟨I452, rfl, rfl, h⟩ := hv9
  refine ⟨fun q => absurd q (Nat.lt_irrefl _), ?_⟩
  show V G Y_X7_peekNumber 36 _ _ _ _ _ _ _
  exact b_X7_peekNumber_36 v1 I452 L Q h
set_option maxHeartbeats 4000000 in
set_option maxRecDepth 100000 in
theorem ok_X7_peekNumber {G : GT} {b d t : Nat} (p1 : Int32) (p2 : Int32) (I : TI) (L : TL)  {Q : Int32 → TI → Prop} (h : W_X7_peekNumber p1 p2 I L Q) : MW G Y_X7_peekNumber [.ref 344, .int p1, .int p2] (I, L, RT b d t, 457) (fun v9 u9 => ∃ (r9 : Int32) (I9 : TI), v9 = some (.int r9) ∧ u9 = (I9, L, RT b d t, 457) ∧ Q r9 I9) (fun _ _ => False) := by
  unfold W_X7_peekNumber at h
  refine MW.intro rfl (by decide) is_X7_peekNumber (Nat.le_of_ble_eq_true rfl) ?_
  show V G Y_X7_peekNumber 0 [(0, .ref 344), (1, .int p1), (2, .int p2)] [] (I, L, RT b d t, 457) 0 0 _ _
  refine v_aload_n (pc' := 1) 0 0 rfl rfl rfl rfl ?_
  refine v_cV (Y2 := Y_X7_isNumber) (As := []) (b := 344) (pc' := 4) (c1 := 0) (s1 := 0) 1 rfl rfl mf_X7_isNumber rfl rfl ml_X7_66 mi_X7_isNumber se_X7_isNumber (ci := 6) rfl ly_344 (lay_lt ly_344 (by decide)) rfl (Nat.le_of_ble_eq_true rfl) ⟨Nat.le_of_ble_eq_true rfl, Nat.le_of_ble_eq_true rfl⟩ rfl rfl (ok_X7_isNumber I L h) ?_ ?_
  · intro e9 u9 hx9
    exact hx9.elim
  intro v9 u9 hv9
  obtain ⟨r453, rfl, rfl, h⟩ := hv9
  refine ⟨fun q => absurd q (Nat.lt_irrefl _), ?_⟩
  show V G Y_X7_peekNumber 4 _ (.int r453 :: _) _ _ _ _ _
  refine v_if_ne (tgt := 15) (pc' := 7) 2 rfl rfl (by decide) (fun hc => ?_) (fun hc => ?_)
  · replace h := h.1 hc
    refine v_aload_n (pc' := 16) 7 0 rfl rfl rfl rfl ?_
    refine v_getI (pc' := 19) 8 rfl rfl pf_X7_28 ly_344 (lay_lt ly_344 (by decide)) ?_
    refine v_iload_n (pc' := 20) 9 1 rfl rfl rfl rfl ?_
    refine v_icmp_lt (tgt := 31) (pc' := 23) 10 rfl rfl (by decide) (fun hc => ?_) (fun hc => ?_)
    · replace h := h.1 hc
      refine V.sub [0, 1] rfl ?_
      exact b_X7_peekNumber_31 p1 I L Q h
    replace h := h.2 hc
    refine v_aload_n (pc' := 24) 11 0 rfl rfl rfl rfl ?_
    refine v_getI (pc' := 27) 12 rfl rfl pf_X7_28 ly_344 (lay_lt ly_344 (by decide)) ?_
    refine v_iload_n (pc' := 28) 13 2 rfl rfl rfl rfl ?_
    refine v_icmp_le (tgt := 36) (pc' := 31) 14 rfl rfl (by decide) (fun hc => ?_) (fun hc => ?_)
    · replace h := h.1 hc
      refine V.sub [0, 1] rfl ?_
      exact b_X7_peekNumber_36 p1 I L Q h
    replace h := h.2 hc
    refine V.sub [0, 1] rfl ?_
    exact b_X7_peekNumber_31 p1 I L Q h
  replace h := h.2 hc
  refine v_aload_n (pc' := 8) 3 0 rfl rfl rfl rfl ?_
  refine v_iconst (v := 1) (pc' := 9) 4 rfl rfl (by decide) ?_
  refine v_cV (Y2 := Y_X7_fail) (As := [.int 1]) (b := 344) (pc' := 12) (c1 := 0) (s1 := 0) 5 rfl rfl mf_X7_fail rfl rfl ml_X7_69 mi_X7_fail se_X7_fail (ci := 6) rfl ly_344 (lay_lt ly_344 (by decide)) rfl (Nat.le_of_ble_eq_true rfl) ⟨Nat.le_of_ble_eq_true rfl, Nat.le_of_ble_eq_true rfl⟩ rfl rfl (ok_X7_fail (1 : Int32) I L h) ?_ ?_
  · intro e9 u9 hx9
    exact hx9.elim
  intro v9 u9 hv9
  obtain ⟨I454, rfl, rfl, h⟩ := hv9
  refine ⟨fun q => absurd q (Nat.lt_irrefl _), ?_⟩
  show V G Y_X7_peekNumber 12 _ _ _ _ _ _ _
  refine v_goto (tgt := 36) 6 rfl (by decide) ?_
  refine V.sub [0, 1] rfl ?_
  exact b_X7_peekNumber_36 p1 I454 L Q h
set_option maxHeartbeats 4000000 in
set_option maxRecDepth 100000 in
theorem ok_X7_takeNumber {G : GT} {b d : Nat} (p1 : Int32) (p2 : Int32) (I : TI) (L : TL) (t : Nat) (ht : txOK t) {Q : Int32 → TI → Prop} (h : W_X7_takeNumber p1 p2 I L t Q) : MW G Y_X7_takeNumber [.ref 344, .int p1, .int p2] (I, L, RT b d t, 457) (fun v9 u9 => ∃ (r9 : Int32) (I9 : TI), v9 = some (.int r9) ∧ u9 = (I9, L, RT b d t, 457) ∧ Q r9 I9) (fun _ _ => False) := by
  unfold W_X7_takeNumber at h
  refine MW.intro rfl (by decide) is_X7_takeNumber (Nat.le_of_ble_eq_true rfl) ?_
  show V G Y_X7_takeNumber 0 [(0, .ref 344), (1, .int p1), (2, .int p2)] [] (I, L, RT b d t, 457) 0 0 _ _
  refine v_aload_n (pc' := 1) 0 0 rfl rfl rfl rfl ?_
  refine v_iload_n (pc' := 2) 1 1 rfl rfl rfl rfl ?_
  refine v_iload_n (pc' := 3) 2 2 rfl rfl rfl rfl ?_
  refine v_cV (Y2 := Y_X7_peekNumber) (As := [.int p1, .int p2]) (b := 344) (pc' := 6) (c1 := 0) (s1 := 0) 3 rfl rfl mf_X7_peekNumber rfl rfl ml_X7_73 mi_X7_peekNumber se_X7_peekNumber (ci := 6) rfl ly_344 (lay_lt ly_344 (by decide)) rfl (Nat.le_of_ble_eq_true rfl) ⟨Nat.le_of_ble_eq_true rfl, Nat.le_of_ble_eq_true rfl⟩ rfl rfl (ok_X7_peekNumber p1 p2 I L h) ?_ ?_
  · intro e9 u9 hx9
    exact hx9.elim
  intro v9 u9 hv9
  obtain ⟨r458, I459, rfl, rfl, h⟩ := hv9
  refine ⟨fun q => absurd q (Nat.lt_irrefl _), ?_⟩
  show V G Y_X7_takeNumber 6 _ (.int r458 :: _) _ _ _ _ _
  refine v_istore_n (ls' := [(3, .int r458), (0, .ref 344), (1, .int p1), (2, .int p2)]) (pc' := 7) 4 rfl rfl rfl (by decide) rfl ?_
  refine v_aload_n (pc' := 8) 5 1 rfl rfl rfl rfl ?_
  refine v_cV (Y2 := Y_X7_advance) (As := []) (b := 344) (pc' := 11) (c1 := 0) (s1 := 0) 6 rfl rfl mf_X7_advance rfl rfl ml_X7_43 mi_X7_advance se_X7_advance (ci := 6) rfl ly_344 (lay_lt ly_344 (by decide)) rfl (Nat.le_of_ble_eq_true rfl) ⟨Nat.le_of_ble_eq_true rfl, Nat.le_of_ble_eq_true rfl⟩ rfl rfl (ok_X7_advance I459 L t ht h) ?_ ?_
  · intro e9 u9 hx9
    exact hx9.elim
  intro v9 u9 hv9
  obtain ⟨I460, rfl, rfl, h⟩ := hv9
  refine ⟨fun q => absurd q (Nat.lt_irrefl _), ?_⟩
  show V G Y_X7_takeNumber 11 _ _ _ _ _ _ _
  refine v_iload_n (pc' := 12) 7 0 rfl rfl rfl rfl ?_
  exact v_iret 8 rfl rfl (by decide) (by decide) ⟨_, _, rfl, rfl, h⟩
set_option maxHeartbeats 4000000 in
set_option maxRecDepth 100000 in
theorem ok_X7_isSign {G : GT} {b d : Nat} (p1 : Int32) (I : TI) (L : TL) (t : Nat) (ht : txOK t) {Q : Int32 → Prop} (h : W_X7_isSign p1 I L t Q) : MW G Y_X7_isSign [.ref 344, .int p1] (I, L, RT b d t, 457) (fun v9 u9 => ∃ (r9 : Int32), v9 = some (.int r9) ∧ u9 = (I, L, RT b d t, 457) ∧ Q r9) (fun _ _ => False) := by
  unfold W_X7_isSign at h
  refine MW.intro rfl (by decide) is_X7_isSign (Nat.le_of_ble_eq_true rfl) ?_
  show V G Y_X7_isSign 0 [(0, .ref 344), (1, .int p1)] [] (I, L, RT b d t, 457) 0 0 _ _
  refine v_aload_n (pc' := 1) 0 0 rfl rfl rfl rfl ?_
  refine v_cV (Y2 := Y_X7_failed) (As := []) (b := 344) (pc' := 4) (c1 := 0) (s1 := 0) 1 rfl rfl mf_X7_failed rfl rfl ml_X7_46 mi_X7_failed se_X7_failed (ci := 6) rfl ly_344 (lay_lt ly_344 (by decide)) rfl (Nat.le_of_ble_eq_true rfl) ⟨Nat.le_of_ble_eq_true rfl, Nat.le_of_ble_eq_true rfl⟩ rfl rfl (ok_X7_failed I L h) ?_ ?_
  · intro e9 u9 hx9
    exact hx9.elim
  intro v9 u9 hv9
  obtain ⟨r463, rfl, rfl, h⟩ := hv9
  refine ⟨fun q => absurd q (Nat.lt_irrefl _), ?_⟩
  show V G Y_X7_isSign 4 _ (.int r463 :: _) _ _ _ _ _
  refine v_if_ne (tgt := 43) (pc' := 7) 2 rfl rfl (by decide) (fun hc => ?_) (fun hc => ?_)
  · replace h := h.1 hc
    refine v_iconst (v := 0) (pc' := 44) 21 rfl rfl (by decide) ?_
    exact v_bret 22 rfl rfl (by decide) (by decide) (by decide) ⟨_, rfl, rfl, h⟩
  replace h := h.2 hc
  refine v_aload_n (pc' := 8) 3 0 rfl rfl rfl rfl ?_
  refine v_getI (pc' := 11) 4 rfl rfl pf_X7_25 ly_344 (lay_lt ly_344 (by decide)) ?_
  refine v_iconst (v := 3) (pc' := 12) 5 rfl rfl (by decide) ?_
  refine v_icmp_ne (tgt := 43) (pc' := 15) 6 rfl rfl (by decide) (fun hc => ?_) (fun hc => ?_)
  · replace h := h.1 hc
    refine v_iconst (v := 0) (pc' := 44) 21 rfl rfl (by decide) ?_
    exact v_bret 22 rfl rfl (by decide) (by decide) (by decide) ⟨_, rfl, rfl, h⟩
  replace h := h.2 hc
  refine v_aload_n (pc' := 16) 7 0 rfl rfl rfl rfl ?_
  refine v_getI (pc' := 19) 8 rfl rfl pf_X7_19 ly_344 (lay_lt ly_344 (by decide)) ?_
  refine v_aload_n (pc' := 20) 9 0 rfl rfl rfl rfl ?_
  refine v_getI (pc' := 23) 10 rfl rfl pf_X7_15 ly_344 (lay_lt ly_344 (by decide)) ?_
  refine v_icmp_ge (tgt := 43) (pc' := 26) 11 rfl rfl (by decide) (fun hc => ?_) (fun hc => ?_)
  · replace h := h.1 hc
    refine v_iconst (v := 0) (pc' := 44) 21 rfl rfl (by decide) ?_
    exact v_bret 22 rfl rfl (by decide) (by decide) (by decide) ⟨_, rfl, rfl, h⟩
  replace h := h.2 hc
  refine v_aload_n (pc' := 27) 12 0 rfl rfl rfl rfl ?_
  refine v_getR (t := t) (pc' := 30) 13 rfl rfl pf_X7_9 ly_344 (lay_lt ly_344 (by decide)) rt_344_0 ?_
  refine v_aload_n (pc' := 31) 14 0 rfl rfl rfl rfl ?_
  refine v_getI (pc' := 34) 15 rfl rfl pf_X7_19 ly_344 (lay_lt ly_344 (by decide)) ?_
  obtain ⟨hi464, h⟩ := h
  refine v_bald (i := (I 344 2)) (j := (I 344 2).toNatClampNeg) (pc' := 35) 16 rfl rfl (tx0l ht) rfl (lay_lt (tx0l ht) (by decide)) hi464 rfl ?_
  refine v_iload_n (pc' := 36) 17 1 rfl rfl rfl rfl ?_
  refine v_icmp_ne (tgt := 43) (pc' := 39) 18 rfl rfl (by decide) (fun hc => ?_) (fun hc => ?_)
  · replace h := h.1 hc
    refine v_iconst (v := 0) (pc' := 44) 21 rfl rfl (by decide) ?_
    exact v_bret 22 rfl rfl (by decide) (by decide) (by decide) ⟨_, rfl, rfl, h⟩
  replace h := h.2 hc
  refine v_iconst (v := 1) (pc' := 40) 19 rfl rfl (by decide) ?_
  refine v_goto (tgt := 44) 20 rfl (by decide) ?_
  exact v_bret 22 rfl rfl (by decide) (by decide) (by decide) ⟨_, rfl, rfl, h⟩
set_option maxHeartbeats 4000000 in
set_option maxRecDepth 100000 in
theorem b_X7_takeSign_13 {G : GT} {b d : Nat} (I : TI) (L : TL) (t : Nat) (ht : txOK t) (Q : TI → Prop)  (h : B_X7_takeSign_13 I L t Q) : V G Y_X7_takeSign 13 [(0, .ref 344)] [] (I, L, RT b d t, 457) 0 0 (fun v9 u9 => ∃ (I9 : TI), v9 = none ∧ u9 = (I9, L, RT b d t, 457) ∧ Q I9) (fun _ _ => False) := by
  unfold B_X7_takeSign_13 at h
  refine v_aload_n (pc' := 14) 7 0 rfl rfl rfl rfl ?_
  refine v_cV (Y2 := Y_X7_advance) (As := []) (b := 344) (pc' := 17) (c1 := 0) (s1 := 0) 8 rfl rfl mf_X7_advance rfl rfl ml_X7_43 mi_X7_advance se_X7_advance (ci := 6) rfl ly_344 (lay_lt ly_344 (by decide)) rfl (Nat.le_of_ble_eq_true rfl) ⟨Nat.le_of_ble_eq_true rfl, Nat.le_of_ble_eq_true rfl⟩ rfl rfl (ok_X7_advance I L t ht h) ?_ ?_
  · intro e9 u9 hx9
    exact hx9.elim
  intro v9 u9 hv9
  obtain ⟨I471, rfl, rfl, h⟩ := hv9
  refine ⟨fun q => absurd q (Nat.lt_irrefl _), ?_⟩
  show V G Y_X7_takeSign 17 _ _ _ _ _ _ _
  exact v_vret 9 rfl rfl (by decide) (by decide) ⟨_, rfl, rfl, h⟩
set_option maxHeartbeats 4000000 in
set_option maxRecDepth 100000 in
theorem ok_X7_takeSign {G : GT} {b d : Nat} (p1 : Int32) (I : TI) (L : TL) (t : Nat) (ht : txOK t) {Q : TI → Prop} (h : W_X7_takeSign p1 I L t Q) : MW G Y_X7_takeSign [.ref 344, .int p1] (I, L, RT b d t, 457) (fun v9 u9 => ∃ (I9 : TI), v9 = none ∧ u9 = (I9, L, RT b d t, 457) ∧ Q I9) (fun _ _ => False) := by
  unfold W_X7_takeSign at h
  refine MW.intro rfl (by decide) is_X7_takeSign (Nat.le_of_ble_eq_true rfl) ?_
  show V G Y_X7_takeSign 0 [(0, .ref 344), (1, .int p1)] [] (I, L, RT b d t, 457) 0 0 _ _
  refine v_aload_n (pc' := 1) 0 0 rfl rfl rfl rfl ?_
  refine v_iload_n (pc' := 2) 1 1 rfl rfl rfl rfl ?_
  refine v_cV (Y2 := Y_X7_isSign) (As := [.int p1]) (b := 344) (pc' := 5) (c1 := 0) (s1 := 0) 2 rfl rfl mf_X7_isSign rfl rfl ml_X7_80 mi_X7_isSign se_X7_isSign (ci := 6) rfl ly_344 (lay_lt ly_344 (by decide)) rfl (Nat.le_of_ble_eq_true rfl) ⟨Nat.le_of_ble_eq_true rfl, Nat.le_of_ble_eq_true rfl⟩ rfl rfl (ok_X7_isSign p1 I L t ht h) ?_ ?_
  · intro e9 u9 hx9
    exact hx9.elim
  intro v9 u9 hv9
  obtain ⟨r472, rfl, rfl, h⟩ := hv9
  refine ⟨fun q => absurd q (Nat.lt_irrefl _), ?_⟩
  show V G Y_X7_takeSign 5 _ (.int r472 :: _) _ _ _ _ _
  refine v_if_ne (tgt := 13) (pc' := 8) 3 rfl rfl (by decide) (fun hc => ?_) (fun hc => ?_)
  · replace h := h.1 hc
    refine V.sub [0] rfl ?_
    exact b_X7_takeSign_13 I L t ht Q h
  replace h := h.2 hc
  refine v_aload_n (pc' := 9) 4 0 rfl rfl rfl rfl ?_
  refine v_iconst (v := 1) (pc' := 10) 5 rfl rfl (by decide) ?_
  refine v_cV (Y2 := Y_X7_fail) (As := [.int 1]) (b := 344) (pc' := 13) (c1 := 0) (s1 := 0) 6 rfl rfl mf_X7_fail rfl rfl ml_X7_69 mi_X7_fail se_X7_fail (ci := 6) rfl ly_344 (lay_lt ly_344 (by decide)) rfl (Nat.le_of_ble_eq_true rfl) ⟨Nat.le_of_ble_eq_true rfl, Nat.le_of_ble_eq_true rfl⟩ rfl rfl (ok_X7_fail (1 : Int32) I L h) ?_ ?_
  · intro e9 u9 hx9
    exact hx9.elim
  intro v9 u9 hv9
  obtain ⟨I473, rfl, rfl, h⟩ := hv9
  refine ⟨fun q => absurd q (Nat.lt_irrefl _), ?_⟩
  show V G Y_X7_takeSign 13 _ _ _ _ _ _ _
  refine V.sub [0] rfl ?_
  exact b_X7_takeSign_13 I473 L t ht Q h
set_option maxHeartbeats 4000000 in
set_option maxRecDepth 100000 in
theorem ok_X1_readHead {G : GT} {b d : Nat} (p1 : Nat) (I : TI) (L : TL) (t : Nat) (hp1 : bnOK p1) (ht : txOK t) {Q : TI → Prop} (h : W_X1_readHead p1 I L t Q) : MW G Y_X1_readHead [.ref 344, .ref p1] (I, L, RT b d t, 457) (fun v9 u9 => ∃ (I9 : TI), v9 = none ∧ u9 = (I9, L, RT b d t, 457) ∧ Q I9) (fun _ _ => False) := by
  unfold W_X1_readHead at h
  refine MW.intro rfl (by decide) is_X1_readHead (Nat.le_of_ble_eq_true rfl) ?_
  show V G Y_X1_readHead 0 [(0, .ref 344), (1, .ref p1)] [] (I, L, RT b d t, 457) 0 0 _ _
  refine v_aload_n (pc' := 1) 0 0 rfl rfl rfl rfl ?_
  refine v_ldcS (pc' := 3) 1 rfl rfl sr_X1_34 ?_
  refine v_cV (Y2 := Y_X7_takeWord) (As := [.ref 459]) (b := 344) (pc' := 6) (c1 := 0) (s1 := 0) 2 rfl rfl mf_X7_takeWord rfl rfl ml_X1_36 mi_X7_takeWord se_X7_takeWord (ci := 6) rfl ly_344 (lay_lt ly_344 (by decide)) rfl (Nat.le_of_ble_eq_true rfl) ⟨Nat.le_of_ble_eq_true rfl, Nat.le_of_ble_eq_true rfl⟩ rfl rfl (ok_X7_takeWord 459 I L t ht h) ?_ ?_
  · intro e9 u9 hx9
    exact hx9.elim
  intro v9 u9 hv9
  obtain ⟨I484, rfl, rfl, h⟩ := hv9
  refine ⟨fun q => absurd q (Nat.lt_irrefl _), ?_⟩
  show V G Y_X1_readHead 6 _ _ _ _ _ _ _
  refine v_aload_n (pc' := 7) 3 1 rfl rfl rfl rfl ?_
  refine v_getR (t := (p1 + 1)) (pc' := 10) 4 rfl rfl pf_X1_40 (bn0l hp1) (lay_lt (bn0l hp1) (by decide)) (rt_bn_0 hp1) ?_
  refine v_aload_n (pc' := 11) 5 0 rfl rfl rfl rfl ?_
  refine v_iconst (v := 4) (pc' := 12) 6 rfl rfl (by decide) ?_
  refine v_bipush (v := 60) (pc' := 14) 7 rfl rfl (by decide) ?_
  refine v_cV (Y2 := Y_X7_takeNumber) (As := [.int 4, .int 60]) (b := 344) (pc' := 17) (c1 := 0) (s1 := 0) 8 rfl rfl mf_X7_takeNumber rfl rfl ml_X1_46 mi_X7_takeNumber se_X7_takeNumber (ci := 6) rfl ly_344 (lay_lt ly_344 (by decide)) rfl (Nat.le_of_ble_eq_true rfl) ⟨Nat.le_of_ble_eq_true rfl, Nat.le_of_ble_eq_true rfl⟩ rfl rfl (ok_X7_takeNumber (4 : Int32) (60 : Int32) I484 L t ht h) ?_ ?_
  · intro e9 u9 hx9
    exact hx9.elim
  intro v9 u9 hv9
  obtain ⟨r485, I486, rfl, rfl, h⟩ := hv9
  refine ⟨fun q => absurd q (Nat.lt_irrefl _), ?_⟩
  show V G Y_X1_readHead 17 _ (.int r485 :: _) _ _ _ _ _
  refine v_putI (pc' := 20) 9 rfl rfl pf_X1_50 (fun q => absurd q (by decide)) (bn1l hp1) (lay_lt (bn1l hp1) (by decide)) ?_
  refine v_aload_n (pc' := 21) 10 1 rfl rfl rfl rfl ?_
  refine v_getR (t := (p1 + 6)) (pc' := 24) 11 rfl rfl pf_X1_56 (bn0l hp1) (lay_lt (bn0l hp1) (by decide)) (rt_bn_1 hp1) ?_
  refine v_aload_n (pc' := 25) 12 0 rfl rfl rfl rfl ?_
  refine v_iconst (v := 1) (pc' := 26) 13 rfl rfl (by decide) ?_
  refine v_bipush (v := 20) (pc' := 28) 14 rfl rfl (by decide) ?_
  refine v_cV (Y2 := Y_X7_takeNumber) (As := [.int 1, .int 20]) (b := 344) (pc' := 31) (c1 := 0) (s1 := 0) 15 rfl rfl mf_X7_takeNumber rfl rfl ml_X1_46 mi_X7_takeNumber se_X7_takeNumber (ci := 6) rfl ly_344 (lay_lt ly_344 (by decide)) rfl (Nat.le_of_ble_eq_true rfl) ⟨Nat.le_of_ble_eq_true rfl, Nat.le_of_ble_eq_true rfl⟩ rfl rfl (ok_X7_takeNumber (1 : Int32) (20 : Int32) (up2 I486 (p1 + 1) 6 r485) L t ht h) ?_ ?_
  · intro e9 u9 hx9
    exact hx9.elim
  intro v9 u9 hv9
  obtain ⟨r487, I488, rfl, rfl, h⟩ := hv9
  refine ⟨fun q => absurd q (Nat.lt_irrefl _), ?_⟩
  show V G Y_X1_readHead 31 _ (.int r487 :: _) _ _ _ _ _
  refine v_putI (pc' := 34) 16 rfl rfl pf_X1_60 (fun q => absurd q (by decide)) (bn6l hp1) (lay_lt (bn6l hp1) (by decide)) ?_
  refine v_aload_n (pc' := 35) 17 1 rfl rfl rfl rfl ?_
  refine v_getR (t := (p1 + 1)) (pc' := 38) 18 rfl rfl pf_X1_40 (bn0l hp1) (lay_lt (bn0l hp1) (by decide)) (rt_bn_0 hp1) ?_
  refine v_aload_n (pc' := 39) 19 0 rfl rfl rfl rfl ?_
  refine v_iconst (v := 0) (pc' := 40) 20 rfl rfl (by decide) ?_
  refine v_bipush (v := 9) (pc' := 42) 21 rfl rfl (by decide) ?_
  refine v_cV (Y2 := Y_X7_takeNumber) (As := [.int 0, .int 9]) (b := 344) (pc' := 45) (c1 := 0) (s1 := 0) 22 rfl rfl mf_X7_takeNumber rfl rfl ml_X1_46 mi_X7_takeNumber se_X7_takeNumber (ci := 6) rfl ly_344 (lay_lt ly_344 (by decide)) rfl (Nat.le_of_ble_eq_true rfl) ⟨Nat.le_of_ble_eq_true rfl, Nat.le_of_ble_eq_true rfl⟩ rfl rfl (ok_X7_takeNumber (0 : Int32) (9 : Int32) (up2 I488 (p1 + 6) 8 r487) L t ht h) ?_ ?_
  · intro e9 u9 hx9
    exact hx9.elim
  intro v9 u9 hv9
  obtain ⟨r489, I490, rfl, rfl, h⟩ := hv9
  refine ⟨fun q => absurd q (Nat.lt_irrefl _), ?_⟩
  show V G Y_X1_readHead 45 _ (.int r489 :: _) _ _ _ _ _
  refine v_putI (pc' := 48) 23 rfl rfl pf_X1_65 (fun q => absurd q (by decide)) (bn1l hp1) (lay_lt (bn1l hp1) (by decide)) ?_
  refine v_aload_n (pc' := 49) 24 1 rfl rfl rfl rfl ?_
  refine v_getR (t := (p1 + 1)) (pc' := 52) 25 rfl rfl pf_X1_40 (bn0l hp1) (lay_lt (bn0l hp1) (by decide)) (rt_bn_0 hp1) ?_
  refine v_aload_n (pc' := 53) 26 0 rfl rfl rfl rfl ?_
  refine v_iconst (v := 0) (pc' := 54) 27 rfl rfl (by decide) ?_
  refine v_bipush (v := 99) (pc' := 56) 28 rfl rfl (by decide) ?_
  refine v_cV (Y2 := Y_X7_takeNumber) (As := [.int 0, .int 99]) (b := 344) (pc' := 59) (c1 := 0) (s1 := 0) 29 rfl rfl mf_X7_takeNumber rfl rfl ml_X1_46 mi_X7_takeNumber se_X7_takeNumber (ci := 6) rfl ly_344 (lay_lt ly_344 (by decide)) rfl (Nat.le_of_ble_eq_true rfl) ⟨Nat.le_of_ble_eq_true rfl, Nat.le_of_ble_eq_true rfl⟩ rfl rfl (ok_X7_takeNumber (0 : Int32) (99 : Int32) (up2 I490 (p1 + 1) 7 r489) L t ht h) ?_ ?_
  · intro e9 u9 hx9
    exact hx9.elim
  intro v9 u9 hv9
  obtain ⟨r491, I492, rfl, rfl, h⟩ := hv9
  refine ⟨fun q => absurd q (Nat.lt_irrefl _), ?_⟩
  show V G Y_X1_readHead 59 _ (.int r491 :: _) _ _ _ _ _
  refine v_putI (pc' := 62) 30 rfl rfl pf_X1_68 (fun q => absurd q (by decide)) (bn1l hp1) (lay_lt (bn1l hp1) (by decide)) ?_
  refine v_aload_n (pc' := 63) 31 0 rfl rfl rfl rfl ?_
  refine v_bipush (v := 59) (pc' := 65) 32 rfl rfl (by decide) ?_
  refine v_cV (Y2 := Y_X7_takeSign) (As := [.int 59]) (b := 344) (pc' := 68) (c1 := 0) (s1 := 0) 33 rfl rfl mf_X7_takeSign rfl rfl ml_X1_71 mi_X7_takeSign se_X7_takeSign (ci := 6) rfl ly_344 (lay_lt ly_344 (by decide)) rfl (Nat.le_of_ble_eq_true rfl) ⟨Nat.le_of_ble_eq_true rfl, Nat.le_of_ble_eq_true rfl⟩ rfl rfl (ok_X7_takeSign (59 : Int32) (up2 I492 (p1 + 1) 8 r491) L t ht h) ?_ ?_
  · intro e9 u9 hx9
    exact hx9.elim
  intro v9 u9 hv9
  obtain ⟨I493, rfl, rfl, h⟩ := hv9
  refine ⟨fun q => absurd q (Nat.lt_irrefl _), ?_⟩
  show V G Y_X1_readHead 68 _ _ _ _ _ _ _
  exact v_vret 34 rfl rfl (by decide) (by decide) ⟨_, rfl, rfl, h⟩
set_option maxHeartbeats 4000000 in
set_option maxRecDepth 100000 in
theorem b_X1_readWave_83 {G : GT} {b d : Nat} (v2 : Int64) (I : TI) (L : TL) (t : Nat) (ht : txOK t) (Q : Int64 → TI → Prop)  (h : B_X1_readWave_83 v2 I L t Q) : V G Y_X1_readWave 83 [(0, .ref 344), (2, .long v2)] [] (I, L, RT b d t, 457) 0 0 (fun v9 u9 => ∃ (r9 : Int64) (I9 : TI), v9 = some (.long r9) ∧ u9 = (I9, L, RT b d t, 457) ∧ Q r9 I9) (fun _ _ => False) := by
  unfold B_X1_readWave_83 at h
  refine v_aload_n (pc' := 84) 45 0 rfl rfl rfl rfl ?_
  refine v_bipush (v := 59) (pc' := 86) 46 rfl rfl (by decide) ?_
  refine v_cV (Y2 := Y_X7_takeSign) (As := [.int 59]) (b := 344) (pc' := 89) (c1 := 0) (s1 := 0) 47 rfl rfl mf_X7_takeSign rfl rfl ml_X1_71 mi_X7_takeSign se_X7_takeSign (ci := 6) rfl ly_344 (lay_lt ly_344 (by decide)) rfl (Nat.le_of_ble_eq_true rfl) ⟨Nat.le_of_ble_eq_true rfl, Nat.le_of_ble_eq_true rfl⟩ rfl rfl (ok_X7_takeSign (59 : Int32) I L t ht h) ?_ ?_
  · intro e9 u9 hx9
    exact hx9.elim
  intro v9 u9 hv9
  obtain ⟨I514, rfl, rfl, h⟩ := hv9
  refine ⟨fun q => absurd q (Nat.lt_irrefl _), ?_⟩
  show V G Y_X1_readWave 89 _ _ _ _ _ _ _
  refine v_lload_n (pc' := 90) 48 1 rfl rfl rfl rfl ?_
  exact v_lret 49 rfl rfl (by decide) (by decide) ⟨_, _, rfl, rfl, h⟩
set_option maxHeartbeats 4000000 in
set_option maxRecDepth 100000 in
theorem b_X1_readWave_60 {G : GT} {b d : Nat} (v1 : Int32) (v2 : Int64) (v5 : Int32) (v6 : Int32) (I : TI) (L : TL) (t : Nat) (ht : txOK t) (Q : Int64 → TI → Prop) (R26 : Int64 → Int32 → Int32 → TI → Prop) (hR26 : ∀ (v2 : Int64) (v4 : Int32) (v5 : Int32) (I : TI), R26 v2 v4 v5 I → V G Y_X1_readWave 26 [(0, .ref 344), (1, .int v1), (2, .long v2), (4, .int v4), (5, .int v5)] [] (I, L, RT b d t, 457) 0 0 (fun v9 u9 => ∃ (r9 : Int64) (I9 : TI), v9 = some (.long r9) ∧ u9 = (I9, L, RT b d t, 457) ∧ Q r9 I9) (fun _ _ => False)) (h : B_X1_readWave_60 v1 v2 v5 v6 I L t Q R26) : V G Y_X1_readWave 60 [(0, .ref 344), (1, .int v1), (2, .long v2), (5, .int v5), (6, .int v6)] [] (I, L, RT b d t, 457) 0 0 (fun v9 u9 => ∃ (r9 : Int64) (I9 : TI), v9 = some (.long r9) ∧ u9 = (I9, L, RT b d t, 457) ∧ Q r9 I9) (fun _ _ => False) := by
  unfold B_X1_readWave_60 at h
  refine v_aload_n (pc' := 61) 33 0 rfl rfl rfl rfl ?_
  refine v_cV (Y2 := Y_X7_advance) (As := []) (b := 344) (pc' := 64) (c1 := 0) (s1 := 0) 34 rfl rfl mf_X7_advance rfl rfl ml_X1_81 mi_X7_advance se_X7_advance (ci := 6) rfl ly_344 (lay_lt ly_344 (by decide)) rfl (Nat.le_of_ble_eq_true rfl) ⟨Nat.le_of_ble_eq_true rfl, Nat.le_of_ble_eq_true rfl⟩ rfl rfl (ok_X7_advance I L t ht h) ?_ ?_
  · intro e9 u9 hx9
    exact hx9.elim
  intro v9 u9 hv9
  obtain ⟨I515, rfl, rfl, h⟩ := hv9
  refine ⟨fun q => absurd q (Nat.lt_irrefl _), ?_⟩
  show V G Y_X1_readWave 64 _ _ _ _ _ _ _
  refine v_lload_n (pc' := 65) 35 2 rfl rfl rfl rfl ?_
  refine v_iload (pc' := 67) 36 4 rfl rfl rfl ?_
  refine v_iload_n (pc' := 68) 37 1 rfl rfl rfl rfl ?_
  refine v_cNS (Y2 := Y_X8_window) (As := [.int v6, .int v1]) (pc' := 71) (c1 := 0) (s1 := 0) 38 rfl rfl mf_X8_window rfl rfl nt_X1_95 ms_X8_window rfl (Nat.le_of_ble_eq_true rfl) ⟨Nat.le_of_ble_eq_true rfl, Nat.le_of_ble_eq_true rfl⟩ rfl rfl (ok_X8_window v6 v1 I515 L h) ?_ ?_
  · intro e9 u9 hx9
    exact hx9.elim
  intro v9 u9 hv9
  obtain ⟨r516, rfl, rfl, h⟩ := hv9
  refine ⟨fun q => absurd q (Nat.lt_irrefl _), ?_⟩
  show V G Y_X1_readWave 71 _ (.long r516 :: _) _ _ _ _ _
  refine v_lxor (pc' := 72) 39 rfl rfl ?_
  refine v_lstore_n (ls' := [(2, .long (v2 ^^^ r516)), (0, .ref 344), (1, .int v1), (5, .int v5), (6, .int v6)]) (pc' := 73) 40 rfl rfl rfl (by decide) rfl ?_
  refine v_iload (pc' := 75) 41 4 rfl rfl rfl ?_
  refine v_istore (ls' := [(4, .int v6), (2, .long (v2 ^^^ r516)), (0, .ref 344), (1, .int v1), (5, .int v5), (6, .int v6)]) (pc' := 77) 42 rfl rfl (by decide) rfl ?_
  refine v_iinc (v := (v5 + 1)) (ls' := [(5, .int (v5 + 1)), (4, .int v6), (2, .long (v2 ^^^ r516)), (0, .ref 344), (1, .int v1), (6, .int v6)]) (pc' := 80) 43 4 rfl rfl rfl rfl (by decide) rfl ?_
  refine v_goto (tgt := 26) 44 rfl (by decide) ?_
  refine V.sub [3, 4, 2, 1, 0] rfl ?_
  exact hR26 (v2 ^^^ r516) v6 (v5 + 1) I515 h
set_option maxHeartbeats 4000000 in
set_option maxRecDepth 100000 in
theorem d_X1_readWave_26 {G : GT} {b d : Nat} (v1 : Int32) (L : TL) (t : Nat) (ht : txOK t) (Q : Int64 → TI → Prop) (R26 : Int64 → Int32 → Int32 → TI → Prop)  (hR26 : ∀ (v2 : Int64) (v4 : Int32) (v5 : Int32) (I : TI), R26 v2 v4 v5 I → V G Y_X1_readWave 26 [(0, .ref 344), (1, .int v1), (2, .long v2), (4, .int v4), (5, .int v5)] [] (I, L, RT b d t, 457) 0 0 (fun v9 u9 => ∃ (r9 : Int64) (I9 : TI), v9 = some (.long r9) ∧ u9 = (I9, L, RT b d t, 457) ∧ Q r9 I9) (fun _ _ => False)) (v2 : Int64) (v4 : Int32) (v5 : Int32) (I : TI)  (h : D_X1_readWave_26 v1 L t Q R26 v2 v4 v5 I) : V G Y_X1_readWave 26 [(0, .ref 344), (1, .int v1), (2, .long v2), (4, .int v4), (5, .int v5)] [] (I, L, RT b d t, 457) 0 0 (fun v9 u9 => ∃ (r9 : Int64) (I9 : TI), v9 = some (.long r9) ∧ u9 = (I9, L, RT b d t, 457) ∧ Q r9 I9) (fun _ _ => False) := by
  unfold D_X1_readWave_26 at h
  refine v_iload (pc' := 28) 16 4 rfl rfl rfl ?_
  refine v_bipush (v := 60) (pc' := 30) 17 rfl rfl (by decide) ?_
  refine v_icmp_gt (tgt := 83) (pc' := 33) 18 rfl rfl (by decide) (fun hc => ?_) (fun hc => ?_)
  · replace h := h.1 hc
    refine V.sub [0, 2] rfl ?_
    exact b_X1_readWave_83 v2 I L t ht Q h
  replace h := h.2 hc
  refine v_aload_n (pc' := 34) 19 0 rfl rfl rfl rfl ?_
  refine v_cV (Y2 := Y_X7_isNumber) (As := []) (b := 344) (pc' := 37) (c1 := 0) (s1 := 0) 20 rfl rfl mf_X7_isNumber rfl rfl ml_X1_99 mi_X7_isNumber se_X7_isNumber (ci := 6) rfl ly_344 (lay_lt ly_344 (by decide)) rfl (Nat.le_of_ble_eq_true rfl) ⟨Nat.le_of_ble_eq_true rfl, Nat.le_of_ble_eq_true rfl⟩ rfl rfl (ok_X7_isNumber I L h) ?_ ?_
  · intro e9 u9 hx9
    exact hx9.elim
  intro v9 u9 hv9
  obtain ⟨r517, rfl, rfl, h⟩ := hv9
  refine ⟨fun q => absurd q (Nat.lt_irrefl _), ?_⟩
  show V G Y_X1_readWave 37 _ (.int r517 :: _) _ _ _ _ _
  refine v_if_eq (tgt := 83) (pc' := 40) 21 rfl rfl (by decide) (fun hc => ?_) (fun hc => ?_)
  · replace h := h.1 hc
    refine V.sub [0, 2] rfl ?_
    exact b_X1_readWave_83 v2 I L t ht Q h
  replace h := h.2 hc
  refine v_aload_n (pc' := 41) 22 0 rfl rfl rfl rfl ?_
  refine v_iconst (v := 1) (pc' := 42) 23 rfl rfl (by decide) ?_
  refine v_iload_n (pc' := 43) 24 1 rfl rfl rfl rfl ?_
  refine v_cV (Y2 := Y_X7_peekNumber) (As := [.int 1, .int v1]) (b := 344) (pc' := 46) (c1 := 0) (s1 := 0) 25 rfl rfl mf_X7_peekNumber rfl rfl ml_X1_102 mi_X7_peekNumber se_X7_peekNumber (ci := 6) rfl ly_344 (lay_lt ly_344 (by decide)) rfl (Nat.le_of_ble_eq_true rfl) ⟨Nat.le_of_ble_eq_true rfl, Nat.le_of_ble_eq_true rfl⟩ rfl rfl (ok_X7_peekNumber (1 : Int32) v1 I L h) ?_ ?_
  · intro e9 u9 hx9
    exact hx9.elim
  intro v9 u9 hv9
  obtain ⟨r518, I519, rfl, rfl, h⟩ := hv9
  refine ⟨fun q => absurd q (Nat.lt_irrefl _), ?_⟩
  show V G Y_X1_readWave 46 _ (.int r518 :: _) _ _ _ _ _
  refine v_istore (ls' := [(6, .int r518), (0, .ref 344), (1, .int v1), (2, .long v2), (4, .int v4), (5, .int v5)]) (pc' := 48) 26 rfl rfl (by decide) rfl ?_
  refine v_iload (pc' := 50) 27 0 rfl rfl rfl ?_
  refine v_iload (pc' := 52) 28 4 rfl rfl rfl ?_
  refine v_icmp_gt (tgt := 60) (pc' := 55) 29 rfl rfl (by decide) (fun hc => ?_) (fun hc => ?_)
  · replace h := h.1 hc
    refine V.sub [1, 2, 3, 5, 0] rfl ?_
    exact b_X1_readWave_60 v1 v2 v5 r518 I519 L t ht Q R26 hR26 h
  replace h := h.2 hc
  refine v_aload_n (pc' := 56) 30 1 rfl rfl rfl rfl ?_
  refine v_iconst (v := 4) (pc' := 57) 31 rfl rfl (by decide) ?_
  refine v_cV (Y2 := Y_X7_fail) (As := [.int 4]) (b := 344) (pc' := 60) (c1 := 0) (s1 := 0) 32 rfl rfl mf_X7_fail rfl rfl ml_X1_30 mi_X7_fail se_X7_fail (ci := 6) rfl ly_344 (lay_lt ly_344 (by decide)) rfl (Nat.le_of_ble_eq_true rfl) ⟨Nat.le_of_ble_eq_true rfl, Nat.le_of_ble_eq_true rfl⟩ rfl rfl (ok_X7_fail (4 : Int32) I519 L h) ?_ ?_
  · intro e9 u9 hx9
    exact hx9.elim
  intro v9 u9 hv9
  obtain ⟨I520, rfl, rfl, h⟩ := hv9
  refine ⟨fun q => absurd q (Nat.lt_irrefl _), ?_⟩
  show V G Y_X1_readWave 60 _ _ _ _ _ _ _
  refine V.sub [1, 2, 3, 5, 0] rfl ?_
  exact b_X1_readWave_60 v1 v2 v5 r518 I520 L t ht Q R26 hR26 h
theorem l_X1_readWave_26 {G : GT} {b d : Nat} (v1 : Int32) (L : TL) (t : Nat) (ht : txOK t) (Q : Int64 → TI → Prop)  : ∀ (n9 : Nat) (v2 : Int64) (v4 : Int32) (v5 : Int32) (I : TI), L_X1_readWave_26 v1 L t Q n9 v2 v4 v5 I → V G Y_X1_readWave 26 [(0, .ref 344), (1, .int v1), (2, .long v2), (4, .int v4), (5, .int v5)] [] (I, L, RT b d t, 457) 0 0 (fun v9 u9 => ∃ (r9 : Int64) (I9 : TI), v9 = some (.long r9) ∧ u9 = (I9, L, RT b d t, 457) ∧ Q r9 I9) (fun _ _ => False)
  | 0, _, _, _, _, h => h.elim
  | n9 + 1, v2, v4, v5, I, h => d_X1_readWave_26 v1 L t ht Q _ (l_X1_readWave_26 v1 L t ht Q n9) v2 v4 v5 I h
set_option maxHeartbeats 4000000 in
set_option maxRecDepth 100000 in
theorem b_X1_readWave_19 {G : GT} {b d : Nat} (v1 : Int32) (s0 : Int64) (I : TI) (L : TL) (t : Nat) (ht : txOK t) (Q : Int64 → TI → Prop)  (h : B_X1_readWave_19 v1 s0 I L t Q) : V G Y_X1_readWave 19 [(0, .ref 344), (1, .int v1)] [.long s0] (I, L, RT b d t, 457) 0 0 (fun v9 u9 => ∃ (r9 : Int64) (I9 : TI), v9 = some (.long r9) ∧ u9 = (I9, L, RT b d t, 457) ∧ Q r9 I9) (fun _ _ => False) := by
  unfold B_X1_readWave_19 at h
  refine v_lstore_n (ls' := [(2, .long s0), (0, .ref 344), (1, .int v1)]) (pc' := 20) 11 rfl rfl rfl (by decide) rfl ?_
  refine v_iconst (v := 0) (pc' := 21) 12 rfl rfl (by decide) ?_
  refine v_istore (ls' := [(4, .int 0), (2, .long s0), (0, .ref 344), (1, .int v1)]) (pc' := 23) 13 rfl rfl (by decide) rfl ?_
  refine v_iconst (v := 0) (pc' := 24) 14 rfl rfl (by decide) ?_
  refine v_istore (ls' := [(5, .int 0), (4, .int 0), (2, .long s0), (0, .ref 344), (1, .int v1)]) (pc' := 26) 15 rfl rfl (by decide) rfl ?_
  refine V.sub [3, 4, 2, 1, 0] rfl ?_
  obtain ⟨n521, h⟩ := h
  exact l_X1_readWave_26 v1 L t ht Q n521 s0 (0 : Int32) (0 : Int32) I h
set_option maxHeartbeats 4000000 in
set_option maxRecDepth 100000 in
theorem ok_X1_readWave {G : GT} {b d : Nat} (p1 : Int32) (I : TI) (L : TL) (t : Nat) (ht : txOK t) {Q : Int64 → TI → Prop} (h : W_X1_readWave p1 I L t Q) : MW G Y_X1_readWave [.ref 344, .int p1] (I, L, RT b d t, 457) (fun v9 u9 => ∃ (r9 : Int64) (I9 : TI), v9 = some (.long r9) ∧ u9 = (I9, L, RT b d t, 457) ∧ Q r9 I9) (fun _ _ => False) := by
  unfold W_X1_readWave at h
  refine MW.intro rfl (by decide) is_X1_readWave (Nat.le_of_ble_eq_true rfl) ?_
  show V G Y_X1_readWave 0 [(0, .ref 344), (1, .int p1)] [] (I, L, RT b d t, 457) 0 0 _ _
  refine v_aload_n (pc' := 1) 0 0 rfl rfl rfl rfl ?_
  refine v_iconst (v := 0) (pc' := 2) 1 rfl rfl (by decide) ?_
  refine v_iconst (v := 1) (pc' := 3) 2 rfl rfl (by decide) ?_
  refine v_cV (Y2 := Y_X7_takeNumber) (As := [.int 0, .int 1]) (b := 344) (pc' := 6) (c1 := 0) (s1 := 0) 3 rfl rfl mf_X7_takeNumber rfl rfl ml_X1_46 mi_X7_takeNumber se_X7_takeNumber (ci := 6) rfl ly_344 (lay_lt ly_344 (by decide)) rfl (Nat.le_of_ble_eq_true rfl) ⟨Nat.le_of_ble_eq_true rfl, Nat.le_of_ble_eq_true rfl⟩ rfl rfl (ok_X7_takeNumber (0 : Int32) (1 : Int32) I L t ht h) ?_ ?_
  · intro e9 u9 hx9
    exact hx9.elim
  intro v9 u9 hv9
  obtain ⟨r522, I523, rfl, rfl, h⟩ := hv9
  refine ⟨fun q => absurd q (Nat.lt_irrefl _), ?_⟩
  show V G Y_X1_readWave 6 _ (.int r522 :: _) _ _ _ _ _
  refine v_iconst (v := 1) (pc' := 7) 4 rfl rfl (by decide) ?_
  refine v_icmp_ne (tgt := 18) (pc' := 10) 5 rfl rfl (by decide) (fun hc => ?_) (fun hc => ?_)
  · replace h := h.1 hc
    refine v_lconst (v := 0) (pc' := 19) 10 rfl rfl (by decide) ?_
    exact b_X1_readWave_19 p1 (0 : Int64) I523 L t ht Q h
  replace h := h.2 hc
  refine v_iconst (v := 0) (pc' := 11) 6 rfl rfl (by decide) ?_
  refine v_iload_n (pc' := 12) 7 1 rfl rfl rfl rfl ?_
  refine v_cNS (Y2 := Y_X8_window) (As := [.int 0, .int p1]) (pc' := 15) (c1 := 0) (s1 := 0) 8 rfl rfl mf_X8_window rfl rfl nt_X1_95 ms_X8_window rfl (Nat.le_of_ble_eq_true rfl) ⟨Nat.le_of_ble_eq_true rfl, Nat.le_of_ble_eq_true rfl⟩ rfl rfl (ok_X8_window (0 : Int32) p1 I523 L h) ?_ ?_
  · intro e9 u9 hx9
    exact hx9.elim
  intro v9 u9 hv9
  obtain ⟨r524, rfl, rfl, h⟩ := hv9
  refine ⟨fun q => absurd q (Nat.lt_irrefl _), ?_⟩
  show V G Y_X1_readWave 15 _ (.long r524 :: _) _ _ _ _ _
  refine v_goto (tgt := 19) 9 rfl (by decide) ?_
  exact b_X1_readWave_19 p1 r524 I523 L t ht Q h
set_option maxHeartbeats 4000000 in
set_option maxRecDepth 100000 in
theorem b_X1_readInputs_80 {G : GT} {b d : Nat} (p1 : Nat) (v2 : Int32) (I : TI) (L : TL) (t : Nat) (hp1 : bnOK p1) (ht : txOK t) (Q : TI → TL → Prop) (R16 : Int32 → TI → TL → Prop) (hR16 : ∀ (v2 : Int32) (I : TI) (L : TL), R16 v2 I L → V G Y_X1_readInputs 16 [(0, .ref 344), (1, .ref p1), (2, .int v2)] [] (I, L, RT b d t, 457) 0 0 (fun v9 u9 => ∃ (I9 : TI) (L9 : TL), v9 = none ∧ u9 = (I9, L9, RT b d t, 457) ∧ Q I9 L9) (fun _ _ => False)) (h : B_X1_readInputs_80 p1 v2 I L t Q R16) : V G Y_X1_readInputs 80 [(0, .ref 344), (1, .ref p1), (2, .int v2)] [] (I, L, RT b d t, 457) 0 0 (fun v9 u9 => ∃ (I9 : TI) (L9 : TL), v9 = none ∧ u9 = (I9, L9, RT b d t, 457) ∧ Q I9 L9) (fun _ _ => False) := by
  unfold B_X1_readInputs_80 at h
  refine v_iinc (v := (v2 + 1)) (ls' := [(2, .int (v2 + 1)), (0, .ref 344), (1, .ref p1)]) (pc' := 83) 42 2 rfl rfl rfl rfl (by decide) rfl ?_
  refine v_goto (tgt := 16) 43 rfl (by decide) ?_
  refine V.sub [1, 2, 0] rfl ?_
  exact hR16 (v2 + 1) I L h
set_option maxHeartbeats 4000000 in
set_option maxRecDepth 100000 in
theorem d_X1_readInputs_16 {G : GT} {b d : Nat} (p1 : Nat) (t : Nat) (hp1 : bnOK p1) (ht : txOK t) (Q : TI → TL → Prop) (R16 : Int32 → TI → TL → Prop)  (hR16 : ∀ (v2 : Int32) (I : TI) (L : TL), R16 v2 I L → V G Y_X1_readInputs 16 [(0, .ref 344), (1, .ref p1), (2, .int v2)] [] (I, L, RT b d t, 457) 0 0 (fun v9 u9 => ∃ (I9 : TI) (L9 : TL), v9 = none ∧ u9 = (I9, L9, RT b d t, 457) ∧ Q I9 L9) (fun _ _ => False)) (v2 : Int32) (I : TI) (L : TL)  (h : D_X1_readInputs_16 p1 t Q R16 v2 I L) : V G Y_X1_readInputs 16 [(0, .ref 344), (1, .ref p1), (2, .int v2)] [] (I, L, RT b d t, 457) 0 0 (fun v9 u9 => ∃ (I9 : TI) (L9 : TL), v9 = none ∧ u9 = (I9, L9, RT b d t, 457) ∧ Q I9 L9) (fun _ _ => False) := by
  unfold D_X1_readInputs_16 at h
  refine v_iload_n (pc' := 17) 9 2 rfl rfl rfl rfl ?_
  refine v_iconst (v := 4) (pc' := 18) 10 rfl rfl (by decide) ?_
  refine v_icmp_gt (tgt := 86) (pc' := 21) 11 rfl rfl (by decide) (fun hc => ?_) (fun hc => ?_)
  · replace h := h.1 hc
    exact v_vret 44 rfl rfl (by decide) (by decide) ⟨_, _, rfl, rfl, h⟩
  replace h := h.2 hc
  refine v_aload_n (pc' := 22) 12 0 rfl rfl rfl rfl ?_
  refine v_ldcS (pc' := 24) 13 rfl rfl sr_X1_75 ?_
  refine v_cV (Y2 := Y_X7_isWord) (As := [.ref 460]) (b := 344) (pc' := 27) (c1 := 0) (s1 := 0) 14 rfl rfl mf_X7_isWord rfl rfl ml_X1_77 mi_X7_isWord se_X7_isWord (ci := 6) rfl ly_344 (lay_lt ly_344 (by decide)) rfl (Nat.le_of_ble_eq_true rfl) ⟨Nat.le_of_ble_eq_true rfl, Nat.le_of_ble_eq_true rfl⟩ rfl rfl (ok_X7_isWord 460 I L t ht h) ?_ ?_
  · intro e9 u9 hx9
    exact hx9.elim
  intro v9 u9 hv9
  obtain ⟨r543, rfl, rfl, h⟩ := hv9
  refine ⟨fun q => absurd q (Nat.lt_irrefl _), ?_⟩
  show V G Y_X1_readInputs 27 _ (.int r543 :: _) _ _ _ _ _
  refine v_if_eq (tgt := 86) (pc' := 30) 15 rfl rfl (by decide) (fun hc => ?_) (fun hc => ?_)
  · replace h := h.1 hc
    exact v_vret 44 rfl rfl (by decide) (by decide) ⟨_, _, rfl, rfl, h⟩
  replace h := h.2 hc
  refine v_iload_n (pc' := 31) 16 2 rfl rfl rfl rfl ?_
  refine v_iconst (v := 4) (pc' := 32) 17 rfl rfl (by decide) ?_
  refine v_icmp_ne (tgt := 43) (pc' := 35) 18 rfl rfl (by decide) (fun hc => ?_) (fun hc => ?_)
  · replace h := h.1 hc
    refine v_aload_n (pc' := 44) 23 0 rfl rfl rfl rfl ?_
    refine v_cV (Y2 := Y_X7_advance) (As := []) (b := 344) (pc' := 47) (c1 := 0) (s1 := 0) 24 rfl rfl mf_X7_advance rfl rfl ml_X1_81 mi_X7_advance se_X7_advance (ci := 6) rfl ly_344 (lay_lt ly_344 (by decide)) rfl (Nat.le_of_ble_eq_true rfl) ⟨Nat.le_of_ble_eq_true rfl, Nat.le_of_ble_eq_true rfl⟩ rfl rfl (ok_X7_advance I L t ht h) ?_ ?_
    · intro e9 u9 hx9
      exact hx9.elim
    intro v9 u9 hv9
    obtain ⟨I544, rfl, rfl, h⟩ := hv9
    refine ⟨fun q => absurd q (Nat.lt_irrefl _), ?_⟩
    show V G Y_X1_readInputs 47 _ _ _ _ _ _ _
    refine v_aload_n (pc' := 48) 25 1 rfl rfl rfl rfl ?_
    refine v_getR (t := (p1 + 6)) (pc' := 51) 26 rfl rfl pf_X1_56 (bn0l hp1) (lay_lt (bn0l hp1) (by decide)) (rt_bn_1 hp1) ?_
    refine v_getR (t := (p1 + 11)) (pc' := 54) 27 rfl rfl pf_X1_84 (bn6l hp1) (lay_lt (bn6l hp1) (by decide)) (rt_st_1 (bn_st hp1)) ?_
    refine v_iload_n (pc' := 55) 28 2 rfl rfl rfl rfl ?_
    refine v_aload_n (pc' := 56) 29 0 rfl rfl rfl rfl ?_
    refine v_aload_n (pc' := 57) 30 1 rfl rfl rfl rfl ?_
    refine v_getR (t := (p1 + 1)) (pc' := 60) 31 rfl rfl pf_X1_40 (bn0l hp1) (lay_lt (bn0l hp1) (by decide)) (rt_bn_0 hp1) ?_
    refine v_getI (pc' := 63) 32 rfl rfl pf_X1_50 (bn1l hp1) (lay_lt (bn1l hp1) (by decide)) ?_
    refine v_cS (Y2 := Y_X1_readWave) (As := [.ref 344, .int (I544 (p1 + 1) 6)]) (pc' := 66) (c1 := 0) (s1 := 0) 33 rfl rfl mf_X1_readWave rfl rfl ml_X1_88 ms_X1_readWave rfl (Nat.le_of_ble_eq_true rfl) ⟨Nat.le_of_ble_eq_true rfl, Nat.le_of_ble_eq_true rfl⟩ rfl rfl (ok_X1_readWave (I544 (p1 + 1) 6) I544 L t ht h) ?_ ?_
    · intro e9 u9 hx9
      exact hx9.elim
    intro v9 u9 hv9
    obtain ⟨r545, I546, rfl, rfl, h⟩ := hv9
    refine ⟨fun q => absurd q (Nat.lt_irrefl _), ?_⟩
    show V G Y_X1_readInputs 66 _ (.long r545 :: _) _ _ _ _ _
    obtain ⟨hi547, h⟩ := h
    refine v_last (i := v2) (j := v2.toNatClampNeg) (pc' := 67) 34 rfl rfl (bn11l hp1) (bn11n hp1) (lay_lt (bn11l hp1) (by decide)) hi547 rfl ?_
    refine v_aload_n (pc' := 68) 35 1 rfl rfl rfl rfl ?_
    refine v_getR (t := (p1 + 1)) (pc' := 71) 36 rfl rfl pf_X1_40 (bn0l hp1) (lay_lt (bn0l hp1) (by decide)) (rt_bn_0 hp1) ?_
    refine v_dup (pc' := 72) 37 rfl rfl rfl ?_
    refine v_getI (pc' := 75) 38 rfl rfl pf_X1_92 (bn1l hp1) (lay_lt (bn1l hp1) (by decide)) ?_
    refine v_iconst (v := 1) (pc' := 76) 39 rfl rfl (by decide) ?_
    refine v_iadd (pc' := 77) 40 rfl rfl ?_
    refine v_putI (pc' := 80) 41 rfl rfl pf_X1_92 (fun q => absurd q (by decide)) (bn1l hp1) (lay_lt (bn1l hp1) (by decide)) ?_
    exact b_X1_readInputs_80 p1 v2 (up2 I546 (p1 + 1) 4 ((I546 (p1 + 1) 4) + 1)) (up2 L (p1 + 11) (v2.toNatClampNeg) r545) t hp1 ht Q R16 hR16 h
  replace h := h.2 hc
  refine v_aload_n (pc' := 36) 19 0 rfl rfl rfl rfl ?_
  refine v_iconst (v := 3) (pc' := 37) 20 rfl rfl (by decide) ?_
  refine v_cV (Y2 := Y_X7_fail) (As := [.int 3]) (b := 344) (pc' := 40) (c1 := 0) (s1 := 0) 21 rfl rfl mf_X7_fail rfl rfl ml_X1_30 mi_X7_fail se_X7_fail (ci := 6) rfl ly_344 (lay_lt ly_344 (by decide)) rfl (Nat.le_of_ble_eq_true rfl) ⟨Nat.le_of_ble_eq_true rfl, Nat.le_of_ble_eq_true rfl⟩ rfl rfl (ok_X7_fail (3 : Int32) I L h) ?_ ?_
  · intro e9 u9 hx9
    exact hx9.elim
  intro v9 u9 hv9
  obtain ⟨I548, rfl, rfl, h⟩ := hv9
  refine ⟨fun q => absurd q (Nat.lt_irrefl _), ?_⟩
  show V G Y_X1_readInputs 40 _ _ _ _ _ _ _
  refine v_goto (tgt := 80) 22 rfl (by decide) ?_
  exact b_X1_readInputs_80 p1 v2 I548 L t hp1 ht Q R16 hR16 h
theorem l_X1_readInputs_16 {G : GT} {b d : Nat} (p1 : Nat) (t : Nat) (hp1 : bnOK p1) (ht : txOK t) (Q : TI → TL → Prop)  : ∀ (n9 : Nat) (v2 : Int32) (I : TI) (L : TL), L_X1_readInputs_16 p1 t Q n9 v2 I L → V G Y_X1_readInputs 16 [(0, .ref 344), (1, .ref p1), (2, .int v2)] [] (I, L, RT b d t, 457) 0 0 (fun v9 u9 => ∃ (I9 : TI) (L9 : TL), v9 = none ∧ u9 = (I9, L9, RT b d t, 457) ∧ Q I9 L9) (fun _ _ => False)
  | 0, _, _, _, h => h.elim
  | n9 + 1, v2, I, L, h => d_X1_readInputs_16 p1 t hp1 ht Q _ (l_X1_readInputs_16 p1 t hp1 ht Q n9) v2 I L h
set_option maxHeartbeats 4000000 in
set_option maxRecDepth 100000 in
theorem b_X1_readInputs_14 {G : GT} {b d : Nat} (p1 : Nat) (I : TI) (L : TL) (t : Nat) (hp1 : bnOK p1) (ht : txOK t) (Q : TI → TL → Prop)  (h : B_X1_readInputs_14 p1 I L t Q) : V G Y_X1_readInputs 14 [(0, .ref 344), (1, .ref p1)] [] (I, L, RT b d t, 457) 0 0 (fun v9 u9 => ∃ (I9 : TI) (L9 : TL), v9 = none ∧ u9 = (I9, L9, RT b d t, 457) ∧ Q I9 L9) (fun _ _ => False) := by
  unfold B_X1_readInputs_14 at h
  refine v_iconst (v := 0) (pc' := 15) 7 rfl rfl (by decide) ?_
  refine v_istore_n (ls' := [(2, .int 0), (0, .ref 344), (1, .ref p1)]) (pc' := 16) 8 rfl rfl rfl (by decide) rfl ?_
  refine V.sub [1, 2, 0] rfl ?_
  obtain ⟨n549, h⟩ := h
  exact l_X1_readInputs_16 p1 t hp1 ht Q n549 (0 : Int32) I L h
set_option maxHeartbeats 4000000 in
set_option maxRecDepth 100000 in
theorem ok_X1_readInputs {G : GT} {b d : Nat} (p1 : Nat) (I : TI) (L : TL) (t : Nat) (hp1 : bnOK p1) (ht : txOK t) {Q : TI → TL → Prop} (h : W_X1_readInputs p1 I L t Q) : MW G Y_X1_readInputs [.ref 344, .ref p1] (I, L, RT b d t, 457) (fun v9 u9 => ∃ (I9 : TI) (L9 : TL), v9 = none ∧ u9 = (I9, L9, RT b d t, 457) ∧ Q I9 L9) (fun _ _ => False) := by
  unfold W_X1_readInputs at h
  refine MW.intro rfl (by decide) is_X1_readInputs (Nat.le_of_ble_eq_true rfl) ?_
  show V G Y_X1_readInputs 0 [(0, .ref 344), (1, .ref p1)] [] (I, L, RT b d t, 457) 0 0 _ _
  refine v_aload_n (pc' := 1) 0 0 rfl rfl rfl rfl ?_
  refine v_ldcS (pc' := 3) 1 rfl rfl sr_X1_75 ?_
  refine v_cV (Y2 := Y_X7_isWord) (As := [.ref 460]) (b := 344) (pc' := 6) (c1 := 0) (s1 := 0) 2 rfl rfl mf_X7_isWord rfl rfl ml_X1_77 mi_X7_isWord se_X7_isWord (ci := 6) rfl ly_344 (lay_lt ly_344 (by decide)) rfl (Nat.le_of_ble_eq_true rfl) ⟨Nat.le_of_ble_eq_true rfl, Nat.le_of_ble_eq_true rfl⟩ rfl rfl (ok_X7_isWord 460 I L t ht h) ?_ ?_
  · intro e9 u9 hx9
    exact hx9.elim
  intro v9 u9 hv9
  obtain ⟨r550, rfl, rfl, h⟩ := hv9
  refine ⟨fun q => absurd q (Nat.lt_irrefl _), ?_⟩
  show V G Y_X1_readInputs 6 _ (.int r550 :: _) _ _ _ _ _
  refine v_if_ne (tgt := 14) (pc' := 9) 3 rfl rfl (by decide) (fun hc => ?_) (fun hc => ?_)
  · replace h := h.1 hc
    exact b_X1_readInputs_14 p1 I L t hp1 ht Q h
  replace h := h.2 hc
  refine v_aload_n (pc' := 10) 4 0 rfl rfl rfl rfl ?_
  refine v_iconst (v := 1) (pc' := 11) 5 rfl rfl (by decide) ?_
  refine v_cV (Y2 := Y_X7_fail) (As := [.int 1]) (b := 344) (pc' := 14) (c1 := 0) (s1 := 0) 6 rfl rfl mf_X7_fail rfl rfl ml_X1_30 mi_X7_fail se_X7_fail (ci := 6) rfl ly_344 (lay_lt ly_344 (by decide)) rfl (Nat.le_of_ble_eq_true rfl) ⟨Nat.le_of_ble_eq_true rfl, Nat.le_of_ble_eq_true rfl⟩ rfl rfl (ok_X7_fail (1 : Int32) I L h) ?_ ?_
  · intro e9 u9 hx9
    exact hx9.elim
  intro v9 u9 hv9
  obtain ⟨I551, rfl, rfl, h⟩ := hv9
  refine ⟨fun q => absurd q (Nat.lt_irrefl _), ?_⟩
  show V G Y_X1_readInputs 14 _ _ _ _ _ _ _
  exact b_X1_readInputs_14 p1 I551 L t hp1 ht Q h
set_option maxHeartbeats 4000000 in
set_option maxRecDepth 100000 in
theorem ok_X8_kindWord {G : GT} {b d t : Nat} (p0 : Int32) (I : TI) (L : TL)  {Q : Nat → Prop} (h : W_X8_kindWord p0 I L Q) : MW G Y_X8_kindWord [.int p0] (I, L, RT b d t, 457) (fun v9 u9 => ∃ (r9 : Nat), v9 = some (.ref r9) ∧ u9 = (I, L, RT b d t, 457) ∧ Q r9) (fun _ _ => False) := by
  unfold W_X8_kindWord at h
  refine MW.intro rfl (by decide) is_X8_kindWord (Nat.le_of_ble_eq_true rfl) ?_
  show V G Y_X8_kindWord 0 [(0, .int p0)] [] (I, L, RT b d t, 457) 0 0 _ _
  refine v_iload_n (pc' := 1) 0 0 rfl rfl rfl rfl ?_
  refine v_ts (clo := 0) (chi := 5) (dt := 64) 1 6 [40, 44, 48, 52, 56, 60] rfl (by decide) (by decide) (by decide) (by decide) (by decide) ?_ (fun hc => ?_)
  · intro j9 t9 ht9 hj9 hx9
    match j9, ht9, hj9, hx9 with
    | 0, ht9, hj9, hx9 =>
      cases ht9
      replace hx9 := hx9.trans (show Int32.ofInt _ = (0 : Int32) by decide)
      replace h := h.1 hx9
      refine v_ldcSW (pc' := 43) 2 rfl rfl sr_X8_408 ?_
      exact v_aret 3 rfl rfl (by decide) (by decide) ⟨_, rfl, rfl, h⟩
    | 1, ht9, hj9, hx9 =>
      cases ht9
      replace hx9 := hx9.trans (show Int32.ofInt _ = (1 : Int32) by decide)
      replace h := h.2.1 hx9
      refine v_ldcSW (pc' := 47) 4 rfl rfl sr_X8_410 ?_
      exact v_aret 5 rfl rfl (by decide) (by decide) ⟨_, rfl, rfl, h⟩
    | 2, ht9, hj9, hx9 =>
      cases ht9
      replace hx9 := hx9.trans (show Int32.ofInt _ = (2 : Int32) by decide)
      replace h := h.2.2.1 hx9
      refine v_ldcSW (pc' := 51) 6 rfl rfl sr_X8_412 ?_
      exact v_aret 7 rfl rfl (by decide) (by decide) ⟨_, rfl, rfl, h⟩
    | 3, ht9, hj9, hx9 =>
      cases ht9
      replace hx9 := hx9.trans (show Int32.ofInt _ = (3 : Int32) by decide)
      replace h := h.2.2.2.1 hx9
      refine v_ldcSW (pc' := 55) 8 rfl rfl sr_X8_414 ?_
      exact v_aret 9 rfl rfl (by decide) (by decide) ⟨_, rfl, rfl, h⟩
    | 4, ht9, hj9, hx9 =>
      cases ht9
      replace hx9 := hx9.trans (show Int32.ofInt _ = (4 : Int32) by decide)
      replace h := h.2.2.2.2.1 hx9
      refine v_ldcSW (pc' := 59) 10 rfl rfl sr_X8_416 ?_
      exact v_aret 11 rfl rfl (by decide) (by decide) ⟨_, rfl, rfl, h⟩
    | 5, ht9, hj9, hx9 =>
      cases ht9
      replace hx9 := hx9.trans (show Int32.ofInt _ = (5 : Int32) by decide)
      replace h := h.2.2.2.2.2.1 hx9
      refine v_ldcSW (pc' := 63) 12 rfl rfl sr_X8_418 ?_
      exact v_aret 13 rfl rfl (by decide) (by decide) ⟨_, rfl, rfl, h⟩
    | q9 + 6, ht9, hj9, hx9 => exact absurd hj9 (by omega)
  replace h := h.2.2.2.2.2.2 hc
  refine v_ldcSW (pc' := 67) 14 rfl rfl sr_X8_420 ?_
  exact v_aret 15 rfl rfl (by decide) (by decide) ⟨_, rfl, rfl, h⟩
set_option maxHeartbeats 4000000 in
set_option maxRecDepth 100000 in
theorem d_X1_readKind_2 {G : GT} {b d : Nat} (I : TI) (L : TL) (t : Nat) (ht : txOK t) (Q : Int32 → TI → Prop) (R2 : Int32 → Prop)  (hR2 : ∀ (v1 : Int32), R2 v1 → V G Y_X1_readKind 2 [(0, .ref 344), (1, .int v1)] [] (I, L, RT b d t, 457) 0 0 (fun v9 u9 => ∃ (r9 : Int32) (I9 : TI), v9 = some (.int r9) ∧ u9 = (I9, L, RT b d t, 457) ∧ Q r9 I9) (fun _ _ => False)) (v1 : Int32)  (h : D_X1_readKind_2 I L t Q R2 v1) : V G Y_X1_readKind 2 [(0, .ref 344), (1, .int v1)] [] (I, L, RT b d t, 457) 0 0 (fun v9 u9 => ∃ (r9 : Int32) (I9 : TI), v9 = some (.int r9) ∧ u9 = (I9, L, RT b d t, 457) ∧ Q r9 I9) (fun _ _ => False) := by
  unfold D_X1_readKind_2 at h
  refine v_iload_n (pc' := 3) 2 1 rfl rfl rfl rfl ?_
  refine v_bipush (v := 7) (pc' := 5) 3 rfl rfl (by decide) ?_
  refine v_icmp_ge (tgt := 31) (pc' := 8) 4 rfl rfl (by decide) (fun hc => ?_) (fun hc => ?_)
  · replace h := h.1 hc
    refine v_aload_n (pc' := 32) 16 0 rfl rfl rfl rfl ?_
    refine v_iconst (v := 1) (pc' := 33) 17 rfl rfl (by decide) ?_
    refine v_cV (Y2 := Y_X7_fail) (As := [.int 1]) (b := 344) (pc' := 36) (c1 := 0) (s1 := 0) 18 rfl rfl mf_X7_fail rfl rfl ml_X1_30 mi_X7_fail se_X7_fail (ci := 6) rfl ly_344 (lay_lt ly_344 (by decide)) rfl (Nat.le_of_ble_eq_true rfl) ⟨Nat.le_of_ble_eq_true rfl, Nat.le_of_ble_eq_true rfl⟩ rfl rfl (ok_X7_fail (1 : Int32) I L h) ?_ ?_
    · intro e9 u9 hx9
      exact hx9.elim
    intro v9 u9 hv9
    obtain ⟨I560, rfl, rfl, h⟩ := hv9
    refine ⟨fun q => absurd q (Nat.lt_irrefl _), ?_⟩
    show V G Y_X1_readKind 36 _ _ _ _ _ _ _
    refine v_iconst (v := 0) (pc' := 37) 19 rfl rfl (by decide) ?_
    exact v_iret 20 rfl rfl (by decide) (by decide) ⟨_, _, rfl, rfl, h⟩
  replace h := h.2 hc
  refine v_aload_n (pc' := 9) 5 0 rfl rfl rfl rfl ?_
  refine v_iload_n (pc' := 10) 6 1 rfl rfl rfl rfl ?_
  refine v_cNS (Y2 := Y_X8_kindWord) (As := [.int v1]) (pc' := 13) (c1 := 0) (s1 := 0) 7 rfl rfl mf_X8_kindWord rfl rfl nt_X1_129 ms_X8_kindWord rfl (Nat.le_of_ble_eq_true rfl) ⟨Nat.le_of_ble_eq_true rfl, Nat.le_of_ble_eq_true rfl⟩ rfl rfl (ok_X8_kindWord v1 I L h) ?_ ?_
  · intro e9 u9 hx9
    exact hx9.elim
  intro v9 u9 hv9
  obtain ⟨r561, rfl, rfl, h⟩ := hv9
  refine ⟨fun q => absurd q (Nat.lt_irrefl _), ?_⟩
  show V G Y_X1_readKind 13 _ (.ref r561 :: _) _ _ _ _ _
  refine v_cV (Y2 := Y_X7_isWord) (As := [.ref r561]) (b := 344) (pc' := 16) (c1 := 0) (s1 := 0) 8 rfl rfl mf_X7_isWord rfl rfl ml_X1_77 mi_X7_isWord se_X7_isWord (ci := 6) rfl ly_344 (lay_lt ly_344 (by decide)) rfl (Nat.le_of_ble_eq_true rfl) ⟨Nat.le_of_ble_eq_true rfl, Nat.le_of_ble_eq_true rfl⟩ rfl rfl (ok_X7_isWord r561 I L t ht h) ?_ ?_
  · intro e9 u9 hx9
    exact hx9.elim
  intro v9 u9 hv9
  obtain ⟨r562, rfl, rfl, h⟩ := hv9
  refine ⟨fun q => absurd q (Nat.lt_irrefl _), ?_⟩
  show V G Y_X1_readKind 16 _ (.int r562 :: _) _ _ _ _ _
  refine v_if_eq (tgt := 25) (pc' := 19) 9 rfl rfl (by decide) (fun hc => ?_) (fun hc => ?_)
  · replace h := h.1 hc
    refine v_iinc (v := (v1 + 1)) (ls' := [(1, .int (v1 + 1)), (0, .ref 344)]) (pc' := 28) 14 1 rfl rfl rfl rfl (by decide) rfl ?_
    refine v_goto (tgt := 2) 15 rfl (by decide) ?_
    refine V.sub [1, 0] rfl ?_
    exact hR2 (v1 + 1) h
  replace h := h.2 hc
  refine v_aload_n (pc' := 20) 10 0 rfl rfl rfl rfl ?_
  refine v_cV (Y2 := Y_X7_advance) (As := []) (b := 344) (pc' := 23) (c1 := 0) (s1 := 0) 11 rfl rfl mf_X7_advance rfl rfl ml_X1_81 mi_X7_advance se_X7_advance (ci := 6) rfl ly_344 (lay_lt ly_344 (by decide)) rfl (Nat.le_of_ble_eq_true rfl) ⟨Nat.le_of_ble_eq_true rfl, Nat.le_of_ble_eq_true rfl⟩ rfl rfl (ok_X7_advance I L t ht h) ?_ ?_
  · intro e9 u9 hx9
    exact hx9.elim
  intro v9 u9 hv9
  obtain ⟨I563, rfl, rfl, h⟩ := hv9
  refine ⟨fun q => absurd q (Nat.lt_irrefl _), ?_⟩
  show V G Y_X1_readKind 23 _ _ _ _ _ _ _
  refine v_iload_n (pc' := 24) 12 1 rfl rfl rfl rfl ?_
  exact v_iret 13 rfl rfl (by decide) (by decide) ⟨_, _, rfl, rfl, h⟩
theorem l_X1_readKind_2 {G : GT} {b d : Nat} (I : TI) (L : TL) (t : Nat) (ht : txOK t) (Q : Int32 → TI → Prop)  : ∀ (n9 : Nat) (v1 : Int32), L_X1_readKind_2 I L t Q n9 v1 → V G Y_X1_readKind 2 [(0, .ref 344), (1, .int v1)] [] (I, L, RT b d t, 457) 0 0 (fun v9 u9 => ∃ (r9 : Int32) (I9 : TI), v9 = some (.int r9) ∧ u9 = (I9, L, RT b d t, 457) ∧ Q r9 I9) (fun _ _ => False)
  | 0, _, h => h.elim
  | n9 + 1, v1, h => d_X1_readKind_2 I L t ht Q _ (l_X1_readKind_2 I L t ht Q n9) v1 h
set_option maxHeartbeats 4000000 in
set_option maxRecDepth 100000 in
theorem ok_X1_readKind {G : GT} {b d : Nat} (I : TI) (L : TL) (t : Nat) (ht : txOK t) {Q : Int32 → TI → Prop} (h : W_X1_readKind I L t Q) : MW G Y_X1_readKind [.ref 344] (I, L, RT b d t, 457) (fun v9 u9 => ∃ (r9 : Int32) (I9 : TI), v9 = some (.int r9) ∧ u9 = (I9, L, RT b d t, 457) ∧ Q r9 I9) (fun _ _ => False) := by
  unfold W_X1_readKind at h
  refine MW.intro rfl (by decide) is_X1_readKind (Nat.le_of_ble_eq_true rfl) ?_
  show V G Y_X1_readKind 0 [(0, .ref 344)] [] (I, L, RT b d t, 457) 0 0 _ _
  refine v_iconst (v := 0) (pc' := 1) 0 rfl rfl (by decide) ?_
  refine v_istore_n (ls' := [(1, .int 0), (0, .ref 344)]) (pc' := 2) 1 rfl rfl rfl (by decide) rfl ?_
  refine V.sub [1, 0] rfl ?_
  obtain ⟨n564, h⟩ := h
  exact l_X1_readKind_2 I L t ht Q n564 (0 : Int32) h
set_option maxHeartbeats 4000000 in
set_option maxRecDepth 100000 in
theorem b_X2_addGate_62 {G : GT} {b d t : Nat} (p0 : Nat) (s1 : Int32) (s2 : Int32) (s3 : Int32) (I : TI) (L : TL) (hp0 : ckOK p0) (Q : TI → Prop)  (h : B_X2_addGate_62 p0 s1 s2 s3 I L Q) : V G Y_X2_addGate 62 [(0, .ref p0)] [.int s3, .int s2, .int s1, .ref (p0 + 4)] (I, L, RT b d t, 457) 0 0 (fun v9 u9 => ∃ (I9 : TI), v9 = none ∧ u9 = (I9, L, RT b d t, 457) ∧ Q I9) (fun _ _ => False) := by
  unfold B_X2_addGate_62 at h
  refine v_ior (pc' := 63) 38 rfl rfl ?_
  obtain ⟨hi579, h⟩ := h
  refine v_iast (i := s1) (j := s1.toNatClampNeg) (pc' := 64) 39 rfl rfl (ck4l hp0) (ck4n hp0) (lay_lt (ck4l hp0) (by decide)) hi579 rfl ?_
  refine v_aload_n (pc' := 65) 40 0 rfl rfl rfl rfl ?_
  refine v_dup (pc' := 66) 41 rfl rfl rfl ?_
  refine v_getI (pc' := 69) 42 rfl rfl pf_X2_28 (ck0l hp0) (lay_lt (ck0l hp0) (by decide)) ?_
  refine v_iconst (v := 1) (pc' := 70) 43 rfl rfl (by decide) ?_
  refine v_iadd (pc' := 71) 44 rfl rfl ?_
  refine v_putI (pc' := 74) 45 rfl rfl pf_X2_28 (fun q => absurd q (by decide)) (ck0l hp0) (lay_lt (ck0l hp0) (by decide)) ?_
  refine nm_M (e := (up2 (up2 I (p0 + 4) (s1.toNatClampNeg) (s2 ||| s3)) p0 5 (((up2 I (p0 + 4) (s1.toNatClampNeg) (s2 ||| s3)) p0 5) + 1))) (fun I580 hI580 => ?_)
  replace h := h I580 hI580
  exact v_vret 46 rfl rfl (by decide) (by decide) ⟨_, rfl, rfl, h⟩
set_option maxHeartbeats 4000000 in
set_option maxRecDepth 100000 in
theorem ok_X2_addGate {G : GT} {b d t : Nat} (p0 : Nat) (p1 : Int32) (p2 : Int32) (p3 : Int32) (I : TI) (L : TL) (hp0 : ckOK p0) {Q : TI → Prop} (h : W_X2_addGate p0 p1 p2 p3 I L Q) : MW G Y_X2_addGate [.ref p0, .int p1, .int p2, .int p3] (I, L, RT b d t, 457) (fun v9 u9 => ∃ (I9 : TI), v9 = none ∧ u9 = (I9, L, RT b d t, 457) ∧ Q I9) (fun _ _ => False) := by
  unfold W_X2_addGate at h
  refine MW.intro rfl (by decide) is_X2_addGate (Nat.le_of_ble_eq_true rfl) ?_
  show V G Y_X2_addGate 0 [(0, .ref p0), (1, .int p1), (2, .int p2), (3, .int p3)] [] (I, L, RT b d t, 457) 0 0 _ _
  refine v_aload_n (pc' := 1) 0 0 rfl rfl rfl rfl ?_
  refine v_cV (Y2 := Y_X2_nets) (As := []) (b := p0) (pc' := 4) (c1 := 0) (s1 := 0) 1 rfl rfl mf_X2_nets rfl rfl ml_X2_40 mi_X2_nets se_X2_nets (ci := 1) rfl (ck0l hp0) (lay_lt (ck0l hp0) (by decide)) rfl (Nat.le_of_ble_eq_true rfl) ⟨Nat.le_of_ble_eq_true rfl, Nat.le_of_ble_eq_true rfl⟩ rfl rfl (ok_X2_nets p0 I L hp0 h) ?_ ?_
  · intro e9 u9 hx9
    exact hx9.elim
  intro v9 u9 hv9
  obtain ⟨r581, rfl, rfl, h⟩ := hv9
  refine ⟨fun q => absurd q (Nat.lt_irrefl _), ?_⟩
  show V G Y_X2_addGate 4 _ (.int r581 :: _) _ _ _ _ _
  refine v_istore (ls' := [(4, .int r581), (0, .ref p0), (1, .int p1), (2, .int p2), (3, .int p3)]) (pc' := 6) 2 rfl rfl (by decide) rfl ?_
  refine v_aload_n (pc' := 7) 3 1 rfl rfl rfl rfl ?_
  refine v_getR (t := (p0 + 1)) (pc' := 10) 4 rfl rfl pf_X2_9 (ck0l hp0) (lay_lt (ck0l hp0) (by decide)) (rt_ck_0 hp0) ?_
  refine v_iload (pc' := 12) 5 0 rfl rfl rfl ?_
  refine v_iload_n (pc' := 13) 6 2 rfl rfl rfl rfl ?_
  obtain ⟨hi582, h⟩ := h
  refine v_iast (i := r581) (j := r581.toNatClampNeg) (pc' := 14) 7 rfl rfl (ck1l hp0) (ck1n hp0) (lay_lt (ck1l hp0) (by decide)) hi582 rfl ?_
  refine v_aload_n (pc' := 15) 8 1 rfl rfl rfl rfl ?_
  refine v_getR (t := (p0 + 2)) (pc' := 18) 9 rfl rfl pf_X2_15 (ck0l hp0) (lay_lt (ck0l hp0) (by decide)) (rt_ck_1 hp0) ?_
  refine v_iload (pc' := 20) 10 0 rfl rfl rfl ?_
  refine v_iload_n (pc' := 21) 11 3 rfl rfl rfl rfl ?_
  obtain ⟨hi583, h⟩ := h
  refine v_iast (i := r581) (j := r581.toNatClampNeg) (pc' := 22) 12 rfl rfl (ck2l hp0) (ck2n hp0) (lay_lt (ck2l hp0) (by decide)) hi583 rfl ?_
  refine nm_M (e := (up2 (up2 I (p0 + 1) (r581.toNatClampNeg) p1) (p0 + 2) (r581.toNatClampNeg) p2)) (fun I584 hI584 => ?_)
  replace h := h I584 hI584
  refine v_aload_n (pc' := 23) 13 1 rfl rfl rfl rfl ?_
  refine v_getR (t := (p0 + 3)) (pc' := 26) 14 rfl rfl pf_X2_18 (ck0l hp0) (lay_lt (ck0l hp0) (by decide)) (rt_ck_2 hp0) ?_
  refine v_iload (pc' := 28) 15 0 rfl rfl rfl ?_
  refine v_iload_n (pc' := 29) 16 4 rfl rfl rfl rfl ?_
  obtain ⟨hi585, h⟩ := h
  refine v_iast (i := r581) (j := r581.toNatClampNeg) (pc' := 30) 17 rfl rfl (ck3l hp0) (ck3n hp0) (lay_lt (ck3l hp0) (by decide)) hi585 rfl ?_
  refine v_aload_n (pc' := 31) 18 1 rfl rfl rfl rfl ?_
  refine v_getR (t := (p0 + 4)) (pc' := 34) 19 rfl rfl pf_X2_21 (ck0l hp0) (lay_lt (ck0l hp0) (by decide)) (rt_ck_3 hp0) ?_
  refine v_iload (pc' := 36) 20 0 rfl rfl rfl ?_
  refine v_iconst (v := 1) (pc' := 37) 21 rfl rfl (by decide) ?_
  refine v_iload (pc' := 39) 22 0 rfl rfl rfl ?_
  refine v_ishl (pc' := 40) 23 rfl rfl ?_
  refine v_aload_n (pc' := 41) 24 1 rfl rfl rfl rfl ?_
  refine v_getR (t := (p0 + 4)) (pc' := 44) 25 rfl rfl pf_X2_21 (ck0l hp0) (lay_lt (ck0l hp0) (by decide)) (rt_ck_3 hp0) ?_
  refine v_iload_n (pc' := 45) 26 3 rfl rfl rfl rfl ?_
  obtain ⟨hi586, h⟩ := h
  refine v_iald (i := p2) (j := p2.toNatClampNeg) (pc' := 46) 27 rfl rfl (ck4l hp0) (ck4n hp0) (lay_lt (ck4l hp0) (by decide)) hi586 rfl ?_
  refine v_ior (pc' := 47) 28 rfl rfl ?_
  refine v_iload_n (pc' := 48) 29 4 rfl rfl rfl rfl ?_
  refine v_iconst (v := -1) (pc' := 49) 30 rfl rfl (by decide) ?_
  refine v_icmp_ne (tgt := 56) (pc' := 52) 31 rfl rfl (by decide) (fun hc => ?_) (fun hc => ?_)
  · replace h := h.1 hc
    refine v_aload_n (pc' := 57) 34 1 rfl rfl rfl rfl ?_
    refine v_getR (t := (p0 + 4)) (pc' := 60) 35 rfl rfl pf_X2_21 (ck0l hp0) (lay_lt (ck0l hp0) (by decide)) (rt_ck_3 hp0) ?_
    refine v_iload_n (pc' := 61) 36 4 rfl rfl rfl rfl ?_
    obtain ⟨hi587, h⟩ := h
    refine v_iald (i := p3) (j := p3.toNatClampNeg) (pc' := 62) 37 rfl rfl (ck4l hp0) (ck4n hp0) (lay_lt (ck4l hp0) (by decide)) hi587 rfl ?_
    refine V.sub [1] rfl ?_
    exact b_X2_addGate_62 p0 r581 (((1 : Int32) <<< (r581 &&& 31)) ||| ((up2 I584 (p0 + 3) (r581.toNatClampNeg) p3) (p0 + 4) (p2.toNatClampNeg))) ((up2 I584 (p0 + 3) (r581.toNatClampNeg) p3) (p0 + 4) (p3.toNatClampNeg)) (up2 I584 (p0 + 3) (r581.toNatClampNeg) p3) L hp0 Q h
  replace h := h.2 hc
  refine v_iconst (v := 0) (pc' := 53) 32 rfl rfl (by decide) ?_
  refine v_goto (tgt := 62) 33 rfl (by decide) ?_
  refine V.sub [1] rfl ?_
  exact b_X2_addGate_62 p0 r581 (((1 : Int32) <<< (r581 &&& 31)) ||| ((up2 I584 (p0 + 3) (r581.toNatClampNeg) p3) (p0 + 4) (p2.toNatClampNeg))) (0 : Int32) (up2 I584 (p0 + 3) (r581.toNatClampNeg) p3) L hp0 Q h
set_option maxHeartbeats 4000000 in
set_option maxRecDepth 100000 in
theorem b_X1_readGate_81 {G : GT} {b d : Nat} (p1 : Nat) (v2 : Int32) (v3 : Int32) (v4 : Int32) (v5 : Int32) (v6 : Int32) (I : TI) (L : TL) (t : Nat) (hp1 : bnOK p1) (ht : txOK t) (Q : TI → Prop) (R45 : Int32 → TI → Prop) (hR45 : ∀ (v6 : Int32) (I : TI), R45 v6 I → V G Y_X1_readGate 45 [(0, .ref 344), (1, .ref p1), (2, .int v2), (3, .int v3), (4, .int v4), (5, .int v5), (6, .int v6)] [] (I, L, RT b d t, 457) 0 0 (fun v9 u9 => ∃ (I9 : TI), v9 = none ∧ u9 = (I9, L, RT b d t, 457) ∧ Q I9) (fun _ _ => False)) (h : B_X1_readGate_81 p1 v2 v3 v4 v5 v6 I L t Q R45) : V G Y_X1_readGate 81 [(0, .ref 344), (1, .ref p1), (2, .int v2), (3, .int v3), (4, .int v4), (5, .int v5), (6, .int v6)] [] (I, L, RT b d t, 457) 0 0 (fun v9 u9 => ∃ (I9 : TI), v9 = none ∧ u9 = (I9, L, RT b d t, 457) ∧ Q I9) (fun _ _ => False) := by
  unfold B_X1_readGate_81 at h
  refine v_iinc (v := (v6 + 1)) (ls' := [(6, .int (v6 + 1)), (0, .ref 344), (1, .ref p1), (2, .int v2), (3, .int v3), (4, .int v4), (5, .int v5)]) (pc' := 84) 47 6 rfl rfl rfl rfl (by decide) rfl ?_
  refine v_goto (tgt := 45) 48 rfl (by decide) ?_
  refine V.sub [1, 2, 3, 4, 5, 6, 0] rfl ?_
  exact hR45 (v6 + 1) I h
set_option maxHeartbeats 4000000 in
set_option maxRecDepth 100000 in
theorem d_X1_readGate_45 {G : GT} {b d : Nat} (p1 : Nat) (v2 : Int32) (v3 : Int32) (v4 : Int32) (v5 : Int32) (L : TL) (t : Nat) (hp1 : bnOK p1) (ht : txOK t) (Q : TI → Prop) (R45 : Int32 → TI → Prop)  (hR45 : ∀ (v6 : Int32) (I : TI), R45 v6 I → V G Y_X1_readGate 45 [(0, .ref 344), (1, .ref p1), (2, .int v2), (3, .int v3), (4, .int v4), (5, .int v5), (6, .int v6)] [] (I, L, RT b d t, 457) 0 0 (fun v9 u9 => ∃ (I9 : TI), v9 = none ∧ u9 = (I9, L, RT b d t, 457) ∧ Q I9) (fun _ _ => False)) (v6 : Int32) (I : TI)  (h : D_X1_readGate_45 p1 v2 v3 v4 v5 L t Q R45 v6 I) : V G Y_X1_readGate 45 [(0, .ref 344), (1, .ref p1), (2, .int v2), (3, .int v3), (4, .int v4), (5, .int v5), (6, .int v6)] [] (I, L, RT b d t, 457) 0 0 (fun v9 u9 => ∃ (I9 : TI), v9 = none ∧ u9 = (I9, L, RT b d t, 457) ∧ Q I9) (fun _ _ => False) := by
  unfold D_X1_readGate_45 at h
  refine v_iload (pc' := 47) 28 6 rfl rfl rfl ?_
  refine v_iconst (v := 3) (pc' := 48) 29 rfl rfl (by decide) ?_
  refine v_icmp_ge (tgt := 87) (pc' := 51) 30 rfl rfl (by decide) (fun hc => ?_) (fun hc => ?_)
  · replace h := h.1 hc
    refine v_aload_n (pc' := 88) 49 0 rfl rfl rfl rfl ?_
    refine v_bipush (v := 59) (pc' := 90) 50 rfl rfl (by decide) ?_
    refine v_cV (Y2 := Y_X7_takeSign) (As := [.int 59]) (b := 344) (pc' := 93) (c1 := 0) (s1 := 0) 51 rfl rfl mf_X7_takeSign rfl rfl ml_X1_71 mi_X7_takeSign se_X7_takeSign (ci := 6) rfl ly_344 (lay_lt ly_344 (by decide)) rfl (Nat.le_of_ble_eq_true rfl) ⟨Nat.le_of_ble_eq_true rfl, Nat.le_of_ble_eq_true rfl⟩ rfl rfl (ok_X7_takeSign (59 : Int32) I L t ht h) ?_ ?_
    · intro e9 u9 hx9
      exact hx9.elim
    intro v9 u9 hv9
    obtain ⟨I625, rfl, rfl, h⟩ := hv9
    refine ⟨fun q => absurd q (Nat.lt_irrefl _), ?_⟩
    show V G Y_X1_readGate 93 _ _ _ _ _ _ _
    refine v_aload_n (pc' := 94) 52 0 rfl rfl rfl rfl ?_
    refine v_cV (Y2 := Y_X7_failed) (As := []) (b := 344) (pc' := 97) (c1 := 0) (s1 := 0) 53 rfl rfl mf_X7_failed rfl rfl ml_X1_118 mi_X7_failed se_X7_failed (ci := 6) rfl ly_344 (lay_lt ly_344 (by decide)) rfl (Nat.le_of_ble_eq_true rfl) ⟨Nat.le_of_ble_eq_true rfl, Nat.le_of_ble_eq_true rfl⟩ rfl rfl (ok_X7_failed I625 L h) ?_ ?_
    · intro e9 u9 hx9
      exact hx9.elim
    intro v9 u9 hv9
    obtain ⟨r626, rfl, rfl, h⟩ := hv9
    refine ⟨fun q => absurd q (Nat.lt_irrefl _), ?_⟩
    show V G Y_X1_readGate 97 _ (.int r626 :: _) _ _ _ _ _
    refine v_if_ne (tgt := 112) (pc' := 100) 54 rfl rfl (by decide) (fun hc => ?_) (fun hc => ?_)
    · replace h := h.1 hc
      exact v_vret 61 rfl rfl (by decide) (by decide) ⟨_, rfl, rfl, h⟩
    replace h := h.2 hc
    refine v_aload_n (pc' := 101) 55 1 rfl rfl rfl rfl ?_
    refine v_getR (t := (p1 + 1)) (pc' := 104) 56 rfl rfl pf_X1_40 (bn0l hp1) (lay_lt (bn0l hp1) (by decide)) (rt_bn_0 hp1) ?_
    refine v_iload_n (pc' := 105) 57 3 rfl rfl rfl rfl ?_
    refine v_iload (pc' := 107) 58 4 rfl rfl rfl ?_
    refine v_iload (pc' := 109) 59 5 rfl rfl rfl ?_
    refine v_cV (Y2 := Y_X2_addGate) (As := [.int v3, .int v4, .int v5]) (b := (p1 + 1)) (pc' := 112) (c1 := 0) (s1 := 0) 60 rfl rfl mf_X2_addGate rfl rfl ml_X1_125 mi_X2_addGate se_X2_addGate (ci := 1) rfl (bn1l hp1) (lay_lt (bn1l hp1) (by decide)) rfl (Nat.le_of_ble_eq_true rfl) ⟨Nat.le_of_ble_eq_true rfl, Nat.le_of_ble_eq_true rfl⟩ rfl rfl (ok_X2_addGate (p1 + 1) v3 v4 v5 I625 L (bn_ck hp1) h) ?_ ?_
    · intro e9 u9 hx9
      exact hx9.elim
    intro v9 u9 hv9
    obtain ⟨I627, rfl, rfl, h⟩ := hv9
    refine ⟨fun q => absurd q (Nat.lt_irrefl _), ?_⟩
    show V G Y_X1_readGate 112 _ _ _ _ _ _ _
    exact v_vret 61 rfl rfl (by decide) (by decide) ⟨_, rfl, rfl, h⟩
  replace h := h.2 hc
  refine v_aload_n (pc' := 52) 31 0 rfl rfl rfl rfl ?_
  refine v_iconst (v := 1) (pc' := 53) 32 rfl rfl (by decide) ?_
  refine v_bipush (v := 9) (pc' := 55) 33 rfl rfl (by decide) ?_
  refine v_cV (Y2 := Y_X7_takeNumber) (As := [.int 1, .int 9]) (b := 344) (pc' := 58) (c1 := 0) (s1 := 0) 34 rfl rfl mf_X7_takeNumber rfl rfl ml_X1_46 mi_X7_takeNumber se_X7_takeNumber (ci := 6) rfl ly_344 (lay_lt ly_344 (by decide)) rfl (Nat.le_of_ble_eq_true rfl) ⟨Nat.le_of_ble_eq_true rfl, Nat.le_of_ble_eq_true rfl⟩ rfl rfl (ok_X7_takeNumber (1 : Int32) (9 : Int32) I L t ht h) ?_ ?_
  · intro e9 u9 hx9
    exact hx9.elim
  intro v9 u9 hv9
  obtain ⟨r628, I629, rfl, rfl, h⟩ := hv9
  refine ⟨fun q => absurd q (Nat.lt_irrefl _), ?_⟩
  show V G Y_X1_readGate 58 _ (.int r628 :: _) _ _ _ _ _
  refine v_istore (ls' := [(7, .int r628), (0, .ref 344), (1, .ref p1), (2, .int v2), (3, .int v3), (4, .int v4), (5, .int v5), (6, .int v6)]) (pc' := 60) 35 rfl rfl (by decide) rfl ?_
  refine v_aload_n (pc' := 61) 36 1 rfl rfl rfl rfl ?_
  refine v_cV (Y2 := Y_X7_failed) (As := []) (b := 344) (pc' := 64) (c1 := 0) (s1 := 0) 37 rfl rfl mf_X7_failed rfl rfl ml_X1_118 mi_X7_failed se_X7_failed (ci := 6) rfl ly_344 (lay_lt ly_344 (by decide)) rfl (Nat.le_of_ble_eq_true rfl) ⟨Nat.le_of_ble_eq_true rfl, Nat.le_of_ble_eq_true rfl⟩ rfl rfl (ok_X7_failed I629 L h) ?_ ?_
  · intro e9 u9 hx9
    exact hx9.elim
  intro v9 u9 hv9
  obtain ⟨r630, rfl, rfl, h⟩ := hv9
  refine ⟨fun q => absurd q (Nat.lt_irrefl _), ?_⟩
  show V G Y_X1_readGate 64 _ (.int r630 :: _) _ _ _ _ _
  refine v_if_ne (tgt := 81) (pc' := 67) 38 rfl rfl (by decide) (fun hc => ?_) (fun hc => ?_)
  · replace h := h.1 hc
    refine V.sub [1, 2, 3, 4, 5, 6, 7] rfl ?_
    exact b_X1_readGate_81 p1 v2 v3 v4 v5 v6 I629 L t hp1 ht Q R45 hR45 h
  replace h := h.2 hc
  refine v_aload_n (pc' := 68) 39 2 rfl rfl rfl rfl ?_
  refine v_getR (t := (p1 + 6)) (pc' := 71) 40 rfl rfl pf_X1_56 (bn0l hp1) (lay_lt (bn0l hp1) (by decide)) (rt_bn_1 hp1) ?_
  refine v_getR (t := (p1 + 7)) (pc' := 74) 41 rfl rfl pf_X1_121 (bn6l hp1) (lay_lt (bn6l hp1) (by decide)) (rt_st_0 (bn_st hp1)) ?_
  refine v_iload (pc' := 76) 42 7 rfl rfl rfl ?_
  obtain ⟨hi631, h⟩ := h
  refine v_aald6 (i := v6) (r := ((p1 + 8) + v6.toNatClampNeg)) (j := v6.toNatClampNeg) (pc' := 77) 43 rfl rfl (bn7l hp1) (bn7n hp1) (lay_lt (bn7l hp1) (by decide)) hi631 rfl (rt_row (bn_st hp1) (vp_nat hi631)) ?_
  refine v_iload_n (pc' := 78) 44 3 rfl rfl rfl rfl ?_
  refine v_iload (pc' := 80) 45 0 rfl rfl rfl ?_
  obtain ⟨hi632, h⟩ := h
  refine v_iast (i := v2) (j := v2.toNatClampNeg) (pc' := 81) 46 rfl rfl (st_rowl (bn_st hp1) (vp_nat hi631)) (st_rown (bn_st hp1) (vp_nat hi631)) (lay_lt (st_rowl (bn_st hp1) (vp_nat hi631)) (by decide)) hi632 rfl ?_
  refine nm_M (e := (up2 I629 ((p1 + 8) + v6.toNatClampNeg) (v2.toNatClampNeg) r628)) (fun I633 hI633 => ?_)
  replace h := h I633 hI633
  refine V.sub [1, 2, 3, 4, 5, 6, 7] rfl ?_
  exact b_X1_readGate_81 p1 v2 v3 v4 v5 v6 I633 L t hp1 ht Q R45 hR45 h
theorem l_X1_readGate_45 {G : GT} {b d : Nat} (p1 : Nat) (v2 : Int32) (v3 : Int32) (v4 : Int32) (v5 : Int32) (L : TL) (t : Nat) (hp1 : bnOK p1) (ht : txOK t) (Q : TI → Prop)  : ∀ (n9 : Nat) (v6 : Int32) (I : TI), L_X1_readGate_45 p1 v2 v3 v4 v5 L t Q n9 v6 I → V G Y_X1_readGate 45 [(0, .ref 344), (1, .ref p1), (2, .int v2), (3, .int v3), (4, .int v4), (5, .int v5), (6, .int v6)] [] (I, L, RT b d t, 457) 0 0 (fun v9 u9 => ∃ (I9 : TI), v9 = none ∧ u9 = (I9, L, RT b d t, 457) ∧ Q I9) (fun _ _ => False)
  | 0, _, _, h => h.elim
  | n9 + 1, v6, I, h => d_X1_readGate_45 p1 v2 v3 v4 v5 L t hp1 ht Q _ (l_X1_readGate_45 p1 v2 v3 v4 v5 L t hp1 ht Q n9) v6 I h
set_option maxHeartbeats 4000000 in
set_option maxRecDepth 100000 in
theorem b_X1_readGate_40 {G : GT} {b d : Nat} (p1 : Nat) (v2 : Int32) (v3 : Int32) (v4 : Int32) (s0 : Int32) (I : TI) (L : TL) (t : Nat) (hp1 : bnOK p1) (ht : txOK t) (Q : TI → Prop)  (h : B_X1_readGate_40 p1 v2 v3 v4 s0 I L t Q) : V G Y_X1_readGate 40 [(0, .ref 344), (1, .ref p1), (2, .int v2), (3, .int v3), (4, .int v4)] [.int s0] (I, L, RT b d t, 457) 0 0 (fun v9 u9 => ∃ (I9 : TI), v9 = none ∧ u9 = (I9, L, RT b d t, 457) ∧ Q I9) (fun _ _ => False) := by
  unfold B_X1_readGate_40 at h
  refine v_istore (ls' := [(5, .int s0), (0, .ref 344), (1, .ref p1), (2, .int v2), (3, .int v3), (4, .int v4)]) (pc' := 42) 25 rfl rfl (by decide) rfl ?_
  refine v_iconst (v := 0) (pc' := 43) 26 rfl rfl (by decide) ?_
  refine v_istore (ls' := [(6, .int 0), (5, .int s0), (0, .ref 344), (1, .ref p1), (2, .int v2), (3, .int v3), (4, .int v4)]) (pc' := 45) 27 rfl rfl (by decide) rfl ?_
  refine V.sub [2, 3, 4, 5, 6, 1, 0] rfl ?_
  obtain ⟨n634, h⟩ := h
  exact l_X1_readGate_45 p1 v2 v3 v4 s0 L t hp1 ht Q n634 (0 : Int32) I h
set_option maxHeartbeats 4000000 in
set_option maxRecDepth 100000 in
theorem ok_X1_readGate {G : GT} {b d : Nat} (p1 : Nat) (I : TI) (L : TL) (t : Nat) (hp1 : bnOK p1) (ht : txOK t) {Q : TI → Prop} (h : W_X1_readGate p1 I L t Q) : MW G Y_X1_readGate [.ref 344, .ref p1] (I, L, RT b d t, 457) (fun v9 u9 => ∃ (I9 : TI), v9 = none ∧ u9 = (I9, L, RT b d t, 457) ∧ Q I9) (fun _ _ => False) := by
  unfold W_X1_readGate at h
  refine MW.intro rfl (by decide) is_X1_readGate (Nat.le_of_ble_eq_true rfl) ?_
  show V G Y_X1_readGate 0 [(0, .ref 344), (1, .ref p1)] [] (I, L, RT b d t, 457) 0 0 _ _
  refine v_aload_n (pc' := 1) 0 1 rfl rfl rfl rfl ?_
  refine v_getR (t := (p1 + 1)) (pc' := 4) 1 rfl rfl pf_X1_40 (bn0l hp1) (lay_lt (bn0l hp1) (by decide)) (rt_bn_0 hp1) ?_
  refine v_cV (Y2 := Y_X2_nets) (As := []) (b := (p1 + 1)) (pc' := 7) (c1 := 0) (s1 := 0) 2 rfl rfl mf_X2_nets rfl rfl ml_X1_110 mi_X2_nets se_X2_nets (ci := 1) rfl (bn1l hp1) (lay_lt (bn1l hp1) (by decide)) rfl (Nat.le_of_ble_eq_true rfl) ⟨Nat.le_of_ble_eq_true rfl, Nat.le_of_ble_eq_true rfl⟩ rfl rfl (ok_X2_nets (p1 + 1) I L (bn_ck hp1) h) ?_ ?_
  · intro e9 u9 hx9
    exact hx9.elim
  intro v9 u9 hv9
  obtain ⟨r635, rfl, rfl, h⟩ := hv9
  refine ⟨fun q => absurd q (Nat.lt_irrefl _), ?_⟩
  show V G Y_X1_readGate 7 _ (.int r635 :: _) _ _ _ _ _
  refine v_istore_n (ls' := [(2, .int r635), (0, .ref 344), (1, .ref p1)]) (pc' := 8) 3 rfl rfl rfl (by decide) rfl ?_
  refine v_aload_n (pc' := 9) 4 1 rfl rfl rfl rfl ?_
  refine v_cS (Y2 := Y_X1_readKind) (As := [.ref 344]) (pc' := 12) (c1 := 0) (s1 := 0) 5 rfl rfl mf_X1_readKind rfl rfl ml_X1_114 ms_X1_readKind rfl (Nat.le_of_ble_eq_true rfl) ⟨Nat.le_of_ble_eq_true rfl, Nat.le_of_ble_eq_true rfl⟩ rfl rfl (ok_X1_readKind I L t ht h) ?_ ?_
  · intro e9 u9 hx9
    exact hx9.elim
  intro v9 u9 hv9
  obtain ⟨r636, I637, rfl, rfl, h⟩ := hv9
  refine ⟨fun q => absurd q (Nat.lt_irrefl _), ?_⟩
  show V G Y_X1_readGate 12 _ (.int r636 :: _) _ _ _ _ _
  refine v_istore_n (ls' := [(3, .int r636), (2, .int r635), (0, .ref 344), (1, .ref p1)]) (pc' := 13) 6 rfl rfl rfl (by decide) rfl ?_
  refine v_aload_n (pc' := 14) 7 2 rfl rfl rfl rfl ?_
  refine v_iconst (v := 0) (pc' := 15) 8 rfl rfl (by decide) ?_
  refine v_iload_n (pc' := 16) 9 1 rfl rfl rfl rfl ?_
  refine v_iconst (v := 1) (pc' := 17) 10 rfl rfl (by decide) ?_
  refine v_isub (pc' := 18) 11 rfl rfl ?_
  refine v_cV (Y2 := Y_X7_takeNumber) (As := [.int 0, .int (r635 - 1)]) (b := 344) (pc' := 21) (c1 := 0) (s1 := 0) 12 rfl rfl mf_X7_takeNumber rfl rfl ml_X1_46 mi_X7_takeNumber se_X7_takeNumber (ci := 6) rfl ly_344 (lay_lt ly_344 (by decide)) rfl (Nat.le_of_ble_eq_true rfl) ⟨Nat.le_of_ble_eq_true rfl, Nat.le_of_ble_eq_true rfl⟩ rfl rfl (ok_X7_takeNumber (0 : Int32) (r635 - 1) I637 L t ht h) ?_ ?_
  · intro e9 u9 hx9
    exact hx9.elim
  intro v9 u9 hv9
  obtain ⟨r638, I639, rfl, rfl, h⟩ := hv9
  refine ⟨fun q => absurd q (Nat.lt_irrefl _), ?_⟩
  show V G Y_X1_readGate 21 _ (.int r638 :: _) _ _ _ _ _
  refine v_istore (ls' := [(4, .int r638), (3, .int r636), (2, .int r635), (0, .ref 344), (1, .ref p1)]) (pc' := 23) 13 rfl rfl (by decide) rfl ?_
  refine v_iload_n (pc' := 24) 14 1 rfl rfl rfl rfl ?_
  refine v_iconst (v := 5) (pc' := 25) 15 rfl rfl (by decide) ?_
  refine v_icmp_ge (tgt := 39) (pc' := 28) 16 rfl rfl (by decide) (fun hc => ?_) (fun hc => ?_)
  · replace h := h.1 hc
    refine v_iconst (v := -1) (pc' := 40) 24 rfl rfl (by decide) ?_
    refine V.sub [3, 4, 2, 1, 0] rfl ?_
    exact b_X1_readGate_40 p1 r635 r636 r638 ((-1) : Int32) I639 L t hp1 ht Q h
  replace h := h.2 hc
  refine v_aload_n (pc' := 29) 17 3 rfl rfl rfl rfl ?_
  refine v_iconst (v := 0) (pc' := 30) 18 rfl rfl (by decide) ?_
  refine v_iload_n (pc' := 31) 19 2 rfl rfl rfl rfl ?_
  refine v_iconst (v := 1) (pc' := 32) 20 rfl rfl (by decide) ?_
  refine v_isub (pc' := 33) 21 rfl rfl ?_
  refine v_cV (Y2 := Y_X7_takeNumber) (As := [.int 0, .int (r635 - 1)]) (b := 344) (pc' := 36) (c1 := 0) (s1 := 0) 22 rfl rfl mf_X7_takeNumber rfl rfl ml_X1_46 mi_X7_takeNumber se_X7_takeNumber (ci := 6) rfl ly_344 (lay_lt ly_344 (by decide)) rfl (Nat.le_of_ble_eq_true rfl) ⟨Nat.le_of_ble_eq_true rfl, Nat.le_of_ble_eq_true rfl⟩ rfl rfl (ok_X7_takeNumber (0 : Int32) (r635 - 1) I639 L t ht h) ?_ ?_
  · intro e9 u9 hx9
    exact hx9.elim
  intro v9 u9 hv9
  obtain ⟨r640, I641, rfl, rfl, h⟩ := hv9
  refine ⟨fun q => absurd q (Nat.lt_irrefl _), ?_⟩
  show V G Y_X1_readGate 36 _ (.int r640 :: _) _ _ _ _ _
  refine v_goto (tgt := 40) 23 rfl (by decide) ?_
  refine V.sub [3, 4, 2, 1, 0] rfl ?_
  exact b_X1_readGate_40 p1 r635 r636 r638 r640 I641 L t hp1 ht Q h
set_option maxHeartbeats 4000000 in
set_option maxRecDepth 100000 in
theorem b_X1_readGates_40 {G : GT} {b d : Nat} (p1 : Nat) (v2 : Int32) (I : TI) (L : TL) (t : Nat) (hp1 : bnOK p1) (ht : txOK t) (Q : TI → Prop) (R2 : Int32 → TI → Prop) (hR2 : ∀ (v2 : Int32) (I : TI), R2 v2 I → V G Y_X1_readGates 2 [(0, .ref 344), (1, .ref p1), (2, .int v2)] [] (I, L, RT b d t, 457) 0 0 (fun v9 u9 => ∃ (I9 : TI), v9 = none ∧ u9 = (I9, L, RT b d t, 457) ∧ Q I9) (fun _ _ => False)) (h : B_X1_readGates_40 p1 v2 I L t Q R2) : V G Y_X1_readGates 40 [(0, .ref 344), (1, .ref p1), (2, .int v2)] [] (I, L, RT b d t, 457) 0 0 (fun v9 u9 => ∃ (I9 : TI), v9 = none ∧ u9 = (I9, L, RT b d t, 457) ∧ Q I9) (fun _ _ => False) := by
  unfold B_X1_readGates_40 at h
  refine v_iinc (v := (v2 + 1)) (ls' := [(2, .int (v2 + 1)), (0, .ref 344), (1, .ref p1)]) (pc' := 43) 21 2 rfl rfl rfl rfl (by decide) rfl ?_
  refine v_goto (tgt := 2) 22 rfl (by decide) ?_
  refine V.sub [1, 2, 0] rfl ?_
  exact hR2 (v2 + 1) I h
set_option maxHeartbeats 4000000 in
set_option maxRecDepth 100000 in
theorem d_X1_readGates_2 {G : GT} {b d : Nat} (p1 : Nat) (L : TL) (t : Nat) (hp1 : bnOK p1) (ht : txOK t) (Q : TI → Prop) (R2 : Int32 → TI → Prop)  (hR2 : ∀ (v2 : Int32) (I : TI), R2 v2 I → V G Y_X1_readGates 2 [(0, .ref 344), (1, .ref p1), (2, .int v2)] [] (I, L, RT b d t, 457) 0 0 (fun v9 u9 => ∃ (I9 : TI), v9 = none ∧ u9 = (I9, L, RT b d t, 457) ∧ Q I9) (fun _ _ => False)) (v2 : Int32) (I : TI)  (h : D_X1_readGates_2 p1 L t Q R2 v2 I) : V G Y_X1_readGates 2 [(0, .ref 344), (1, .ref p1), (2, .int v2)] [] (I, L, RT b d t, 457) 0 0 (fun v9 u9 => ∃ (I9 : TI), v9 = none ∧ u9 = (I9, L, RT b d t, 457) ∧ Q I9) (fun _ _ => False) := by
  unfold D_X1_readGates_2 at h
  refine v_iload_n (pc' := 3) 2 2 rfl rfl rfl rfl ?_
  refine v_bipush (v := 12) (pc' := 5) 3 rfl rfl (by decide) ?_
  refine v_icmp_gt (tgt := 46) (pc' := 8) 4 rfl rfl (by decide) (fun hc => ?_) (fun hc => ?_)
  · replace h := h.1 hc
    exact v_vret 23 rfl rfl (by decide) (by decide) ⟨_, rfl, rfl, h⟩
  replace h := h.2 hc
  refine v_aload_n (pc' := 9) 5 0 rfl rfl rfl rfl ?_
  refine v_ldcS (pc' := 11) 6 rfl rfl sr_X1_105 ?_
  refine v_cV (Y2 := Y_X7_isWord) (As := [.ref 461]) (b := 344) (pc' := 14) (c1 := 0) (s1 := 0) 7 rfl rfl mf_X7_isWord rfl rfl ml_X1_77 mi_X7_isWord se_X7_isWord (ci := 6) rfl ly_344 (lay_lt ly_344 (by decide)) rfl (Nat.le_of_ble_eq_true rfl) ⟨Nat.le_of_ble_eq_true rfl, Nat.le_of_ble_eq_true rfl⟩ rfl rfl (ok_X7_isWord 461 I L t ht h) ?_ ?_
  · intro e9 u9 hx9
    exact hx9.elim
  intro v9 u9 hv9
  obtain ⟨r650, rfl, rfl, h⟩ := hv9
  refine ⟨fun q => absurd q (Nat.lt_irrefl _), ?_⟩
  show V G Y_X1_readGates 14 _ (.int r650 :: _) _ _ _ _ _
  refine v_if_eq (tgt := 46) (pc' := 17) 8 rfl rfl (by decide) (fun hc => ?_) (fun hc => ?_)
  · replace h := h.1 hc
    exact v_vret 23 rfl rfl (by decide) (by decide) ⟨_, rfl, rfl, h⟩
  replace h := h.2 hc
  refine v_iload_n (pc' := 18) 9 2 rfl rfl rfl rfl ?_
  refine v_bipush (v := 12) (pc' := 20) 10 rfl rfl (by decide) ?_
  refine v_icmp_ne (tgt := 31) (pc' := 23) 11 rfl rfl (by decide) (fun hc => ?_) (fun hc => ?_)
  · replace h := h.1 hc
    refine v_aload_n (pc' := 32) 16 0 rfl rfl rfl rfl ?_
    refine v_cV (Y2 := Y_X7_advance) (As := []) (b := 344) (pc' := 35) (c1 := 0) (s1 := 0) 17 rfl rfl mf_X7_advance rfl rfl ml_X1_81 mi_X7_advance se_X7_advance (ci := 6) rfl ly_344 (lay_lt ly_344 (by decide)) rfl (Nat.le_of_ble_eq_true rfl) ⟨Nat.le_of_ble_eq_true rfl, Nat.le_of_ble_eq_true rfl⟩ rfl rfl (ok_X7_advance I L t ht h) ?_ ?_
    · intro e9 u9 hx9
      exact hx9.elim
    intro v9 u9 hv9
    obtain ⟨I651, rfl, rfl, h⟩ := hv9
    refine ⟨fun q => absurd q (Nat.lt_irrefl _), ?_⟩
    show V G Y_X1_readGates 35 _ _ _ _ _ _ _
    refine v_aload_n (pc' := 36) 18 0 rfl rfl rfl rfl ?_
    refine v_aload_n (pc' := 37) 19 1 rfl rfl rfl rfl ?_
    refine v_cS (Y2 := Y_X1_readGate) (As := [.ref 344, .ref p1]) (pc' := 40) (c1 := 0) (s1 := 0) 20 rfl rfl mf_X1_readGate rfl rfl ml_X1_107 ms_X1_readGate rfl (Nat.le_of_ble_eq_true rfl) ⟨Nat.le_of_ble_eq_true rfl, Nat.le_of_ble_eq_true rfl⟩ rfl rfl (ok_X1_readGate p1 I651 L t hp1 ht h) ?_ ?_
    · intro e9 u9 hx9
      exact hx9.elim
    intro v9 u9 hv9
    obtain ⟨I652, rfl, rfl, h⟩ := hv9
    refine ⟨fun q => absurd q (Nat.lt_irrefl _), ?_⟩
    show V G Y_X1_readGates 40 _ _ _ _ _ _ _
    exact b_X1_readGates_40 p1 v2 I652 L t hp1 ht Q R2 hR2 h
  replace h := h.2 hc
  refine v_aload_n (pc' := 24) 12 0 rfl rfl rfl rfl ?_
  refine v_iconst (v := 3) (pc' := 25) 13 rfl rfl (by decide) ?_
  refine v_cV (Y2 := Y_X7_fail) (As := [.int 3]) (b := 344) (pc' := 28) (c1 := 0) (s1 := 0) 14 rfl rfl mf_X7_fail rfl rfl ml_X1_30 mi_X7_fail se_X7_fail (ci := 6) rfl ly_344 (lay_lt ly_344 (by decide)) rfl (Nat.le_of_ble_eq_true rfl) ⟨Nat.le_of_ble_eq_true rfl, Nat.le_of_ble_eq_true rfl⟩ rfl rfl (ok_X7_fail (3 : Int32) I L h) ?_ ?_
  · intro e9 u9 hx9
    exact hx9.elim
  intro v9 u9 hv9
  obtain ⟨I653, rfl, rfl, h⟩ := hv9
  refine ⟨fun q => absurd q (Nat.lt_irrefl _), ?_⟩
  show V G Y_X1_readGates 28 _ _ _ _ _ _ _
  refine v_goto (tgt := 40) 15 rfl (by decide) ?_
  exact b_X1_readGates_40 p1 v2 I653 L t hp1 ht Q R2 hR2 h
theorem l_X1_readGates_2 {G : GT} {b d : Nat} (p1 : Nat) (L : TL) (t : Nat) (hp1 : bnOK p1) (ht : txOK t) (Q : TI → Prop)  : ∀ (n9 : Nat) (v2 : Int32) (I : TI), L_X1_readGates_2 p1 L t Q n9 v2 I → V G Y_X1_readGates 2 [(0, .ref 344), (1, .ref p1), (2, .int v2)] [] (I, L, RT b d t, 457) 0 0 (fun v9 u9 => ∃ (I9 : TI), v9 = none ∧ u9 = (I9, L, RT b d t, 457) ∧ Q I9) (fun _ _ => False)
  | 0, _, _, h => h.elim
  | n9 + 1, v2, I, h => d_X1_readGates_2 p1 L t hp1 ht Q _ (l_X1_readGates_2 p1 L t hp1 ht Q n9) v2 I h
set_option maxHeartbeats 4000000 in
set_option maxRecDepth 100000 in
theorem ok_X1_readGates {G : GT} {b d : Nat} (p1 : Nat) (I : TI) (L : TL) (t : Nat) (hp1 : bnOK p1) (ht : txOK t) {Q : TI → Prop} (h : W_X1_readGates p1 I L t Q) : MW G Y_X1_readGates [.ref 344, .ref p1] (I, L, RT b d t, 457) (fun v9 u9 => ∃ (I9 : TI), v9 = none ∧ u9 = (I9, L, RT b d t, 457) ∧ Q I9) (fun _ _ => False) := by
  unfold W_X1_readGates at h
  refine MW.intro rfl (by decide) is_X1_readGates (Nat.le_of_ble_eq_true rfl) ?_
  show V G Y_X1_readGates 0 [(0, .ref 344), (1, .ref p1)] [] (I, L, RT b d t, 457) 0 0 _ _
  refine v_iconst (v := 0) (pc' := 1) 0 rfl rfl (by decide) ?_
  refine v_istore_n (ls' := [(2, .int 0), (0, .ref 344), (1, .ref p1)]) (pc' := 2) 1 rfl rfl rfl (by decide) rfl ?_
  refine V.sub [1, 2, 0] rfl ?_
  obtain ⟨n654, h⟩ := h
  exact l_X1_readGates_2 p1 L t hp1 ht Q n654 (0 : Int32) I h
set_option maxHeartbeats 4000000 in
set_option maxRecDepth 100000 in
theorem d_X1_readPurses_15 {G : GT} {b d : Nat} (p1 : Nat) (L : TL) (t : Nat) (hp1 : bnOK p1) (ht : txOK t) (Q : TI → Prop) (R15 : Int32 → TI → Prop)  (hR15 : ∀ (v2 : Int32) (I : TI), R15 v2 I → V G Y_X1_readPurses 15 [(0, .ref 344), (1, .ref p1), (2, .int v2)] [] (I, L, RT b d t, 457) 0 0 (fun v9 u9 => ∃ (I9 : TI), v9 = none ∧ u9 = (I9, L, RT b d t, 457) ∧ Q I9) (fun _ _ => False)) (v2 : Int32) (I : TI)  (h : D_X1_readPurses_15 p1 L t Q R15 v2 I) : V G Y_X1_readPurses 15 [(0, .ref 344), (1, .ref p1), (2, .int v2)] [] (I, L, RT b d t, 457) 0 0 (fun v9 u9 => ∃ (I9 : TI), v9 = none ∧ u9 = (I9, L, RT b d t, 457) ∧ Q I9) (fun _ _ => False) := by
  unfold D_X1_readPurses_15 at h
  refine v_iload_n (pc' := 16) 8 2 rfl rfl rfl rfl ?_
  refine v_iconst (v := 3) (pc' := 17) 9 rfl rfl (by decide) ?_
  refine v_icmp_ge (tgt := 42) (pc' := 20) 10 rfl rfl (by decide) (fun hc => ?_) (fun hc => ?_)
  · replace h := h.1 hc
    refine v_aload_n (pc' := 43) 22 0 rfl rfl rfl rfl ?_
    refine v_bipush (v := 59) (pc' := 45) 23 rfl rfl (by decide) ?_
    refine v_cV (Y2 := Y_X7_takeSign) (As := [.int 59]) (b := 344) (pc' := 48) (c1 := 0) (s1 := 0) 24 rfl rfl mf_X7_takeSign rfl rfl ml_X1_71 mi_X7_takeSign se_X7_takeSign (ci := 6) rfl ly_344 (lay_lt ly_344 (by decide)) rfl (Nat.le_of_ble_eq_true rfl) ⟨Nat.le_of_ble_eq_true rfl, Nat.le_of_ble_eq_true rfl⟩ rfl rfl (ok_X7_takeSign (59 : Int32) I L t ht h) ?_ ?_
    · intro e9 u9 hx9
      exact hx9.elim
    intro v9 u9 hv9
    obtain ⟨I667, rfl, rfl, h⟩ := hv9
    refine ⟨fun q => absurd q (Nat.lt_irrefl _), ?_⟩
    show V G Y_X1_readPurses 48 _ _ _ _ _ _ _
    exact v_vret 25 rfl rfl (by decide) (by decide) ⟨_, rfl, rfl, h⟩
  replace h := h.2 hc
  refine v_aload_n (pc' := 21) 11 1 rfl rfl rfl rfl ?_
  refine v_getR (t := (p1 + 6)) (pc' := 24) 12 rfl rfl pf_X1_56 (bn0l hp1) (lay_lt (bn0l hp1) (by decide)) (rt_bn_1 hp1) ?_
  refine v_getR (t := (p1 + 15)) (pc' := 27) 13 rfl rfl pf_X1_135 (bn6l hp1) (lay_lt (bn6l hp1) (by decide)) (rt_st_5 (bn_st hp1)) ?_
  refine v_iload_n (pc' := 28) 14 2 rfl rfl rfl rfl ?_
  refine v_aload_n (pc' := 29) 15 0 rfl rfl rfl rfl ?_
  refine v_iconst (v := 0) (pc' := 30) 16 rfl rfl (by decide) ?_
  refine v_ldc (v := 99999) (pc' := 32) 17 rfl rfl ki_X1_138 ?_
  refine v_cV (Y2 := Y_X7_takeNumber) (As := [.int 0, .int 99999]) (b := 344) (pc' := 35) (c1 := 0) (s1 := 0) 18 rfl rfl mf_X7_takeNumber rfl rfl ml_X1_46 mi_X7_takeNumber se_X7_takeNumber (ci := 6) rfl ly_344 (lay_lt ly_344 (by decide)) rfl (Nat.le_of_ble_eq_true rfl) ⟨Nat.le_of_ble_eq_true rfl, Nat.le_of_ble_eq_true rfl⟩ rfl rfl (ok_X7_takeNumber (0 : Int32) (99999 : Int32) I L t ht h) ?_ ?_
  · intro e9 u9 hx9
    exact hx9.elim
  intro v9 u9 hv9
  obtain ⟨r668, I669, rfl, rfl, h⟩ := hv9
  refine ⟨fun q => absurd q (Nat.lt_irrefl _), ?_⟩
  show V G Y_X1_readPurses 35 _ (.int r668 :: _) _ _ _ _ _
  obtain ⟨hi670, h⟩ := h
  refine v_iast (i := v2) (j := v2.toNatClampNeg) (pc' := 36) 19 rfl rfl (bn15l hp1) (bn15n hp1) (lay_lt (bn15l hp1) (by decide)) hi670 rfl ?_
  refine v_iinc (v := (v2 + 1)) (ls' := [(2, .int (v2 + 1)), (0, .ref 344), (1, .ref p1)]) (pc' := 39) 20 2 rfl rfl rfl rfl (by decide) rfl ?_
  refine v_goto (tgt := 15) 21 rfl (by decide) ?_
  refine V.sub [1, 2, 0] rfl ?_
  exact hR15 (v2 + 1) (up2 I669 (p1 + 15) (v2.toNatClampNeg) r668) h
theorem l_X1_readPurses_15 {G : GT} {b d : Nat} (p1 : Nat) (L : TL) (t : Nat) (hp1 : bnOK p1) (ht : txOK t) (Q : TI → Prop)  : ∀ (n9 : Nat) (v2 : Int32) (I : TI), L_X1_readPurses_15 p1 L t Q n9 v2 I → V G Y_X1_readPurses 15 [(0, .ref 344), (1, .ref p1), (2, .int v2)] [] (I, L, RT b d t, 457) 0 0 (fun v9 u9 => ∃ (I9 : TI), v9 = none ∧ u9 = (I9, L, RT b d t, 457) ∧ Q I9) (fun _ _ => False)
  | 0, _, _, h => h.elim
  | n9 + 1, v2, I, h => d_X1_readPurses_15 p1 L t hp1 ht Q _ (l_X1_readPurses_15 p1 L t hp1 ht Q n9) v2 I h
set_option maxHeartbeats 4000000 in
set_option maxRecDepth 100000 in
theorem ok_X1_readPurses {G : GT} {b d : Nat} (p1 : Nat) (I : TI) (L : TL) (t : Nat) (hp1 : bnOK p1) (ht : txOK t) {Q : TI → Prop} (h : W_X1_readPurses p1 I L t Q) : MW G Y_X1_readPurses [.ref 344, .ref p1] (I, L, RT b d t, 457) (fun v9 u9 => ∃ (I9 : TI), v9 = none ∧ u9 = (I9, L, RT b d t, 457) ∧ Q I9) (fun _ _ => False) := by
  unfold W_X1_readPurses at h
  refine MW.intro rfl (by decide) is_X1_readPurses (Nat.le_of_ble_eq_true rfl) ?_
  show V G Y_X1_readPurses 0 [(0, .ref 344), (1, .ref p1)] [] (I, L, RT b d t, 457) 0 0 _ _
  refine v_aload_n (pc' := 1) 0 0 rfl rfl rfl rfl ?_
  refine v_ldcS (pc' := 3) 1 rfl rfl sr_X1_133 ?_
  refine v_cV (Y2 := Y_X7_isWord) (As := [.ref 469]) (b := 344) (pc' := 6) (c1 := 0) (s1 := 0) 2 rfl rfl mf_X7_isWord rfl rfl ml_X1_77 mi_X7_isWord se_X7_isWord (ci := 6) rfl ly_344 (lay_lt ly_344 (by decide)) rfl (Nat.le_of_ble_eq_true rfl) ⟨Nat.le_of_ble_eq_true rfl, Nat.le_of_ble_eq_true rfl⟩ rfl rfl (ok_X7_isWord 469 I L t ht h) ?_ ?_
  · intro e9 u9 hx9
    exact hx9.elim
  intro v9 u9 hv9
  obtain ⟨r671, rfl, rfl, h⟩ := hv9
  refine ⟨fun q => absurd q (Nat.lt_irrefl _), ?_⟩
  show V G Y_X1_readPurses 6 _ (.int r671 :: _) _ _ _ _ _
  refine v_if_eq (tgt := 48) (pc' := 9) 3 rfl rfl (by decide) (fun hc => ?_) (fun hc => ?_)
  · replace h := h.1 hc
    exact v_vret 25 rfl rfl (by decide) (by decide) ⟨_, rfl, rfl, h⟩
  replace h := h.2 hc
  refine v_aload_n (pc' := 10) 4 0 rfl rfl rfl rfl ?_
  refine v_cV (Y2 := Y_X7_advance) (As := []) (b := 344) (pc' := 13) (c1 := 0) (s1 := 0) 5 rfl rfl mf_X7_advance rfl rfl ml_X1_81 mi_X7_advance se_X7_advance (ci := 6) rfl ly_344 (lay_lt ly_344 (by decide)) rfl (Nat.le_of_ble_eq_true rfl) ⟨Nat.le_of_ble_eq_true rfl, Nat.le_of_ble_eq_true rfl⟩ rfl rfl (ok_X7_advance I L t ht h) ?_ ?_
  · intro e9 u9 hx9
    exact hx9.elim
  intro v9 u9 hv9
  obtain ⟨I672, rfl, rfl, h⟩ := hv9
  refine ⟨fun q => absurd q (Nat.lt_irrefl _), ?_⟩
  show V G Y_X1_readPurses 13 _ _ _ _ _ _ _
  refine v_iconst (v := 0) (pc' := 14) 6 rfl rfl (by decide) ?_
  refine v_istore_n (ls' := [(2, .int 0), (0, .ref 344), (1, .ref p1)]) (pc' := 15) 7 rfl rfl rfl (by decide) rfl ?_
  refine V.sub [1, 2, 0] rfl ?_
  obtain ⟨n673, h⟩ := h
  exact l_X1_readPurses_15 p1 L t hp1 ht Q n673 (0 : Int32) I672 h
set_option maxHeartbeats 4000000 in
set_option maxRecDepth 100000 in
theorem ok_X7_isEnd {G : GT} {b d t : Nat} (I : TI) (L : TL)  {Q : Int32 → Prop} (h : W_X7_isEnd I L Q) : MW G Y_X7_isEnd [.ref 344] (I, L, RT b d t, 457) (fun v9 u9 => ∃ (r9 : Int32), v9 = some (.int r9) ∧ u9 = (I, L, RT b d t, 457) ∧ Q r9) (fun _ _ => False) := by
  unfold W_X7_isEnd at h
  refine MW.intro rfl (by decide) is_X7_isEnd (Nat.le_of_ble_eq_true rfl) ?_
  show V G Y_X7_isEnd 0 [(0, .ref 344)] [] (I, L, RT b d t, 457) 0 0 _ _
  refine v_aload_n (pc' := 1) 0 0 rfl rfl rfl rfl ?_
  refine v_cV (Y2 := Y_X7_failed) (As := []) (b := 344) (pc' := 4) (c1 := 0) (s1 := 0) 1 rfl rfl mf_X7_failed rfl rfl ml_X7_46 mi_X7_failed se_X7_failed (ci := 6) rfl ly_344 (lay_lt ly_344 (by decide)) rfl (Nat.le_of_ble_eq_true rfl) ⟨Nat.le_of_ble_eq_true rfl, Nat.le_of_ble_eq_true rfl⟩ rfl rfl (ok_X7_failed I L h) ?_ ?_
  · intro e9 u9 hx9
    exact hx9.elim
  intro v9 u9 hv9
  obtain ⟨r675, rfl, rfl, h⟩ := hv9
  refine ⟨fun q => absurd q (Nat.lt_irrefl _), ?_⟩
  show V G Y_X7_isEnd 4 _ (.int r675 :: _) _ _ _ _ _
  refine v_if_ne (tgt := 18) (pc' := 7) 2 rfl rfl (by decide) (fun hc => ?_) (fun hc => ?_)
  · replace h := h.1 hc
    refine v_iconst (v := 0) (pc' := 19) 8 rfl rfl (by decide) ?_
    exact v_bret 9 rfl rfl (by decide) (by decide) (by decide) ⟨_, rfl, rfl, h⟩
  replace h := h.2 hc
  refine v_aload_n (pc' := 8) 3 0 rfl rfl rfl rfl ?_
  refine v_getI (pc' := 11) 4 rfl rfl pf_X7_25 ly_344 (lay_lt ly_344 (by decide)) ?_
  refine v_if_ne (tgt := 18) (pc' := 14) 5 rfl rfl (by decide) (fun hc => ?_) (fun hc => ?_)
  · replace h := h.1 hc
    refine v_iconst (v := 0) (pc' := 19) 8 rfl rfl (by decide) ?_
    exact v_bret 9 rfl rfl (by decide) (by decide) (by decide) ⟨_, rfl, rfl, h⟩
  replace h := h.2 hc
  refine v_iconst (v := 1) (pc' := 15) 6 rfl rfl (by decide) ?_
  refine v_goto (tgt := 19) 7 rfl (by decide) ?_
  exact v_bret 9 rfl rfl (by decide) (by decide) (by decide) ⟨_, rfl, rfl, h⟩
set_option maxHeartbeats 4000000 in
set_option maxRecDepth 100000 in
theorem ok_X1_read {G : GT} {b d : Nat} (p1 : Nat) (I : TI) (L : TL) (t : Nat) (hp1 : bnOK p1) (ht : txOK t) {Q : TI → TL → Prop} (h : W_X1_read p1 I L t Q) : MW G Y_X1_read [.ref 344, .ref p1] (I, L, RT b d t, 457) (fun v9 u9 => ∃ (I9 : TI) (L9 : TL), v9 = none ∧ u9 = (I9, L9, RT b d t, 457) ∧ Q I9 L9) (fun _ _ => False) := by
  unfold W_X1_read at h
  refine MW.intro rfl (by decide) is_X1_read (Nat.le_of_ble_eq_true rfl) ?_
  show V G Y_X1_read 0 [(0, .ref 344), (1, .ref p1)] [] (I, L, RT b d t, 457) 0 0 _ _
  refine v_aload_n (pc' := 1) 0 0 rfl rfl rfl rfl ?_
  refine v_aload_n (pc' := 2) 1 1 rfl rfl rfl rfl ?_
  refine v_cS (Y2 := Y_X1_readHead) (As := [.ref 344, .ref p1]) (pc' := 5) (c1 := 0) (s1 := 0) 2 rfl rfl mf_X1_readHead rfl rfl ml_X1_9 ms_X1_readHead rfl (Nat.le_of_ble_eq_true rfl) ⟨Nat.le_of_ble_eq_true rfl, Nat.le_of_ble_eq_true rfl⟩ rfl rfl (ok_X1_readHead p1 I L t hp1 ht h) ?_ ?_
  · intro e9 u9 hx9
    exact hx9.elim
  intro v9 u9 hv9
  obtain ⟨I683, rfl, rfl, h⟩ := hv9
  refine ⟨fun q => absurd q (Nat.lt_irrefl _), ?_⟩
  show V G Y_X1_read 5 _ _ _ _ _ _ _
  refine v_aload_n (pc' := 6) 3 0 rfl rfl rfl rfl ?_
  refine v_aload_n (pc' := 7) 4 1 rfl rfl rfl rfl ?_
  refine v_cS (Y2 := Y_X1_readInputs) (As := [.ref 344, .ref p1]) (pc' := 10) (c1 := 0) (s1 := 0) 5 rfl rfl mf_X1_readInputs rfl rfl ml_X1_15 ms_X1_readInputs rfl (Nat.le_of_ble_eq_true rfl) ⟨Nat.le_of_ble_eq_true rfl, Nat.le_of_ble_eq_true rfl⟩ rfl rfl (ok_X1_readInputs p1 I683 L t hp1 ht h) ?_ ?_
  · intro e9 u9 hx9
    exact hx9.elim
  intro v9 u9 hv9
  obtain ⟨I684, L685, rfl, rfl, h⟩ := hv9
  refine ⟨fun q => absurd q (Nat.lt_irrefl _), ?_⟩
  show V G Y_X1_read 10 _ _ _ _ _ _ _
  refine v_aload_n (pc' := 11) 6 0 rfl rfl rfl rfl ?_
  refine v_aload_n (pc' := 12) 7 1 rfl rfl rfl rfl ?_
  refine v_cS (Y2 := Y_X1_readGates) (As := [.ref 344, .ref p1]) (pc' := 15) (c1 := 0) (s1 := 0) 8 rfl rfl mf_X1_readGates rfl rfl ml_X1_18 ms_X1_readGates rfl (Nat.le_of_ble_eq_true rfl) ⟨Nat.le_of_ble_eq_true rfl, Nat.le_of_ble_eq_true rfl⟩ rfl rfl (ok_X1_readGates p1 I684 L685 t hp1 ht h) ?_ ?_
  · intro e9 u9 hx9
    exact hx9.elim
  intro v9 u9 hv9
  obtain ⟨I686, rfl, rfl, h⟩ := hv9
  refine ⟨fun q => absurd q (Nat.lt_irrefl _), ?_⟩
  show V G Y_X1_read 15 _ _ _ _ _ _ _
  refine v_aload_n (pc' := 16) 9 0 rfl rfl rfl rfl ?_
  refine v_aload_n (pc' := 17) 10 1 rfl rfl rfl rfl ?_
  refine v_cS (Y2 := Y_X1_readPurses) (As := [.ref 344, .ref p1]) (pc' := 20) (c1 := 0) (s1 := 0) 11 rfl rfl mf_X1_readPurses rfl rfl ml_X1_21 ms_X1_readPurses rfl (Nat.le_of_ble_eq_true rfl) ⟨Nat.le_of_ble_eq_true rfl, Nat.le_of_ble_eq_true rfl⟩ rfl rfl (ok_X1_readPurses p1 I686 L685 t hp1 ht h) ?_ ?_
  · intro e9 u9 hx9
    exact hx9.elim
  intro v9 u9 hv9
  obtain ⟨I687, rfl, rfl, h⟩ := hv9
  refine ⟨fun q => absurd q (Nat.lt_irrefl _), ?_⟩
  show V G Y_X1_read 20 _ _ _ _ _ _ _
  refine v_aload_n (pc' := 21) 12 0 rfl rfl rfl rfl ?_
  refine v_cV (Y2 := Y_X7_isEnd) (As := []) (b := 344) (pc' := 24) (c1 := 0) (s1 := 0) 13 rfl rfl mf_X7_isEnd rfl rfl ml_X1_24 mi_X7_isEnd se_X7_isEnd (ci := 6) rfl ly_344 (lay_lt ly_344 (by decide)) rfl (Nat.le_of_ble_eq_true rfl) ⟨Nat.le_of_ble_eq_true rfl, Nat.le_of_ble_eq_true rfl⟩ rfl rfl (ok_X7_isEnd I687 L685 h) ?_ ?_
  · intro e9 u9 hx9
    exact hx9.elim
  intro v9 u9 hv9
  obtain ⟨r688, rfl, rfl, h⟩ := hv9
  refine ⟨fun q => absurd q (Nat.lt_irrefl _), ?_⟩
  show V G Y_X1_read 24 _ (.int r688 :: _) _ _ _ _ _
  refine v_if_ne (tgt := 32) (pc' := 27) 14 rfl rfl (by decide) (fun hc => ?_) (fun hc => ?_)
  · replace h := h.1 hc
    exact v_vret 18 rfl rfl (by decide) (by decide) ⟨_, _, rfl, rfl, h⟩
  replace h := h.2 hc
  refine v_aload_n (pc' := 28) 15 0 rfl rfl rfl rfl ?_
  refine v_iconst (v := 1) (pc' := 29) 16 rfl rfl (by decide) ?_
  refine v_cV (Y2 := Y_X7_fail) (As := [.int 1]) (b := 344) (pc' := 32) (c1 := 0) (s1 := 0) 17 rfl rfl mf_X7_fail rfl rfl ml_X1_30 mi_X7_fail se_X7_fail (ci := 6) rfl ly_344 (lay_lt ly_344 (by decide)) rfl (Nat.le_of_ble_eq_true rfl) ⟨Nat.le_of_ble_eq_true rfl, Nat.le_of_ble_eq_true rfl⟩ rfl rfl (ok_X7_fail (1 : Int32) I687 L685 h) ?_ ?_
  · intro e9 u9 hx9
    exact hx9.elim
  intro v9 u9 hv9
  obtain ⟨I689, rfl, rfl, h⟩ := hv9
  refine ⟨fun q => absurd q (Nat.lt_irrefl _), ?_⟩
  show V G Y_X1_read 32 _ _ _ _ _ _ _
  exact v_vret 18 rfl rfl (by decide) (by decide) ⟨_, _, rfl, rfl, h⟩
set_option maxHeartbeats 4000000 in
set_option maxRecDepth 100000 in
theorem ok_X2_hasNet {G : GT} {b d t : Nat} (p0 : Nat) (p1 : Int32) (I : TI) (L : TL) (hp0 : ckOK p0) {Q : Int32 → Prop} (h : W_X2_hasNet p0 p1 I L Q) : MW G Y_X2_hasNet [.ref p0, .int p1] (I, L, RT b d t, 457) (fun v9 u9 => ∃ (r9 : Int32), v9 = some (.int r9) ∧ u9 = (I, L, RT b d t, 457) ∧ Q r9) (fun _ _ => False) := by
  unfold W_X2_hasNet at h
  refine MW.intro rfl (by decide) is_X2_hasNet (Nat.le_of_ble_eq_true rfl) ?_
  show V G Y_X2_hasNet 0 [(0, .ref p0), (1, .int p1)] [] (I, L, RT b d t, 457) 0 0 _ _
  refine v_iload_n (pc' := 1) 0 1 rfl rfl rfl rfl ?_
  refine v_if_lt (tgt := 16) (pc' := 4) 1 rfl rfl (by decide) (fun hc => ?_) (fun hc => ?_)
  · replace h := h.1 hc
    refine v_iconst (v := 0) (pc' := 17) 8 rfl rfl (by decide) ?_
    exact v_bret 9 rfl rfl (by decide) (by decide) (by decide) ⟨_, rfl, rfl, h⟩
  replace h := h.2 hc
  refine v_iload_n (pc' := 5) 2 1 rfl rfl rfl rfl ?_
  refine v_aload_n (pc' := 6) 3 0 rfl rfl rfl rfl ?_
  refine v_cV (Y2 := Y_X2_nets) (As := []) (b := p0) (pc' := 9) (c1 := 0) (s1 := 0) 4 rfl rfl mf_X2_nets rfl rfl ml_X2_40 mi_X2_nets se_X2_nets (ci := 1) rfl (ck0l hp0) (lay_lt (ck0l hp0) (by decide)) rfl (Nat.le_of_ble_eq_true rfl) ⟨Nat.le_of_ble_eq_true rfl, Nat.le_of_ble_eq_true rfl⟩ rfl rfl (ok_X2_nets p0 I L hp0 h) ?_ ?_
  · intro e9 u9 hx9
    exact hx9.elim
  intro v9 u9 hv9
  obtain ⟨r691, rfl, rfl, h⟩ := hv9
  refine ⟨fun q => absurd q (Nat.lt_irrefl _), ?_⟩
  show V G Y_X2_hasNet 9 _ (.int r691 :: _) _ _ _ _ _
  refine v_icmp_ge (tgt := 16) (pc' := 12) 5 rfl rfl (by decide) (fun hc => ?_) (fun hc => ?_)
  · replace h := h.1 hc
    refine v_iconst (v := 0) (pc' := 17) 8 rfl rfl (by decide) ?_
    exact v_bret 9 rfl rfl (by decide) (by decide) (by decide) ⟨_, rfl, rfl, h⟩
  replace h := h.2 hc
  refine v_iconst (v := 1) (pc' := 13) 6 rfl rfl (by decide) ?_
  refine v_goto (tgt := 17) 7 rfl (by decide) ?_
  exact v_bret 9 rfl rfl (by decide) (by decide) (by decide) ⟨_, rfl, rfl, h⟩
