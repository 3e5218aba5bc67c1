def B_X5_comparison_174 (p2 : Nat) (v3 : Int32) (v4 : Int32) (v5 : Int32) (v6 : Int32) (v7 : Int32) (v8 : Int32) (I : TI) (L : TL) (t : Nat) (Q : Int32 → TI → Prop) (R61 : Int32 → Int32 → Prop) : Prop :=
  R61 v7 (v8 + 1)
set_option maxHeartbeats 4000000 in
set_option maxRecDepth 100000 in
theorem b_X5_comparison_174 {G : GT} {b d : Nat} (p2 : Nat) (v3 : Int32) (v4 : Int32) (v5 : Int32) (v6 : Int32) (v7 : Int32) (v8 : Int32) (I : TI) (L : TL) (t : Nat) (hp2 : bnOK p2) (ht : txOK t) (Q : Int32 → TI → Prop) (R61 : Int32 → Int32 → Prop) (hR61 : ∀ (v7 : Int32) (v8 : Int32), R61 v7 v8 → V G Y_X5_comparison 61 [(2, .ref p2), (3, .int v3), (4, .int v4), (5, .int v5), (6, .int v6), (7, .int v7), (8, .int v8)] [] (I, L, RT b d t, 457) 0 0 (fun v9 u9 => ∃ (r9 : Int32) (I9 : TI), v9 = some (.int r9) ∧ u9 = (I9, L, RT b d t, 457) ∧ Q r9 I9) (fun _ _ => False)) (h : B_X5_comparison_174 p2 v3 v4 v5 v6 v7 v8 I L t Q R61) : V G Y_X5_comparison 174 [(2, .ref p2), (3, .int v3), (4, .int v4), (5, .int v5), (6, .int v6), (7, .int v7), (8, .int v8)] [] (I, L, RT b d t, 457) 0 0 (fun v9 u9 => ∃ (r9 : Int32) (I9 : TI), v9 = some (.int r9) ∧ u9 = (I9, L, RT b d t, 457) ∧ Q r9 I9) (fun _ _ => False) := by
  unfold B_X5_comparison_174 at h
  refine v_iinc (v := (v8 + 1)) (ls' := [(8, .int (v8 + 1)), (2, .ref p2), (3, .int v3), (4, .int v4), (5, .int v5), (6, .int v6), (7, .int v7)]) (pc' := 177) 83 6 rfl rfl rfl rfl (by decide) rfl ?_
  refine v_goto (tgt := 61) 84 rfl (by decide) ?_
  refine V.sub [1, 2, 3, 4, 5, 6, 0] rfl ?_
  exact hR61 v7 (v8 + 1) h
def B_X5_comparison_165 (p2 : Nat) (v3 : Int32) (v4 : Int32) (v5 : Int32) (v6 : Int32) (v7 : Int32) (v8 : Int32) (I : TI) (L : TL) (t : Nat) (Q : Int32 → TI → Prop) (R61 : Int32 → Int32 → Prop) : Prop :=
  ∀ x930 : Int32, x930 = (v7 ||| ((1 : Int32) <<< (v8 &&& 31))) → (B_X5_comparison_174 p2 v3 v4 v5 v6 x930 v8 I L t Q R61)
set_option maxHeartbeats 4000000 in
set_option maxRecDepth 100000 in
theorem b_X5_comparison_165 {G : GT} {b d : Nat} (p2 : Nat) (v3 : Int32) (v4 : Int32) (v5 : Int32) (v6 : Int32) (v7 : Int32) (v8 : Int32) (I : TI) (L : TL) (t : Nat) (hp2 : bnOK p2) (ht : txOK t) (Q : Int32 → TI → Prop) (R61 : Int32 → Int32 → Prop) (hR61 : ∀ (v7 : Int32) (v8 : Int32), R61 v7 v8 → V G Y_X5_comparison 61 [(2, .ref p2), (3, .int v3), (4, .int v4), (5, .int v5), (6, .int v6), (7, .int v7), (8, .int v8)] [] (I, L, RT b d t, 457) 0 0 (fun v9 u9 => ∃ (r9 : Int32) (I9 : TI), v9 = some (.int r9) ∧ u9 = (I9, L, RT b d t, 457) ∧ Q r9 I9) (fun _ _ => False)) (h : B_X5_comparison_165 p2 v3 v4 v5 v6 v7 v8 I L t Q R61) : V G Y_X5_comparison 165 [(2, .ref p2), (3, .int v3), (4, .int v4), (5, .int v5), (6, .int v6), (7, .int v7), (8, .int v8)] [] (I, L, RT b d t, 457) 0 0 (fun v9 u9 => ∃ (r9 : Int32) (I9 : TI), v9 = some (.int r9) ∧ u9 = (I9, L, RT b d t, 457) ∧ Q r9 I9) (fun _ _ => False) := by
  unfold B_X5_comparison_165 at h
  refine v_iload (pc' := 167) 77 5 rfl rfl rfl ?_
  refine v_iconst (v := 1) (pc' := 168) 78 rfl rfl (by decide) ?_
  refine v_iload (pc' := 170) 79 6 rfl rfl rfl ?_
  refine v_ishl (pc' := 171) 80 rfl rfl ?_
  refine v_ior (pc' := 172) 81 rfl rfl ?_
  refine nm_I (e := (v7 ||| ((1 : Int32) <<< (v8 &&& 31)))) (fun x930 hx930 => ?_)
  replace h := h x930 hx930
  refine v_istore (ls' := [(7, .int x930), (2, .ref p2), (3, .int v3), (4, .int v4), (5, .int v5), (6, .int v6), (8, .int v8)]) (pc' := 174) 82 rfl rfl (by decide) rfl ?_
  refine V.sub [1, 2, 3, 4, 5, 0, 6] rfl ?_
  exact b_X5_comparison_174 p2 v3 v4 v5 v6 x930 v8 I L t hp2 ht Q R61 hR61 h
def B_X5_comparison_148 (p2 : Nat) (v3 : Int32) (v4 : Int32) (v5 : Int32) (v6 : Int32) (v7 : Int32) (v8 : Int32) (v9 : Int32) (v10 : Int32) (I : TI) (L : TL) (t : Nat) (Q : Int32 → TI → Prop) (R61 : Int32 → Int32 → Prop) : Prop :=
  (¬ v4 = 0 → B_X5_comparison_174 p2 v3 v4 v5 v6 v7 v8 I L t Q R61) ∧ (v4 = 0 → (¬ v5 = 0 → B_X5_comparison_174 p2 v3 v4 v5 v6 v7 v8 I L t Q R61) ∧ (v5 = 0 → (¬ v9 = v10 → B_X5_comparison_174 p2 v3 v4 v5 v6 v7 v8 I L t Q R61) ∧ (v9 = v10 → B_X5_comparison_165 p2 v3 v4 v5 v6 v7 v8 I L t Q R61)))
set_option maxHeartbeats 4000000 in
set_option maxRecDepth 100000 in
theorem b_X5_comparison_148 {G : GT} {b d : Nat} (p2 : Nat) (v3 : Int32) (v4 : Int32) (v5 : Int32) (v6 : Int32) (v7 : Int32) (v8 : Int32) (v9 : Int32) (v10 : Int32) (I : TI) (L : TL) (t : Nat) (hp2 : bnOK p2) (ht : txOK t) (Q : Int32 → TI → Prop) (R61 : Int32 → Int32 → Prop) (hR61 : ∀ (v7 : Int32) (v8 : Int32), R61 v7 v8 → V G Y_X5_comparison 61 [(2, .ref p2), (3, .int v3), (4, .int v4), (5, .int v5), (6, .int v6), (7, .int v7), (8, .int v8)] [] (I, L, RT b d t, 457) 0 0 (fun v9 u9 => ∃ (r9 : Int32) (I9 : TI), v9 = some (.int r9) ∧ u9 = (I9, L, RT b d t, 457) ∧ Q r9 I9) (fun _ _ => False)) (h : B_X5_comparison_148 p2 v3 v4 v5 v6 v7 v8 v9 v10 I L t Q R61) : V G Y_X5_comparison 148 [(2, .ref p2), (3, .int v3), (4, .int v4), (5, .int v5), (6, .int v6), (7, .int v7), (8, .int v8), (9, .int v9), (10, .int v10)] [] (I, L, RT b d t, 457) 0 0 (fun v9 u9 => ∃ (r9 : Int32) (I9 : TI), v9 = some (.int r9) ∧ u9 = (I9, L, RT b d t, 457) ∧ Q r9 I9) (fun _ _ => False) := by
  unfold B_X5_comparison_148 at h
  refine v_iload (pc' := 150) 70 2 rfl rfl rfl ?_
  refine v_if_ne (tgt := 174) (pc' := 153) 71 rfl rfl (by decide) (fun hc => ?_) (fun hc => ?_)
  · replace h := h.1 hc
    refine V.sub [0, 1, 2, 3, 4, 5, 6] rfl ?_
    exact b_X5_comparison_174 p2 v3 v4 v5 v6 v7 v8 I L t hp2 ht Q R61 hR61 h
  replace h := h.2 hc
  refine v_iload (pc' := 155) 72 3 rfl rfl rfl ?_
  refine v_if_ne (tgt := 174) (pc' := 158) 73 rfl rfl (by decide) (fun hc => ?_) (fun hc => ?_)
  · replace h := h.1 hc
    refine V.sub [0, 1, 2, 3, 4, 5, 6] rfl ?_
    exact b_X5_comparison_174 p2 v3 v4 v5 v6 v7 v8 I L t hp2 ht Q R61 hR61 h
  replace h := h.2 hc
  refine v_iload (pc' := 160) 74 7 rfl rfl rfl ?_
  refine v_iload (pc' := 162) 75 8 rfl rfl rfl ?_
  refine v_icmp_ne (tgt := 174) (pc' := 165) 76 rfl rfl (by decide) (fun hc => ?_) (fun hc => ?_)
  · replace h := h.1 hc
    refine V.sub [0, 1, 2, 3, 4, 5, 6] rfl ?_
    exact b_X5_comparison_174 p2 v3 v4 v5 v6 v7 v8 I L t hp2 ht Q R61 hR61 h
  replace h := h.2 hc
  refine V.sub [0, 1, 2, 3, 4, 5, 6] rfl ?_
  exact b_X5_comparison_165 p2 v3 v4 v5 v6 v7 v8 I L t hp2 ht Q R61 hR61 h
def B_X5_comparison_136 (p2 : Nat) (v3 : Int32) (v4 : Int32) (v5 : Int32) (v6 : Int32) (v7 : Int32) (v8 : Int32) (v9 : Int32) (v10 : Int32) (I : TI) (L : TL) (t : Nat) (Q : Int32 → TI → Prop) (R61 : Int32 → Int32 → Prop) : Prop :=
  (v5 = 0 → B_X5_comparison_148 p2 v3 v4 v5 v6 v7 v8 v9 v10 I L t Q R61) ∧ (¬ v5 = 0 → (v10 < v9 → B_X5_comparison_165 p2 v3 v4 v5 v6 v7 v8 I L t Q R61) ∧ (¬ v10 < v9 → B_X5_comparison_148 p2 v3 v4 v5 v6 v7 v8 v9 v10 I L t Q R61))
set_option maxHeartbeats 4000000 in
set_option maxRecDepth 100000 in
theorem b_X5_comparison_136 {G : GT} {b d : Nat} (p2 : Nat) (v3 : Int32) (v4 : Int32) (v5 : Int32) (v6 : Int32) (v7 : Int32) (v8 : Int32) (v9 : Int32) (v10 : Int32) (I : TI) (L : TL) (t : Nat) (hp2 : bnOK p2) (ht : txOK t) (Q : Int32 → TI → Prop) (R61 : Int32 → Int32 → Prop) (hR61 : ∀ (v7 : Int32) (v8 : Int32), R61 v7 v8 → V G Y_X5_comparison 61 [(2, .ref p2), (3, .int v3), (4, .int v4), (5, .int v5), (6, .int v6), (7, .int v7), (8, .int v8)] [] (I, L, RT b d t, 457) 0 0 (fun v9 u9 => ∃ (r9 : Int32) (I9 : TI), v9 = some (.int r9) ∧ u9 = (I9, L, RT b d t, 457) ∧ Q r9 I9) (fun _ _ => False)) (h : B_X5_comparison_136 p2 v3 v4 v5 v6 v7 v8 v9 v10 I L t Q R61) : V G Y_X5_comparison 136 [(2, .ref p2), (3, .int v3), (4, .int v4), (5, .int v5), (6, .int v6), (7, .int v7), (8, .int v8), (9, .int v9), (10, .int v10)] [] (I, L, RT b d t, 457) 0 0 (fun v9 u9 => ∃ (r9 : Int32) (I9 : TI), v9 = some (.int r9) ∧ u9 = (I9, L, RT b d t, 457) ∧ Q r9 I9) (fun _ _ => False) := by
  unfold B_X5_comparison_136 at h
  refine v_iload (pc' := 138) 65 3 rfl rfl rfl ?_
  refine v_if_eq (tgt := 148) (pc' := 141) 66 rfl rfl (by decide) (fun hc => ?_) (fun hc => ?_)
  · replace h := h.1 hc
    exact b_X5_comparison_148 p2 v3 v4 v5 v6 v7 v8 v9 v10 I L t hp2 ht Q R61 hR61 h
  replace h := h.2 hc
  refine v_iload (pc' := 143) 67 7 rfl rfl rfl ?_
  refine v_iload (pc' := 145) 68 8 rfl rfl rfl ?_
  refine v_icmp_gt (tgt := 165) (pc' := 148) 69 rfl rfl (by decide) (fun hc => ?_) (fun hc => ?_)
  · replace h := h.1 hc
    refine V.sub [0, 1, 2, 3, 4, 5, 6] rfl ?_
    exact b_X5_comparison_165 p2 v3 v4 v5 v6 v7 v8 I L t hp2 ht Q R61 hR61 h
  replace h := h.2 hc
  exact b_X5_comparison_148 p2 v3 v4 v5 v6 v7 v8 v9 v10 I L t hp2 ht Q R61 hR61 h
def B_X5_comparison_122 (p2 : Nat) (v3 : Int32) (v4 : Int32) (v5 : Int32) (v6 : Int32) (v7 : Int32) (v8 : Int32) (v9 : Int32) (s0 : Int32) (I : TI) (L : TL) (t : Nat) (Q : Int32 → TI → Prop) (R61 : Int32 → Int32 → Prop) : Prop :=
  (v4 = 0 → B_X5_comparison_136 p2 v3 v4 v5 v6 v7 v8 v9 s0 I L t Q R61) ∧ (¬ v4 = 0 → (v9 < s0 → B_X5_comparison_165 p2 v3 v4 v5 v6 v7 v8 I L t Q R61) ∧ (¬ v9 < s0 → B_X5_comparison_136 p2 v3 v4 v5 v6 v7 v8 v9 s0 I L t Q R61))
set_option maxHeartbeats 4000000 in
set_option maxRecDepth 100000 in
theorem b_X5_comparison_122 {G : GT} {b d : Nat} (p2 : Nat) (v3 : Int32) (v4 : Int32) (v5 : Int32) (v6 : Int32) (v7 : Int32) (v8 : Int32) (v9 : Int32) (s0 : Int32) (I : TI) (L : TL) (t : Nat) (hp2 : bnOK p2) (ht : txOK t) (Q : Int32 → TI → Prop) (R61 : Int32 → Int32 → Prop) (hR61 : ∀ (v7 : Int32) (v8 : Int32), R61 v7 v8 → V G Y_X5_comparison 61 [(2, .ref p2), (3, .int v3), (4, .int v4), (5, .int v5), (6, .int v6), (7, .int v7), (8, .int v8)] [] (I, L, RT b d t, 457) 0 0 (fun v9 u9 => ∃ (r9 : Int32) (I9 : TI), v9 = some (.int r9) ∧ u9 = (I9, L, RT b d t, 457) ∧ Q r9 I9) (fun _ _ => False)) (h : B_X5_comparison_122 p2 v3 v4 v5 v6 v7 v8 v9 s0 I L t Q R61) : V G Y_X5_comparison 122 [(2, .ref p2), (3, .int v3), (4, .int v4), (5, .int v5), (6, .int v6), (7, .int v7), (8, .int v8), (9, .int v9)] [.int s0] (I, L, RT b d t, 457) 0 0 (fun v9 u9 => ∃ (r9 : Int32) (I9 : TI), v9 = some (.int r9) ∧ u9 = (I9, L, RT b d t, 457) ∧ Q r9 I9) (fun _ _ => False) := by
  unfold B_X5_comparison_122 at h
  refine v_istore (ls' := [(10, .int s0), (2, .ref p2), (3, .int v3), (4, .int v4), (5, .int v5), (6, .int v6), (7, .int v7), (8, .int v8), (9, .int v9)]) (pc' := 124) 59 rfl rfl (by decide) rfl ?_
  refine v_iload (pc' := 126) 60 3 rfl rfl rfl ?_
  refine v_if_eq (tgt := 136) (pc' := 129) 61 rfl rfl (by decide) (fun hc => ?_) (fun hc => ?_)
  · replace h := h.1 hc
    refine V.sub [1, 2, 3, 4, 5, 6, 7, 8, 0] rfl ?_
    exact b_X5_comparison_136 p2 v3 v4 v5 v6 v7 v8 v9 s0 I L t hp2 ht Q R61 hR61 h
  replace h := h.2 hc
  refine v_iload (pc' := 131) 62 8 rfl rfl rfl ?_
  refine v_iload (pc' := 133) 63 0 rfl rfl rfl ?_
  refine v_icmp_lt (tgt := 165) (pc' := 136) 64 rfl rfl (by decide) (fun hc => ?_) (fun hc => ?_)
  · replace h := h.1 hc
    refine V.sub [1, 2, 3, 4, 5, 6, 7] rfl ?_
    exact b_X5_comparison_165 p2 v3 v4 v5 v6 v7 v8 I L t hp2 ht Q R61 hR61 h
  replace h := h.2 hc
  refine V.sub [1, 2, 3, 4, 5, 6, 7, 8, 0] rfl ?_
  exact b_X5_comparison_136 p2 v3 v4 v5 v6 v7 v8 v9 s0 I L t hp2 ht Q R61 hR61 h
def B_X5_comparison_95 (p2 : Nat) (v3 : Int32) (v4 : Int32) (v5 : Int32) (v6 : Int32) (v7 : Int32) (v8 : Int32) (s0 : Int32) (I : TI) (L : TL) (t : Nat) (Q : Int32 → TI → Prop) (R61 : Int32 → Int32 → Prop) : Prop :=
  (10000 ≤ v6 → W_X0_propertyOf p2 v8 (v6 - 10000) I L (fun (r931 : Int32) => B_X5_comparison_122 p2 v3 v4 v5 v6 v7 v8 s0 r931 I L t Q R61)) ∧ (¬ 10000 ≤ v6 → B_X5_comparison_122 p2 v3 v4 v5 v6 v7 v8 s0 v6 I L t Q R61)
set_option maxHeartbeats 4000000 in
set_option maxRecDepth 100000 in
theorem b_X5_comparison_95 {G : GT} {b d : Nat} (p2 : Nat) (v3 : Int32) (v4 : Int32) (v5 : Int32) (v6 : Int32) (v7 : Int32) (v8 : Int32) (s0 : Int32) (I : TI) (L : TL) (t : Nat) (hp2 : bnOK p2) (ht : txOK t) (Q : Int32 → TI → Prop) (R61 : Int32 → Int32 → Prop) (hR61 : ∀ (v7 : Int32) (v8 : Int32), R61 v7 v8 → V G Y_X5_comparison 61 [(2, .ref p2), (3, .int v3), (4, .int v4), (5, .int v5), (6, .int v6), (7, .int v7), (8, .int v8)] [] (I, L, RT b d t, 457) 0 0 (fun v9 u9 => ∃ (r9 : Int32) (I9 : TI), v9 = some (.int r9) ∧ u9 = (I9, L, RT b d t, 457) ∧ Q r9 I9) (fun _ _ => False)) (h : B_X5_comparison_95 p2 v3 v4 v5 v6 v7 v8 s0 I L t Q R61) : V G Y_X5_comparison 95 [(2, .ref p2), (3, .int v3), (4, .int v4), (5, .int v5), (6, .int v6), (7, .int v7), (8, .int v8)] [.int s0] (I, L, RT b d t, 457) 0 0 (fun v9 u9 => ∃ (r9 : Int32) (I9 : TI), v9 = some (.int r9) ∧ u9 = (I9, L, RT b d t, 457) ∧ Q r9 I9) (fun _ _ => False) := by
  unfold B_X5_comparison_95 at h
  refine v_istore (ls' := [(9, .int s0), (2, .ref p2), (3, .int v3), (4, .int v4), (5, .int v5), (6, .int v6), (7, .int v7), (8, .int v8)]) (pc' := 97) 47 rfl rfl (by decide) rfl ?_
  refine v_iload (pc' := 99) 48 5 rfl rfl rfl ?_
  refine v_sipush (v := 10000) (pc' := 102) 49 rfl rfl (by decide) ?_
  refine v_icmp_ge (tgt := 110) (pc' := 105) 50 rfl rfl (by decide) (fun hc => ?_) (fun hc => ?_)
  · replace h := h.1 hc
    refine v_aload_n (pc' := 111) 53 1 rfl rfl rfl rfl ?_
    refine v_iload (pc' := 113) 54 7 rfl rfl rfl ?_
    refine v_iload (pc' := 115) 55 5 rfl rfl rfl ?_
    refine v_sipush (v := 10000) (pc' := 118) 56 rfl rfl (by decide) ?_
    refine v_isub (pc' := 119) 57 rfl rfl ?_
    refine v_cV (Y2 := Y_X0_propertyOf) (As := [.int v8, .int (v6 - 10000)]) (b := p2) (pc' := 122) (c1 := 0) (s1 := 0) 58 rfl rfl mf_X0_propertyOf rfl rfl ml_X5_99 mi_X0_propertyOf se_X0_propertyOf (ci := 0) rfl (bn0l hp2) (lay_lt (bn0l hp2) (by decide)) rfl (Nat.le_of_ble_eq_true rfl) ⟨Nat.le_of_ble_eq_true rfl, Nat.le_of_ble_eq_true rfl⟩ rfl rfl (ok_X0_propertyOf p2 v8 (v6 - 10000) I L hp2 h) ?_ ?_
    · intro e9 u9 hx9
      exact hx9.elim
    intro v9 u9 hv9
    obtain ⟨r931, rfl, rfl, h⟩ := hv9
    refine ⟨fun q => absurd q (Nat.lt_irrefl _), ?_⟩
    show V G Y_X5_comparison 122 _ (.int r931 :: _) _ _ _ _ _
    refine V.sub [1, 2, 3, 4, 5, 6, 7, 0] rfl ?_
    exact b_X5_comparison_122 p2 v3 v4 v5 v6 v7 v8 s0 r931 I L t hp2 ht Q R61 hR61 h
  replace h := h.2 hc
  refine v_iload (pc' := 107) 51 5 rfl rfl rfl ?_
  refine v_goto (tgt := 122) 52 rfl (by decide) ?_
  refine V.sub [1, 2, 3, 4, 5, 6, 7, 0] rfl ?_
  exact b_X5_comparison_122 p2 v3 v4 v5 v6 v7 v8 s0 v6 I L t hp2 ht Q R61 hR61 h
def D_X5_comparison_61 (p2 : Nat) (v3 : Int32) (v4 : Int32) (v5 : Int32) (v6 : Int32) (I : TI) (L : TL) (t : Nat) (Q : Int32 → TI → Prop) (R61 : Int32 → Int32 → Prop) (v7 : Int32) (v8 : Int32) : Prop :=
  W_X2_nets (p2 + 1) I L (fun (r932 : Int32) => (r932 ≤ v8 → Q v7 I) ∧ (¬ r932 ≤ v8 → (10000 ≤ v3 → W_X0_propertyOf p2 v8 (v3 - 10000) I L (fun (r933 : Int32) => B_X5_comparison_95 p2 v3 v4 v5 v6 v7 v8 r933 I L t Q R61)) ∧ (¬ 10000 ≤ v3 → B_X5_comparison_95 p2 v3 v4 v5 v6 v7 v8 v3 I L t Q R61)))
def L_X5_comparison_61 (p2 : Nat) (v3 : Int32) (v4 : Int32) (v5 : Int32) (v6 : Int32) (I : TI) (L : TL) (t : Nat) (Q : Int32 → TI → Prop) : Nat → Int32 → Int32 → Prop
  | 0, _, _ => False
  | n9 + 1, v7, v8 => D_X5_comparison_61 p2 v3 v4 v5 v6 I L t Q (fun v7 v8 => L_X5_comparison_61 p2 v3 v4 v5 v6 I L t Q n9 v7 v8) v7 v8
set_option maxHeartbeats 4000000 in
set_option maxRecDepth 100000 in
theorem d_X5_comparison_61 {G : GT} {b d : Nat} (p2 : Nat) (v3 : Int32) (v4 : Int32) (v5 : Int32) (v6 : Int32) (I : TI) (L : TL) (t : Nat) (hp2 : bnOK p2) (ht : txOK t) (Q : Int32 → TI → Prop) (R61 : Int32 → Int32 → Prop)  (hR61 : ∀ (v7 : Int32) (v8 : Int32), R61 v7 v8 → V G Y_X5_comparison 61 [(2, .ref p2), (3, .int v3), (4, .int v4), (5, .int v5), (6, .int v6), (7, .int v7), (8, .int v8)] [] (I, L, RT b d t, 457) 0 0 (fun v9 u9 => ∃ (r9 : Int32) (I9 : TI), v9 = some (.int r9) ∧ u9 = (I9, L, RT b d t, 457) ∧ Q r9 I9) (fun _ _ => False)) (v7 : Int32) (v8 : Int32)  (h : D_X5_comparison_61 p2 v3 v4 v5 v6 I L t Q R61 v7 v8) : V G Y_X5_comparison 61 [(2, .ref p2), (3, .int v3), (4, .int v4), (5, .int v5), (6, .int v6), (7, .int v7), (8, .int v8)] [] (I, L, RT b d t, 457) 0 0 (fun v9 u9 => ∃ (r9 : Int32) (I9 : TI), v9 = some (.int r9) ∧ u9 = (I9, L, RT b d t, 457) ∧ Q r9 I9) (fun _ _ => False) := by
  unfold D_X5_comparison_61 at h
  refine v_iload (pc' := 63) 31 6 rfl rfl rfl ?_
  refine v_aload_n (pc' := 64) 32 0 rfl rfl rfl rfl ?_
  refine v_getR (t := (p2 + 1)) (pc' := 67) 33 rfl rfl pf_X5_35 (bn0l hp2) (lay_lt (bn0l hp2) (by decide)) (rt_bn_0 hp2) ?_
  refine v_cV (Y2 := Y_X2_nets) (As := []) (b := (p2 + 1)) (pc' := 70) (c1 := 0) (s1 := 0) 34 rfl rfl mf_X2_nets rfl rfl ml_X5_41 mi_X2_nets se_X2_nets (ci := 1) rfl (bn1l hp2) (lay_lt (bn1l hp2) (by decide)) rfl (Nat.le_of_ble_eq_true rfl) ⟨Nat.le_of_ble_eq_true rfl, Nat.le_of_ble_eq_true rfl⟩ rfl rfl (ok_X2_nets (p2 + 1) I L (bn_ck hp2) h) ?_ ?_
  · intro e9 u9 hx9
    exact hx9.elim
  intro v9 u9 hv9
  obtain ⟨r932, rfl, rfl, h⟩ := hv9
  refine ⟨fun q => absurd q (Nat.lt_irrefl _), ?_⟩
  show V G Y_X5_comparison 70 _ (.int r932 :: _) _ _ _ _ _
  refine v_icmp_ge (tgt := 180) (pc' := 73) 35 rfl rfl (by decide) (fun hc => ?_) (fun hc => ?_)
  · replace h := h.1 hc
    refine v_iload (pc' := 182) 85 5 rfl rfl rfl ?_
    exact v_iret 86 rfl rfl (by decide) (by decide) ⟨_, _, rfl, rfl, h⟩
  replace h := h.2 hc
  refine v_iload_n (pc' := 74) 36 1 rfl rfl rfl rfl ?_
  refine v_sipush (v := 10000) (pc' := 77) 37 rfl rfl (by decide) ?_
  refine v_icmp_ge (tgt := 84) (pc' := 80) 38 rfl rfl (by decide) (fun hc => ?_) (fun hc => ?_)
  · replace h := h.1 hc
    refine v_aload_n (pc' := 85) 41 0 rfl rfl rfl rfl ?_
    refine v_iload (pc' := 87) 42 6 rfl rfl rfl ?_
    refine v_iload_n (pc' := 88) 43 1 rfl rfl rfl rfl ?_
    refine v_sipush (v := 10000) (pc' := 91) 44 rfl rfl (by decide) ?_
    refine v_isub (pc' := 92) 45 rfl rfl ?_
    refine v_cV (Y2 := Y_X0_propertyOf) (As := [.int v8, .int (v3 - 10000)]) (b := p2) (pc' := 95) (c1 := 0) (s1 := 0) 46 rfl rfl mf_X0_propertyOf rfl rfl ml_X5_99 mi_X0_propertyOf se_X0_propertyOf (ci := 0) rfl (bn0l hp2) (lay_lt (bn0l hp2) (by decide)) rfl (Nat.le_of_ble_eq_true rfl) ⟨Nat.le_of_ble_eq_true rfl, Nat.le_of_ble_eq_true rfl⟩ rfl rfl (ok_X0_propertyOf p2 v8 (v3 - 10000) I L hp2 h) ?_ ?_
    · intro e9 u9 hx9
      exact hx9.elim
    intro v9 u9 hv9
    obtain ⟨r933, rfl, rfl, h⟩ := hv9
    refine ⟨fun q => absurd q (Nat.lt_irrefl _), ?_⟩
    show V G Y_X5_comparison 95 _ (.int r933 :: _) _ _ _ _ _
    exact b_X5_comparison_95 p2 v3 v4 v5 v6 v7 v8 r933 I L t hp2 ht Q R61 hR61 h
  replace h := h.2 hc
  refine v_iload_n (pc' := 81) 39 1 rfl rfl rfl rfl ?_
  refine v_goto (tgt := 95) 40 rfl (by decide) ?_
  exact b_X5_comparison_95 p2 v3 v4 v5 v6 v7 v8 v3 I L t hp2 ht Q R61 hR61 h
theorem l_X5_comparison_61 {G : GT} {b d : Nat} (p2 : Nat) (v3 : Int32) (v4 : Int32) (v5 : Int32) (v6 : Int32) (I : TI) (L : TL) (t : Nat) (hp2 : bnOK p2) (ht : txOK t) (Q : Int32 → TI → Prop)  : ∀ (n9 : Nat) (v7 : Int32) (v8 : Int32), L_X5_comparison_61 p2 v3 v4 v5 v6 I L t Q n9 v7 v8 → V G Y_X5_comparison 61 [(2, .ref p2), (3, .int v3), (4, .int v4), (5, .int v5), (6, .int v6), (7, .int v7), (8, .int v8)] [] (I, L, RT b d t, 457) 0 0 (fun v9 u9 => ∃ (r9 : Int32) (I9 : TI), v9 = some (.int r9) ∧ u9 = (I9, L, RT b d t, 457) ∧ Q r9 I9) (fun _ _ => False)
  | 0, _, _, h => h.elim
  | n9 + 1, v7, v8, h => d_X5_comparison_61 p2 v3 v4 v5 v6 I L t hp2 ht Q _ (l_X5_comparison_61 p2 v3 v4 v5 v6 I L t hp2 ht Q n9) v7 v8 h
def B_X5_comparison_45 (p2 : Nat) (v3 : Int32) (v4 : Int32) (v5 : Int32) (I : TI) (L : TL) (t : Nat) (Q : Int32 → TI → Prop) : Prop :=
  W_X7_advance I L t (fun (I934 : TI) => W_X5_readOperand I934 L t (fun (r935 : Int32) (I936 : TI) => ∃ n937, L_X5_comparison_61 p2 v3 v4 v5 r935 I936 L t Q n937 (0 : Int32) (0 : Int32)))
set_option maxHeartbeats 4000000 in
set_option maxRecDepth 100000 in
theorem b_X5_comparison_45 {G : GT} {b d : Nat} (p2 : Nat) (v3 : Int32) (v4 : Int32) (v5 : Int32) (I : TI) (L : TL) (t : Nat) (hp2 : bnOK p2) (ht : txOK t) (Q : Int32 → TI → Prop)  (h : B_X5_comparison_45 p2 v3 v4 v5 I L t Q) : V G Y_X5_comparison 45 [(1, .ref 344), (2, .ref p2), (3, .int v3), (4, .int v4), (5, .int v5)] [] (I, L, RT b d t, 457) 0 0 (fun v9 u9 => ∃ (r9 : Int32) (I9 : TI), v9 = some (.int r9) ∧ u9 = (I9, L, RT b d t, 457) ∧ Q r9 I9) (fun _ _ => False) := by
  unfold B_X5_comparison_45 at h
  refine v_aload_n (pc' := 46) 22 0 rfl rfl rfl rfl ?_
  refine v_cV (Y2 := Y_X7_advance) (As := []) (b := 344) (pc' := 49) (c1 := 0) (s1 := 0) 23 rfl rfl mf_X7_advance rfl rfl ml_X5_84 mi_X7_advance se_X7_advance (ci := 6) rfl ly_344 (lay_lt ly_344 (by decide)) rfl (Nat.le_of_ble_eq_true rfl) ⟨Nat.le_of_ble_eq_true rfl, Nat.le_of_ble_eq_true rfl⟩ rfl rfl (ok_X7_advance I L t ht h) ?_ ?_
  · intro e9 u9 hx9
    exact hx9.elim
  intro v9 u9 hv9
  obtain ⟨I934, rfl, rfl, h⟩ := hv9
  refine ⟨fun q => absurd q (Nat.lt_irrefl _), ?_⟩
  show V G Y_X5_comparison 49 _ _ _ _ _ _ _
  refine v_aload_n (pc' := 50) 24 0 rfl rfl rfl rfl ?_
  refine v_cS (Y2 := Y_X5_readOperand) (As := [.ref 344]) (pc' := 53) (c1 := 0) (s1 := 0) 25 rfl rfl mf_X5_readOperand rfl rfl ml_X5_95 ms_X5_readOperand rfl (Nat.le_of_ble_eq_true rfl) ⟨Nat.le_of_ble_eq_true rfl, Nat.le_of_ble_eq_true rfl⟩ rfl rfl (ok_X5_readOperand I934 L t ht h) ?_ ?_
  · intro e9 u9 hx9
    exact hx9.elim
  intro v9 u9 hv9
  obtain ⟨r935, I936, rfl, rfl, h⟩ := hv9
  refine ⟨fun q => absurd q (Nat.lt_irrefl _), ?_⟩
  show V G Y_X5_comparison 53 _ (.int r935 :: _) _ _ _ _ _
  refine v_istore (ls' := [(6, .int r935), (1, .ref 344), (2, .ref p2), (3, .int v3), (4, .int v4), (5, .int v5)]) (pc' := 55) 26 rfl rfl (by decide) rfl ?_
  refine v_iconst (v := 0) (pc' := 56) 27 rfl rfl (by decide) ?_
  refine v_istore (ls' := [(7, .int 0), (6, .int r935), (1, .ref 344), (2, .ref p2), (3, .int v3), (4, .int v4), (5, .int v5)]) (pc' := 58) 28 rfl rfl (by decide) rfl ?_
  refine v_iconst (v := 0) (pc' := 59) 29 rfl rfl (by decide) ?_
  refine v_istore (ls' := [(8, .int 0), (7, .int 0), (6, .int r935), (1, .ref 344), (2, .ref p2), (3, .int v3), (4, .int v4), (5, .int v5)]) (pc' := 61) 30 rfl rfl (by decide) rfl ?_
  refine V.sub [4, 5, 6, 7, 2, 1, 0] rfl ?_
  obtain ⟨n937, h⟩ := h
  exact l_X5_comparison_61 p2 v3 v4 v5 r935 I936 L t hp2 ht Q n937 (0 : Int32) (0 : Int32) h
def W_X5_comparison (p2 : Nat) (I : TI) (L : TL) (t : Nat) (Q : Int32 → TI → Prop) : Prop :=
  W_X5_readOperand I L t (fun (r938 : Int32) (I939 : TI) => W_X7_isSign (60 : Int32) I939 L t (fun (r940 : Int32) => W_X7_isSign (62 : Int32) I939 L t (fun (r941 : Int32) => (¬ r940 = 0 → B_X5_comparison_45 p2 r938 r940 r941 I939 L t Q) ∧ (r940 = 0 → (¬ r941 = 0 → B_X5_comparison_45 p2 r938 r940 r941 I939 L t Q) ∧ (r941 = 0 → W_X7_isSign (61 : Int32) I939 L t (fun (r942 : Int32) => (¬ r942 = 0 → B_X5_comparison_45 p2 r938 r940 r941 I939 L t Q) ∧ (r942 = 0 → W_X7_fail (1 : Int32) I939 L (fun (I943 : TI) => B_X5_comparison_45 p2 r938 r940 r941 I943 L t Q))))))))
set_option maxHeartbeats 4000000 in
set_option maxRecDepth 100000 in
theorem ok_X5_comparison {G : GT} {b d : Nat} (p2 : Nat) (I : TI) (L : TL) (t : Nat) (hp2 : bnOK p2) (ht : txOK t) {Q : Int32 → TI → Prop} (h : W_X5_comparison p2 I L t Q) : MW G Y_X5_comparison [.ref 346, .ref 344, .ref p2] (I, L, RT b d t, 457) (fun v9 u9 => ∃ (r9 : Int32) (I9 : TI), v9 = some (.int r9) ∧ u9 = (I9, L, RT b d t, 457) ∧ Q r9 I9) (fun _ _ => False) := by
  unfold W_X5_comparison at h
  refine MW.intro rfl (by decide) is_X5_comparison (Nat.le_of_ble_eq_true rfl) ?_
  show V G Y_X5_comparison 0 [(0, .ref 346), (1, .ref 344), (2, .ref p2)] [] (I, L, RT b d t, 457) 0 0 _ _
  refine v_aload_n (pc' := 1) 0 1 rfl rfl rfl rfl ?_
  refine v_cS (Y2 := Y_X5_readOperand) (As := [.ref 344]) (pc' := 4) (c1 := 0) (s1 := 0) 1 rfl rfl mf_X5_readOperand rfl rfl ml_X5_95 ms_X5_readOperand rfl (Nat.le_of_ble_eq_true rfl) ⟨Nat.le_of_ble_eq_true rfl, Nat.le_of_ble_eq_true rfl⟩ rfl rfl (ok_X5_readOperand I L t ht h) ?_ ?_
  · intro e9 u9 hx9
    exact hx9.elim
  intro v9 u9 hv9
  obtain ⟨r938, I939, rfl, rfl, h⟩ := hv9
  refine ⟨fun q => absurd q (Nat.lt_irrefl _), ?_⟩
  show V G Y_X5_comparison 4 _ (.int r938 :: _) _ _ _ _ _
  refine v_istore_n (ls' := [(3, .int r938), (0, .ref 346), (1, .ref 344), (2, .ref p2)]) (pc' := 5) 2 rfl rfl rfl (by decide) rfl ?_
  refine v_aload_n (pc' := 6) 3 2 rfl rfl rfl rfl ?_
  refine v_bipush (v := 60) (pc' := 8) 4 rfl rfl (by decide) ?_
  refine v_cV (Y2 := Y_X7_isSign) (As := [.int 60]) (b := 344) (pc' := 11) (c1 := 0) (s1 := 0) 5 rfl rfl mf_X7_isSign rfl rfl ml_X5_77 mi_X7_isSign se_X7_isSign (ci := 6) rfl ly_344 (lay_lt ly_344 (by decide)) rfl (Nat.le_of_ble_eq_true rfl) ⟨Nat.le_of_ble_eq_true rfl, Nat.le_of_ble_eq_true rfl⟩ rfl rfl (ok_X7_isSign (60 : Int32) I939 L t ht h) ?_ ?_
  · intro e9 u9 hx9
    exact hx9.elim
  intro v9 u9 hv9
  obtain ⟨r940, rfl, rfl, h⟩ := hv9
  refine ⟨fun q => absurd q (Nat.lt_irrefl _), ?_⟩
  show V G Y_X5_comparison 11 _ (.int r940 :: _) _ _ _ _ _
  refine v_istore (ls' := [(4, .int r940), (3, .int r938), (0, .ref 346), (1, .ref 344), (2, .ref p2)]) (pc' := 13) 6 rfl rfl (by decide) rfl ?_
  refine v_aload_n (pc' := 14) 7 3 rfl rfl rfl rfl ?_
  refine v_bipush (v := 62) (pc' := 16) 8 rfl rfl (by decide) ?_
  refine v_cV (Y2 := Y_X7_isSign) (As := [.int 62]) (b := 344) (pc' := 19) (c1 := 0) (s1 := 0) 9 rfl rfl mf_X7_isSign rfl rfl ml_X5_77 mi_X7_isSign se_X7_isSign (ci := 6) rfl ly_344 (lay_lt ly_344 (by decide)) rfl (Nat.le_of_ble_eq_true rfl) ⟨Nat.le_of_ble_eq_true rfl, Nat.le_of_ble_eq_true rfl⟩ rfl rfl (ok_X7_isSign (62 : Int32) I939 L t ht h) ?_ ?_
  · intro e9 u9 hx9
    exact hx9.elim
  intro v9 u9 hv9
  obtain ⟨r941, rfl, rfl, h⟩ := hv9
  refine ⟨fun q => absurd q (Nat.lt_irrefl _), ?_⟩
  show V G Y_X5_comparison 19 _ (.int r941 :: _) _ _ _ _ _
  refine v_istore (ls' := [(5, .int r941), (4, .int r940), (3, .int r938), (0, .ref 346), (1, .ref 344), (2, .ref p2)]) (pc' := 21) 10 rfl rfl (by decide) rfl ?_
  refine v_iload (pc' := 23) 11 1 rfl rfl rfl ?_
  refine v_if_ne (tgt := 45) (pc' := 26) 12 rfl rfl (by decide) (fun hc => ?_) (fun hc => ?_)
  · replace h := h.1 hc
    refine V.sub [4, 5, 2, 1, 0] rfl ?_
    exact b_X5_comparison_45 p2 r938 r940 r941 I939 L t hp2 ht Q h
  replace h := h.2 hc
  refine v_iload (pc' := 28) 13 0 rfl rfl rfl ?_
  refine v_if_ne (tgt := 45) (pc' := 31) 14 rfl rfl (by decide) (fun hc => ?_) (fun hc => ?_)
  · replace h := h.1 hc
    refine V.sub [4, 5, 2, 1, 0] rfl ?_
    exact b_X5_comparison_45 p2 r938 r940 r941 I939 L t hp2 ht Q h
  replace h := h.2 hc
  refine v_aload_n (pc' := 32) 15 4 rfl rfl rfl rfl ?_
  refine v_bipush (v := 61) (pc' := 34) 16 rfl rfl (by decide) ?_
  refine v_cV (Y2 := Y_X7_isSign) (As := [.int 61]) (b := 344) (pc' := 37) (c1 := 0) (s1 := 0) 17 rfl rfl mf_X7_isSign rfl rfl ml_X5_77 mi_X7_isSign se_X7_isSign (ci := 6) rfl ly_344 (lay_lt ly_344 (by decide)) rfl (Nat.le_of_ble_eq_true rfl) ⟨Nat.le_of_ble_eq_true rfl, Nat.le_of_ble_eq_true rfl⟩ rfl rfl (ok_X7_isSign (61 : Int32) I939 L t ht h) ?_ ?_
  · intro e9 u9 hx9
    exact hx9.elim
  intro v9 u9 hv9
  obtain ⟨r942, rfl, rfl, h⟩ := hv9
  refine ⟨fun q => absurd q (Nat.lt_irrefl _), ?_⟩
  show V G Y_X5_comparison 37 _ (.int r942 :: _) _ _ _ _ _
  refine v_if_ne (tgt := 45) (pc' := 40) 18 rfl rfl (by decide) (fun hc => ?_) (fun hc => ?_)
  · replace h := h.1 hc
    refine V.sub [4, 5, 2, 1, 0] rfl ?_
    exact b_X5_comparison_45 p2 r938 r940 r941 I939 L t hp2 ht Q h
  replace h := h.2 hc
  refine v_aload_n (pc' := 41) 19 4 rfl rfl rfl rfl ?_
  refine v_iconst (v := 1) (pc' := 42) 20 rfl rfl (by decide) ?_
  refine v_cV (Y2 := Y_X7_fail) (As := [.int 1]) (b := 344) (pc' := 45) (c1 := 0) (s1 := 0) 21 rfl rfl mf_X7_fail rfl rfl ml_X5_81 mi_X7_fail se_X7_fail (ci := 6) rfl ly_344 (lay_lt ly_344 (by decide)) rfl (Nat.le_of_ble_eq_true rfl) ⟨Nat.le_of_ble_eq_true rfl, Nat.le_of_ble_eq_true rfl⟩ rfl rfl (ok_X7_fail (1 : Int32) I939 L h) ?_ ?_
  · intro e9 u9 hx9
    exact hx9.elim
  intro v9 u9 hv9
  obtain ⟨I943, rfl, rfl, h⟩ := hv9
  refine ⟨fun q => absurd q (Nat.lt_irrefl _), ?_⟩
  show V G Y_X5_comparison 45 _ _ _ _ _ _ _
  refine V.sub [4, 5, 2, 1, 0] rfl ?_
  exact b_X5_comparison_45 p2 r938 r940 r941 I943 L t hp2 ht Q h
def B_X5_endFactor_45 (v2 : Int32) (I : TI) (L : TL) (Q : TI → Prop) : Prop :=
  Q (up2 I 346 6 ((I 346 6) &&& v2))
set_option maxHeartbeats 4000000 in
set_option maxRecDepth 100000 in
theorem b_X5_endFactor_45 {G : GT} {b d t : Nat} (v2 : Int32) (I : TI) (L : TL)  (Q : TI → Prop)  (h : B_X5_endFactor_45 v2 I L Q) : V G Y_X5_endFactor 45 [(0, .ref 346), (2, .int v2)] [] (I, L, RT b d t, 457) 0 0 (fun v9 u9 => ∃ (I9 : TI), v9 = none ∧ u9 = (I9, L, RT b d t, 457) ∧ Q I9) (fun _ _ => False) := by
  unfold B_X5_endFactor_45 at h
  refine v_aload_n (pc' := 46) 27 0 rfl rfl rfl rfl ?_
  refine v_dup (pc' := 47) 28 rfl rfl rfl ?_
  refine v_getI (pc' := 50) 29 rfl rfl pf_X5_32 ly_346 (lay_lt ly_346 (by decide)) ?_
  refine v_iload_n (pc' := 51) 30 1 rfl rfl rfl rfl ?_
  refine v_iand (pc' := 52) 31 rfl rfl ?_
  refine v_putI (pc' := 55) 32 rfl rfl pf_X5_32 (fun q => absurd q (by decide)) ly_346 (lay_lt ly_346 (by decide)) ?_
  exact v_vret 33 rfl rfl (by decide) (by decide) ⟨_, rfl, rfl, h⟩
def D_X5_endFactor_2 (L : TL) (Q : TI → Prop) (R2 : Int32 → TI → Prop) (v2 : Int32) (I : TI) : Prop :=
  ((I 346 3) ≤ 0 → B_X5_endFactor_45 v2 I L Q) ∧ (¬ (I 346 3) ≤ 0 → vp_in ((I 346 3) - 1) 6 ∧ (((I 347 (((I 346 3) - 1).toNatClampNeg)) = 0 → B_X5_endFactor_45 v2 I L Q) ∧ (¬ (I 347 (((I 346 3) - 1).toNatClampNeg)) = 0 → ∀ x947 : Int32, x947 = ((I 346 4) &&& (v2 ^^^ (-1))) → (R2 x947 (up2 I 346 3 ((I 346 3) - 1))))))
def L_X5_endFactor_2 (L : TL) (Q : TI → Prop) : Nat → Int32 → TI → Prop
  | 0, _, _ => False
  | n9 + 1, v2, I => D_X5_endFactor_2 L Q (fun v2 I => L_X5_endFactor_2 L Q n9 v2 I) v2 I
set_option maxHeartbeats 4000000 in
set_option maxRecDepth 100000 in
theorem d_X5_endFactor_2 {G : GT} {b d t : Nat} (L : TL)  (Q : TI → Prop) (R2 : Int32 → TI → Prop)  (hR2 : ∀ (v2 : Int32) (I : TI), R2 v2 I → V G Y_X5_endFactor 2 [(0, .ref 346), (2, .int v2)] [] (I, L, RT b d t, 457) 0 0 (fun v9 u9 => ∃ (I9 : TI), v9 = none ∧ u9 = (I9, L, RT b d t, 457) ∧ Q I9) (fun _ _ => False)) (v2 : Int32) (I : TI)  (h : D_X5_endFactor_2 L Q R2 v2 I) : V G Y_X5_endFactor 2 [(0, .ref 346), (2, .int v2)] [] (I, L, RT b d t, 457) 0 0 (fun v9 u9 => ∃ (I9 : TI), v9 = none ∧ u9 = (I9, L, RT b d t, 457) ∧ Q I9) (fun _ _ => False) := by
  unfold D_X5_endFactor_2 at h
  refine v_aload_n (pc' := 3) 2 0 rfl rfl rfl rfl ?_
  refine v_getI (pc' := 6) 3 rfl rfl pf_X5_22 ly_346 (lay_lt ly_346 (by decide)) ?_
  refine v_if_le (tgt := 45) (pc' := 9) 4 rfl rfl (by decide) (fun hc => ?_) (fun hc => ?_)
  · replace h := h.1 hc
    exact b_X5_endFactor_45 v2 I L Q h
  replace h := h.2 hc
  refine v_aload_n (pc' := 10) 5 0 rfl rfl rfl rfl ?_
  refine v_getR (t := 347) (pc' := 13) 6 rfl rfl pf_X5_9 ly_346 (lay_lt ly_346 (by decide)) rt_346_0 ?_
  refine v_aload_n (pc' := 14) 7 0 rfl rfl rfl rfl ?_
  refine v_getI (pc' := 17) 8 rfl rfl pf_X5_22 ly_346 (lay_lt ly_346 (by decide)) ?_
  refine v_iconst (v := 1) (pc' := 18) 9 rfl rfl (by decide) ?_
  refine v_isub (pc' := 19) 10 rfl rfl ?_
  obtain ⟨hi946, h⟩ := h
  refine v_zald (i := ((I 346 3) - 1)) (j := ((I 346 3) - 1).toNatClampNeg) (pc' := 20) 11 rfl rfl ly_347 ln_347 (lay_lt ly_347 (by decide)) hi946 rfl ?_
  refine v_if_eq (tgt := 45) (pc' := 23) 12 rfl rfl (by decide) (fun hc => ?_) (fun hc => ?_)
  · replace h := h.1 hc
    exact b_X5_endFactor_45 v2 I L Q h
  replace h := h.2 hc
  refine v_aload_n (pc' := 24) 13 0 rfl rfl rfl rfl ?_
  refine v_getI (pc' := 27) 14 rfl rfl pf_X5_26 ly_346 (lay_lt ly_346 (by decide)) ?_
  refine v_iload_n (pc' := 28) 15 1 rfl rfl rfl rfl ?_
  refine v_iconst (v := -1) (pc' := 29) 16 rfl rfl (by decide) ?_
  refine v_ixor (pc' := 30) 17 rfl rfl ?_
  refine v_iand (pc' := 31) 18 rfl rfl ?_
  refine nm_I (e := ((I 346 4) &&& (v2 ^^^ (-1)))) (fun x947 hx947 => ?_)
  replace h := h x947 hx947
  refine v_istore_n (ls' := [(2, .int x947), (0, .ref 346)]) (pc' := 32) 19 rfl rfl rfl (by decide) rfl ?_
  refine v_aload_n (pc' := 33) 20 1 rfl rfl rfl rfl ?_
  refine v_dup (pc' := 34) 21 rfl rfl rfl ?_
  refine v_getI (pc' := 37) 22 rfl rfl pf_X5_22 ly_346 (lay_lt ly_346 (by decide)) ?_
  refine v_iconst (v := 1) (pc' := 38) 23 rfl rfl (by decide) ?_
  refine v_isub (pc' := 39) 24 rfl rfl ?_
  refine v_putI (pc' := 42) 25 rfl rfl pf_X5_22 (fun q => absurd q (by decide)) ly_346 (lay_lt ly_346 (by decide)) ?_
  refine v_goto (tgt := 2) 26 rfl (by decide) ?_
  refine V.sub [1, 0] rfl ?_
  exact hR2 x947 (up2 I 346 3 ((I 346 3) - 1)) h
theorem l_X5_endFactor_2 {G : GT} {b d t : Nat} (L : TL)  (Q : TI → Prop)  : ∀ (n9 : Nat) (v2 : Int32) (I : TI), L_X5_endFactor_2 L Q n9 v2 I → V G Y_X5_endFactor 2 [(0, .ref 346), (2, .int v2)] [] (I, L, RT b d t, 457) 0 0 (fun v9 u9 => ∃ (I9 : TI), v9 = none ∧ u9 = (I9, L, RT b d t, 457) ∧ Q I9) (fun _ _ => False)
  | 0, _, _, h => h.elim
  | n9 + 1, v2, I, h => d_X5_endFactor_2 L Q _ (l_X5_endFactor_2 L Q n9) v2 I h
def W_X5_endFactor (p1 : Int32) (I : TI) (L : TL) (Q : TI → Prop) : Prop :=
  ∃ n948, L_X5_endFactor_2 L Q n948 p1 I
set_option maxHeartbeats 4000000 in
set_option maxRecDepth 100000 in
theorem ok_X5_endFactor {G : GT} {b d t : Nat} (p1 : Int32) (I : TI) (L : TL)  {Q : TI → Prop} (h : W_X5_endFactor p1 I L Q) : MW G Y_X5_endFactor [.ref 346, .int p1] (I, L, RT b d t, 457) (fun v9 u9 => ∃ (I9 : TI), v9 = none ∧ u9 = (I9, L, RT b d t, 457) ∧ Q I9) (fun _ _ => False) := by
  unfold W_X5_endFactor at h
  refine MW.intro rfl (by decide) is_X5_endFactor (Nat.le_of_ble_eq_true rfl) ?_
  show V G Y_X5_endFactor 0 [(0, .ref 346), (1, .int p1)] [] (I, L, RT b d t, 457) 0 0 _ _
  refine v_iload_n (pc' := 1) 0 1 rfl rfl rfl rfl ?_
  refine v_istore_n (ls' := [(2, .int p1), (0, .ref 346), (1, .int p1)]) (pc' := 2) 1 rfl rfl rfl (by decide) rfl ?_
  refine V.sub [1, 0] rfl ?_
  obtain ⟨n948, h⟩ := h
  exact l_X5_endFactor_2 L Q n948 p1 I h
def D_X5_closeParentheses_0 (L : TL) (t : Nat) (Q : TI → Prop) (R0 : TI → Prop) (I : TI) : Prop :=
  ((I 346 3) ≤ 0 → Q I) ∧ (¬ (I 346 3) ≤ 0 → W_X7_isSign (41 : Int32) I L t (fun (r954 : Int32) => (r954 = 0 → Q I) ∧ (¬ r954 = 0 → vp_in ((up2 I 346 3 ((I 346 3) - 1)) 346 3) 6 ∧ (∀ I956 : TI, I956 = (up2 (up2 I 346 3 ((I 346 3) - 1)) 346 5 ((up2 I 346 3 ((I 346 3) - 1)) 348 (((up2 I 346 3 ((I 346 3) - 1)) 346 3).toNatClampNeg))) → (vp_in (I956 346 3) 6 ∧ (W_X5_endFactor ((I 346 5) ||| (I 346 6)) (up2 I956 346 6 (I956 349 ((I956 346 3).toNatClampNeg))) L (fun (I958 : TI) => W_X7_advance I958 L t (fun (I959 : TI) => R0 I959))))))))
def L_X5_closeParentheses_0 (L : TL) (t : Nat) (Q : TI → Prop) : Nat → TI → Prop
  | 0, _ => False
  | n9 + 1, I => D_X5_closeParentheses_0 L t Q (fun I => L_X5_closeParentheses_0 L t Q n9 I) I
set_option maxHeartbeats 4000000 in
set_option maxRecDepth 100000 in
theorem d_X5_closeParentheses_0 {G : GT} {b d : Nat} (L : TL) (t : Nat) (ht : txOK t) (Q : TI → Prop) (R0 : TI → Prop)  (hR0 : ∀ (I : TI), R0 I → V G Y_X5_closeParentheses 0 [(0, .ref 346), (1, .ref 344)] [] (I, L, RT b d t, 457) 0 0 (fun v9 u9 => ∃ (I9 : TI), v9 = none ∧ u9 = (I9, L, RT b d t, 457) ∧ Q I9) (fun _ _ => False)) (I : TI)  (h : D_X5_closeParentheses_0 L t Q R0 I) : V G Y_X5_closeParentheses 0 [(0, .ref 346), (1, .ref 344)] [] (I, L, RT b d t, 457) 0 0 (fun v9 u9 => ∃ (I9 : TI), v9 = none ∧ u9 = (I9, L, RT b d t, 457) ∧ Q I9) (fun _ _ => False) := by
  unfold D_X5_closeParentheses_0 at h
  refine v_aload_n (pc' := 1) 0 0 rfl rfl rfl rfl ?_
  refine v_getI (pc' := 4) 1 rfl rfl pf_X5_22 ly_346 (lay_lt ly_346 (by decide)) ?_
  refine v_if_le (tgt := 74) (pc' := 7) 2 rfl rfl (by decide) (fun hc => ?_) (fun hc => ?_)
  · replace h := h.1 hc
    exact v_vret 39 rfl rfl (by decide) (by decide) ⟨_, rfl, rfl, h⟩
  replace h := h.2 hc
  refine v_aload_n (pc' := 8) 3 1 rfl rfl rfl rfl ?_
  refine v_bipush (v := 41) (pc' := 10) 4 rfl rfl (by decide) ?_
  refine v_cV (Y2 := Y_X7_isSign) (As := [.int 41]) (b := 344) (pc' := 13) (c1 := 0) (s1 := 0) 5 rfl rfl mf_X7_isSign rfl rfl ml_X5_77 mi_X7_isSign se_X7_isSign (ci := 6) rfl ly_344 (lay_lt ly_344 (by decide)) rfl (Nat.le_of_ble_eq_true rfl) ⟨Nat.le_of_ble_eq_true rfl, Nat.le_of_ble_eq_true rfl⟩ rfl rfl (ok_X7_isSign (41 : Int32) I L t ht h) ?_ ?_
  · intro e9 u9 hx9
    exact hx9.elim
  intro v9 u9 hv9
  obtain ⟨r954, rfl, rfl, h⟩ := hv9
  refine ⟨fun q => absurd q (Nat.lt_irrefl _), ?_⟩
  show V G Y_X5_closeParentheses 13 _ (.int r954 :: _) _ _ _ _ _
  refine v_if_eq (tgt := 74) (pc' := 16) 6 rfl rfl (by decide) (fun hc => ?_) (fun hc => ?_)
  · replace h := h.1 hc
    exact v_vret 39 rfl rfl (by decide) (by decide) ⟨_, rfl, rfl, h⟩
  replace h := h.2 hc
  refine v_aload_n (pc' := 17) 7 0 rfl rfl rfl rfl ?_
  refine v_getI (pc' := 20) 8 rfl rfl pf_X5_29 ly_346 (lay_lt ly_346 (by decide)) ?_
  refine v_aload_n (pc' := 21) 9 0 rfl rfl rfl rfl ?_
  refine v_getI (pc' := 24) 10 rfl rfl pf_X5_32 ly_346 (lay_lt ly_346 (by decide)) ?_
  refine v_ior (pc' := 25) 11 rfl rfl ?_
  refine v_istore_n (ls' := [(2, .int ((I 346 5) ||| (I 346 6))), (0, .ref 346), (1, .ref 344)]) (pc' := 26) 12 rfl rfl rfl (by decide) rfl ?_
  refine v_aload_n (pc' := 27) 13 1 rfl rfl rfl rfl ?_
  refine v_dup (pc' := 28) 14 rfl rfl rfl ?_
  refine v_getI (pc' := 31) 15 rfl rfl pf_X5_22 ly_346 (lay_lt ly_346 (by decide)) ?_
  refine v_iconst (v := 1) (pc' := 32) 16 rfl rfl (by decide) ?_
  refine v_isub (pc' := 33) 17 rfl rfl ?_
  refine v_putI (pc' := 36) 18 rfl rfl pf_X5_22 (fun q => absurd q (by decide)) ly_346 (lay_lt ly_346 (by decide)) ?_
  refine v_aload_n (pc' := 37) 19 1 rfl rfl rfl rfl ?_
  refine v_aload_n (pc' := 38) 20 1 rfl rfl rfl rfl ?_
  refine v_getR (t := 348) (pc' := 41) 21 rfl rfl pf_X5_15 ly_346 (lay_lt ly_346 (by decide)) rt_346_1 ?_
  refine v_aload_n (pc' := 42) 22 1 rfl rfl rfl rfl ?_
  refine v_getI (pc' := 45) 23 rfl rfl pf_X5_22 ly_346 (lay_lt ly_346 (by decide)) ?_
  obtain ⟨hi955, h⟩ := h
  refine v_iald (i := ((up2 I 346 3 ((I 346 3) - 1)) 346 3)) (j := ((up2 I 346 3 ((I 346 3) - 1)) 346 3).toNatClampNeg) (pc' := 46) 24 rfl rfl ly_348 ln_348 (lay_lt ly_348 (by decide)) hi955 rfl ?_
  refine v_putI (pc' := 49) 25 rfl rfl pf_X5_29 (fun q => absurd q (by decide)) ly_346 (lay_lt ly_346 (by decide)) ?_
  refine nm_M (e := (up2 (up2 I 346 3 ((I 346 3) - 1)) 346 5 ((up2 I 346 3 ((I 346 3) - 1)) 348 (((up2 I 346 3 ((I 346 3) - 1)) 346 3).toNatClampNeg)))) (fun I956 hI956 => ?_)
  replace h := h I956 hI956
  refine v_aload_n (pc' := 50) 26 1 rfl rfl rfl rfl ?_
  refine v_aload_n (pc' := 51) 27 1 rfl rfl rfl rfl ?_
  refine v_getR (t := 349) (pc' := 54) 28 rfl rfl pf_X5_19 ly_346 (lay_lt ly_346 (by decide)) rt_346_2 ?_
  refine v_aload_n (pc' := 55) 29 1 rfl rfl rfl rfl ?_
  refine v_getI (pc' := 58) 30 rfl rfl pf_X5_22 ly_346 (lay_lt ly_346 (by decide)) ?_
  obtain ⟨hi957, h⟩ := h
  refine v_iald (i := (I956 346 3)) (j := (I956 346 3).toNatClampNeg) (pc' := 59) 31 rfl rfl ly_349 ln_349 (lay_lt ly_349 (by decide)) hi957 rfl ?_
  refine v_putI (pc' := 62) 32 rfl rfl pf_X5_32 (fun q => absurd q (by decide)) ly_346 (lay_lt ly_346 (by decide)) ?_
  refine v_aload_n (pc' := 63) 33 1 rfl rfl rfl rfl ?_
  refine v_iload_n (pc' := 64) 34 0 rfl rfl rfl rfl ?_
  refine v_cV (Y2 := Y_X5_endFactor) (As := [.int ((I 346 5) ||| (I 346 6))]) (b := 346) (pc' := 67) (c1 := 0) (s1 := 0) 35 rfl rfl mf_X5_endFactor rfl rfl ml_X5_58 mi_X5_endFactor se_X5_endFactor (ci := 4) rfl ly_346 (lay_lt ly_346 (by decide)) rfl (Nat.le_of_ble_eq_true rfl) ⟨Nat.le_of_ble_eq_true rfl, Nat.le_of_ble_eq_true rfl⟩ rfl rfl (ok_X5_endFactor ((I 346 5) ||| (I 346 6)) (up2 I956 346 6 (I956 349 ((I956 346 3).toNatClampNeg))) L h) ?_ ?_
  · intro e9 u9 hx9
    exact hx9.elim
  intro v9 u9 hv9
  obtain ⟨I958, rfl, rfl, h⟩ := hv9
  refine ⟨fun q => absurd q (Nat.lt_irrefl _), ?_⟩
  show V G Y_X5_closeParentheses 67 _ _ _ _ _ _ _
  refine v_aload_n (pc' := 68) 36 2 rfl rfl rfl rfl ?_
  refine v_cV (Y2 := Y_X7_advance) (As := []) (b := 344) (pc' := 71) (c1 := 0) (s1 := 0) 37 rfl rfl mf_X7_advance rfl rfl ml_X5_84 mi_X7_advance se_X7_advance (ci := 6) rfl ly_344 (lay_lt ly_344 (by decide)) rfl (Nat.le_of_ble_eq_true rfl) ⟨Nat.le_of_ble_eq_true rfl, Nat.le_of_ble_eq_true rfl⟩ rfl rfl (ok_X7_advance I958 L t ht h) ?_ ?_
  · intro e9 u9 hx9
    exact hx9.elim
  intro v9 u9 hv9
  obtain ⟨I959, rfl, rfl, h⟩ := hv9
  refine ⟨fun q => absurd q (Nat.lt_irrefl _), ?_⟩
  show V G Y_X5_closeParentheses 71 _ _ _ _ _ _ _
  refine v_goto (tgt := 0) 38 rfl (by decide) ?_
  refine V.sub [1, 2] rfl ?_
  exact hR0 I959 h
theorem l_X5_closeParentheses_0 {G : GT} {b d : Nat} (L : TL) (t : Nat) (ht : txOK t) (Q : TI → Prop)  : ∀ (n9 : Nat) (I : TI), L_X5_closeParentheses_0 L t Q n9 I → V G Y_X5_closeParentheses 0 [(0, .ref 346), (1, .ref 344)] [] (I, L, RT b d t, 457) 0 0 (fun v9 u9 => ∃ (I9 : TI), v9 = none ∧ u9 = (I9, L, RT b d t, 457) ∧ Q I9) (fun _ _ => False)
  | 0, _, h => h.elim
  | n9 + 1, I, h => d_X5_closeParentheses_0 L t ht Q _ (l_X5_closeParentheses_0 L t ht Q n9) I h
def W_X5_closeParentheses (I : TI) (L : TL) (t : Nat) (Q : TI → Prop) : Prop :=
  ∃ n960, L_X5_closeParentheses_0 L t Q n960 I
set_option maxHeartbeats 4000000 in
set_option maxRecDepth 100000 in
theorem ok_X5_closeParentheses {G : GT} {b d : Nat} (I : TI) (L : TL) (t : Nat) (ht : txOK t) {Q : TI → Prop} (h : W_X5_closeParentheses I L t Q) : MW G Y_X5_closeParentheses [.ref 346, .ref 344] (I, L, RT b d t, 457) (fun v9 u9 => ∃ (I9 : TI), v9 = none ∧ u9 = (I9, L, RT b d t, 457) ∧ Q I9) (fun _ _ => False) := by
  unfold W_X5_closeParentheses at h
  refine MW.intro rfl (by decide) is_X5_closeParentheses (Nat.le_of_ble_eq_true rfl) ?_
  show V G Y_X5_closeParentheses 0 [(0, .ref 346), (1, .ref 344)] [] (I, L, RT b d t, 457) 0 0 _ _
  obtain ⟨n960, h⟩ := h
  exact l_X5_closeParentheses_0 L t ht Q n960 I h
def B_X5_goesOn_65 (I : TI) (L : TL) (t : Nat) (Q : Int32 → TI → Prop) : Prop :=
  W_X7_fail (1 : Int32) I L (fun (I970 : TI) => Q 0 I970)
set_option maxHeartbeats 4000000 in
set_option maxRecDepth 100000 in
theorem b_X5_goesOn_65 {G : GT} {b d : Nat} (I : TI) (L : TL) (t : Nat) (ht : txOK t) (Q : Int32 → TI → Prop)  (h : B_X5_goesOn_65 I L t Q) : V G Y_X5_goesOn 65 [(1, .ref 344)] [] (I, L, RT b d t, 457) 0 0 (fun v9 u9 => ∃ (r9 : Int32) (I9 : TI), v9 = some (.int r9) ∧ u9 = (I9, L, RT b d t, 457) ∧ Q r9 I9) (fun _ _ => False) := by
  unfold B_X5_goesOn_65 at h
  refine v_aload_n (pc' := 66) 33 0 rfl rfl rfl rfl ?_
  refine v_iconst (v := 1) (pc' := 67) 34 rfl rfl (by decide) ?_
  refine v_cV (Y2 := Y_X7_fail) (As := [.int 1]) (b := 344) (pc' := 70) (c1 := 0) (s1 := 0) 35 rfl rfl mf_X7_fail rfl rfl ml_X5_81 mi_X7_fail se_X7_fail (ci := 6) rfl ly_344 (lay_lt ly_344 (by decide)) rfl (Nat.le_of_ble_eq_true rfl) ⟨Nat.le_of_ble_eq_true rfl, Nat.le_of_ble_eq_true rfl⟩ rfl rfl (ok_X7_fail (1 : Int32) I L h) ?_ ?_
  · intro e9 u9 hx9
    exact hx9.elim
  intro v9 u9 hv9
  obtain ⟨I970, rfl, rfl, h⟩ := hv9
  refine ⟨fun q => absurd q (Nat.lt_irrefl _), ?_⟩
  show V G Y_X5_goesOn 70 _ _ _ _ _ _ _
  refine v_iconst (v := 0) (pc' := 71) 36 rfl rfl (by decide) ?_
  exact v_bret 37 rfl rfl (by decide) (by decide) (by decide) ⟨_, _, rfl, rfl, h⟩
def B_X5_goesOn_45 (I : TI) (L : TL) (t : Nat) (Q : Int32 → TI → Prop) : Prop :=
  W_X7_advance I L t (fun (I971 : TI) => Q 1 I971)
set_option maxHeartbeats 4000000 in
set_option maxRecDepth 100000 in
theorem b_X5_goesOn_45 {G : GT} {b d : Nat} (I : TI) (L : TL) (t : Nat) (ht : txOK t) (Q : Int32 → TI → Prop)  (h : B_X5_goesOn_45 I L t Q) : V G Y_X5_goesOn 45 [(1, .ref 344)] [] (I, L, RT b d t, 457) 0 0 (fun v9 u9 => ∃ (r9 : Int32) (I9 : TI), v9 = some (.int r9) ∧ u9 = (I9, L, RT b d t, 457) ∧ Q r9 I9) (fun _ _ => False) := by
  unfold B_X5_goesOn_45 at h
  refine v_aload_n (pc' := 46) 23 0 rfl rfl rfl rfl ?_
  refine v_cV (Y2 := Y_X7_advance) (As := []) (b := 344) (pc' := 49) (c1 := 0) (s1 := 0) 24 rfl rfl mf_X7_advance rfl rfl ml_X5_84 mi_X7_advance se_X7_advance (ci := 6) rfl ly_344 (lay_lt ly_344 (by decide)) rfl (Nat.le_of_ble_eq_true rfl) ⟨Nat.le_of_ble_eq_true rfl, Nat.le_of_ble_eq_true rfl⟩ rfl rfl (ok_X7_advance I L t ht h) ?_ ?_
  · intro e9 u9 hx9
    exact hx9.elim
  intro v9 u9 hv9
  obtain ⟨I971, rfl, rfl, h⟩ := hv9
  refine ⟨fun q => absurd q (Nat.lt_irrefl _), ?_⟩
  show V G Y_X5_goesOn 49 _ _ _ _ _ _ _
  refine v_iconst (v := 1) (pc' := 50) 25 rfl rfl (by decide) ?_
  exact v_bret 26 rfl rfl (by decide) (by decide) (by decide) ⟨_, _, rfl, rfl, h⟩
def B_X5_goesOn_20 (v2 : Int32) (I : TI) (L : TL) (t : Nat) (Q : Int32 → TI → Prop) : Prop :=
  (¬ v2 = 0 → B_X5_goesOn_45 I L t Q) ∧ (v2 = 0 → ∀ I972 : TI, I972 = (up2 (up2 I 346 5 ((I 346 5) ||| (I 346 6))) 346 6 ((up2 I 346 5 ((I 346 5) ||| (I 346 6))) 346 4)) → (B_X5_goesOn_45 I972 L t Q))
set_option maxHeartbeats 4000000 in
set_option maxRecDepth 100000 in
theorem b_X5_goesOn_20 {G : GT} {b d : Nat} (v2 : Int32) (I : TI) (L : TL) (t : Nat) (ht : txOK t) (Q : Int32 → TI → Prop)  (h : B_X5_goesOn_20 v2 I L t Q) : V G Y_X5_goesOn 20 [(0, .ref 346), (1, .ref 344), (2, .int v2)] [] (I, L, RT b d t, 457) 0 0 (fun v9 u9 => ∃ (r9 : Int32) (I9 : TI), v9 = some (.int r9) ∧ u9 = (I9, L, RT b d t, 457) ∧ Q r9 I9) (fun _ _ => False) := by
  unfold B_X5_goesOn_20 at h
  refine v_iload_n (pc' := 21) 10 2 rfl rfl rfl rfl ?_
  refine v_if_ne (tgt := 45) (pc' := 24) 11 rfl rfl (by decide) (fun hc => ?_) (fun hc => ?_)
  · replace h := h.1 hc
    refine V.sub [1] rfl ?_
    exact b_X5_goesOn_45 I L t ht Q h
  replace h := h.2 hc
  refine v_aload_n (pc' := 25) 12 0 rfl rfl rfl rfl ?_
  refine v_dup (pc' := 26) 13 rfl rfl rfl ?_
  refine v_getI (pc' := 29) 14 rfl rfl pf_X5_29 ly_346 (lay_lt ly_346 (by decide)) ?_
  refine v_aload_n (pc' := 30) 15 0 rfl rfl rfl rfl ?_
  refine v_getI (pc' := 33) 16 rfl rfl pf_X5_32 ly_346 (lay_lt ly_346 (by decide)) ?_
  refine v_ior (pc' := 34) 17 rfl rfl ?_
  refine v_putI (pc' := 37) 18 rfl rfl pf_X5_29 (fun q => absurd q (by decide)) ly_346 (lay_lt ly_346 (by decide)) ?_
  refine v_aload_n (pc' := 38) 19 0 rfl rfl rfl rfl ?_
  refine v_aload_n (pc' := 39) 20 0 rfl rfl rfl rfl ?_
  refine v_getI (pc' := 42) 21 rfl rfl pf_X5_26 ly_346 (lay_lt ly_346 (by decide)) ?_
  refine v_putI (pc' := 45) 22 rfl rfl pf_X5_32 (fun q => absurd q (by decide)) ly_346 (lay_lt ly_346 (by decide)) ?_
  refine nm_M (e := (up2 (up2 I 346 5 ((I 346 5) ||| (I 346 6))) 346 6 ((up2 I 346 5 ((I 346 5) ||| (I 346 6))) 346 4))) (fun I972 hI972 => ?_)
  replace h := h I972 hI972
  refine V.sub [1] rfl ?_
  exact b_X5_goesOn_45 I972 L t ht Q h
def W_X5_goesOn (I : TI) (L : TL) (t : Nat) (Q : Int32 → TI → Prop) : Prop :=
  W_X7_isWord 462 I L t (fun (r973 : Int32) => (¬ r973 = 0 → B_X5_goesOn_20 r973 I L t Q) ∧ (r973 = 0 → W_X7_isWord 463 I L t (fun (r974 : Int32) => (r974 = 0 → (0 < (I 346 3) → B_X5_goesOn_65 I L t Q) ∧ (¬ 0 < (I 346 3) → W_X7_isEnd I L (fun (r975 : Int32) => (¬ r975 = 0 → Q 0 I) ∧ (r975 = 0 → B_X5_goesOn_65 I L t Q)))) ∧ (¬ r974 = 0 → B_X5_goesOn_20 r973 I L t Q))))
set_option maxHeartbeats 4000000 in
set_option maxRecDepth 100000 in
theorem ok_X5_goesOn {G : GT} {b d : Nat} (I : TI) (L : TL) (t : Nat) (ht : txOK t) {Q : Int32 → TI → Prop} (h : W_X5_goesOn I L t Q) : MW G Y_X5_goesOn [.ref 346, .ref 344] (I, L, RT b d t, 457) (fun v9 u9 => ∃ (r9 : Int32) (I9 : TI), v9 = some (.int r9) ∧ u9 = (I9, L, RT b d t, 457) ∧ Q r9 I9) (fun _ _ => False) := by
  unfold W_X5_goesOn at h
  refine MW.intro rfl (by decide) is_X5_goesOn (Nat.le_of_ble_eq_true rfl) ?_
  show V G Y_X5_goesOn 0 [(0, .ref 346), (1, .ref 344)] [] (I, L, RT b d t, 457) 0 0 _ _
  refine v_aload_n (pc' := 1) 0 1 rfl rfl rfl rfl ?_
  refine v_ldcS (pc' := 3) 1 rfl rfl sr_X5_87 ?_
  refine v_cV (Y2 := Y_X7_isWord) (As := [.ref 462]) (b := 344) (pc' := 6) (c1 := 0) (s1 := 0) 2 rfl rfl mf_X7_isWord rfl rfl ml_X5_71 mi_X7_isWord se_X7_isWord (ci := 6) rfl ly_344 (lay_lt ly_344 (by decide)) rfl (Nat.le_of_ble_eq_true rfl) ⟨Nat.le_of_ble_eq_true rfl, Nat.le_of_ble_eq_true rfl⟩ rfl rfl (ok_X7_isWord 462 I L t ht h) ?_ ?_
  · intro e9 u9 hx9
    exact hx9.elim
  intro v9 u9 hv9
  obtain ⟨r973, rfl, rfl, h⟩ := hv9
  refine ⟨fun q => absurd q (Nat.lt_irrefl _), ?_⟩
  show V G Y_X5_goesOn 6 _ (.int r973 :: _) _ _ _ _ _
  refine v_istore_n (ls' := [(2, .int r973), (0, .ref 346), (1, .ref 344)]) (pc' := 7) 3 rfl rfl rfl (by decide) rfl ?_
  refine v_iload_n (pc' := 8) 4 0 rfl rfl rfl rfl ?_
  refine v_if_ne (tgt := 20) (pc' := 11) 5 rfl rfl (by decide) (fun hc => ?_) (fun hc => ?_)
  · replace h := h.1 hc
    refine V.sub [1, 2, 0] rfl ?_
    exact b_X5_goesOn_20 r973 I L t ht Q h
  replace h := h.2 hc
  refine v_aload_n (pc' := 12) 6 2 rfl rfl rfl rfl ?_
  refine v_ldcS (pc' := 14) 7 rfl rfl sr_X5_89 ?_
  refine v_cV (Y2 := Y_X7_isWord) (As := [.ref 463]) (b := 344) (pc' := 17) (c1 := 0) (s1 := 0) 8 rfl rfl mf_X7_isWord rfl rfl ml_X5_71 mi_X7_isWord se_X7_isWord (ci := 6) rfl ly_344 (lay_lt ly_344 (by decide)) rfl (Nat.le_of_ble_eq_true rfl) ⟨Nat.le_of_ble_eq_true rfl, Nat.le_of_ble_eq_true rfl⟩ rfl rfl (ok_X7_isWord 463 I L t ht h) ?_ ?_
  · intro e9 u9 hx9
    exact hx9.elim
  intro v9 u9 hv9
  obtain ⟨r974, rfl, rfl, h⟩ := hv9
  refine ⟨fun q => absurd q (Nat.lt_irrefl _), ?_⟩
  show V G Y_X5_goesOn 17 _ (.int r974 :: _) _ _ _ _ _
  refine v_if_eq (tgt := 51) (pc' := 20) 9 rfl rfl (by decide) (fun hc => ?_) (fun hc => ?_)
  · replace h := h.1 hc
    refine v_aload_n (pc' := 52) 27 1 rfl rfl rfl rfl ?_
    refine v_getI (pc' := 55) 28 rfl rfl pf_X5_22 ly_346 (lay_lt ly_346 (by decide)) ?_
    refine v_if_gt (tgt := 65) (pc' := 58) 29 rfl rfl (by decide) (fun hc => ?_) (fun hc => ?_)
    · replace h := h.1 hc
      refine V.sub [2] rfl ?_
      exact b_X5_goesOn_65 I L t ht Q h
    replace h := h.2 hc
    refine v_aload_n (pc' := 59) 30 2 rfl rfl rfl rfl ?_
    refine v_cV (Y2 := Y_X7_isEnd) (As := []) (b := 344) (pc' := 62) (c1 := 0) (s1 := 0) 31 rfl rfl mf_X7_isEnd rfl rfl ml_X5_91 mi_X7_isEnd se_X7_isEnd (ci := 6) rfl ly_344 (lay_lt ly_344 (by decide)) rfl (Nat.le_of_ble_eq_true rfl) ⟨Nat.le_of_ble_eq_true rfl, Nat.le_of_ble_eq_true rfl⟩ rfl rfl (ok_X7_isEnd I L h) ?_ ?_
    · intro e9 u9 hx9
      exact hx9.elim
    intro v9 u9 hv9
    obtain ⟨r975, rfl, rfl, h⟩ := hv9
    refine ⟨fun q => absurd q (Nat.lt_irrefl _), ?_⟩
    show V G Y_X5_goesOn 62 _ (.int r975 :: _) _ _ _ _ _
    refine v_if_ne (tgt := 70) (pc' := 65) 32 rfl rfl (by decide) (fun hc => ?_) (fun hc => ?_)
    · replace h := h.1 hc
      refine v_iconst (v := 0) (pc' := 71) 36 rfl rfl (by decide) ?_
      exact v_bret 37 rfl rfl (by decide) (by decide) (by decide) ⟨_, _, rfl, rfl, h⟩
    replace h := h.2 hc
    refine V.sub [2] rfl ?_
    exact b_X5_goesOn_65 I L t ht Q h
  replace h := h.2 hc
  refine V.sub [1, 2, 0] rfl ?_
  exact b_X5_goesOn_20 r973 I L t ht Q h
def B_X5_netsOf_73 (p2 : Nat) (I : TI) (L : TL) (t : Nat) (Q : Int32 → TI → Prop) : Prop :=
  Q ((I 346 5) ||| (I 346 6)) I
set_option maxHeartbeats 4000000 in
set_option maxRecDepth 100000 in
theorem b_X5_netsOf_73 {G : GT} {b d : Nat} (p2 : Nat) (I : TI) (L : TL) (t : Nat) (hp2 : bnOK p2) (ht : txOK t) (Q : Int32 → TI → Prop)  (h : B_X5_netsOf_73 p2 I L t Q) : V G Y_X5_netsOf 73 [(0, .ref 346)] [] (I, L, RT b d t, 457) 0 0 (fun v9 u9 => ∃ (r9 : Int32) (I9 : TI), v9 = some (.int r9) ∧ u9 = (I9, L, RT b d t, 457) ∧ Q r9 I9) (fun _ _ => False) := by
  unfold B_X5_netsOf_73 at h
  refine v_aload_n (pc' := 74) 41 0 rfl rfl rfl rfl ?_
  refine v_getI (pc' := 77) 42 rfl rfl pf_X5_29 ly_346 (lay_lt ly_346 (by decide)) ?_
  refine v_aload_n (pc' := 78) 43 0 rfl rfl rfl rfl ?_
  refine v_getI (pc' := 81) 44 rfl rfl pf_X5_32 ly_346 (lay_lt ly_346 (by decide)) ?_
  refine v_ior (pc' := 82) 45 rfl rfl ?_
  exact v_iret 46 rfl rfl (by decide) (by decide) ⟨_, _, rfl, rfl, h⟩
def D_X5_netsOf_29 (p2 : Nat) (L : TL) (t : Nat) (Q : Int32 → TI → Prop) (R29 : Int32 → Int32 → TI → Prop) (v3 : Int32) (v4 : Int32) (I : TI) : Prop :=
  (v3 = 0 → B_X5_netsOf_73 p2 I L t Q) ∧ (¬ v3 = 0 → (200 < v4 → B_X5_netsOf_73 p2 I L t Q) ∧ (¬ 200 < v4 → W_X5_openFactors I L t (fun (I994 : TI) => W_X5_comparison p2 I994 L t (fun (r995 : Int32) (I996 : TI) => W_X5_endFactor r995 I996 L (fun (I997 : TI) => W_X5_closeParentheses I997 L t (fun (I998 : TI) => W_X5_goesOn I998 L t (fun (r999 : Int32) (I1000 : TI) => R29 r999 (v4 + 1) I1000)))))))
def L_X5_netsOf_29 (p2 : Nat) (L : TL) (t : Nat) (Q : Int32 → TI → Prop) : Nat → Int32 → Int32 → TI → Prop
  | 0, _, _, _ => False
  | n9 + 1, v3, v4, I => D_X5_netsOf_29 p2 L t Q (fun v3 v4 I => L_X5_netsOf_29 p2 L t Q n9 v3 v4 I) v3 v4 I
set_option maxHeartbeats 4000000 in
set_option maxRecDepth 100000 in
theorem d_X5_netsOf_29 {G : GT} {b d : Nat} (p2 : Nat) (L : TL) (t : Nat) (hp2 : bnOK p2) (ht : txOK t) (Q : Int32 → TI → Prop) (R29 : Int32 → Int32 → TI → Prop)  (hR29 : ∀ (v3 : Int32) (v4 : Int32) (I : TI), R29 v3 v4 I → V G Y_X5_netsOf 29 [(0, .ref 346), (1, .ref 344), (2, .ref p2), (3, .int v3), (4, .int v4)] [] (I, L, RT b d t, 457) 0 0 (fun v9 u9 => ∃ (r9 : Int32) (I9 : TI), v9 = some (.int r9) ∧ u9 = (I9, L, RT b d t, 457) ∧ Q r9 I9) (fun _ _ => False)) (v3 : Int32) (v4 : Int32) (I : TI)  (h : D_X5_netsOf_29 p2 L t Q R29 v3 v4 I) : V G Y_X5_netsOf 29 [(0, .ref 346), (1, .ref 344), (2, .ref p2), (3, .int v3), (4, .int v4)] [] (I, L, RT b d t, 457) 0 0 (fun v9 u9 => ∃ (r9 : Int32) (I9 : TI), v9 = some (.int r9) ∧ u9 = (I9, L, RT b d t, 457) ∧ Q r9 I9) (fun _ _ => False) := by
  unfold D_X5_netsOf_29 at h
  refine v_iload_n (pc' := 30) 18 3 rfl rfl rfl rfl ?_
  refine v_if_eq (tgt := 73) (pc' := 33) 19 rfl rfl (by decide) (fun hc => ?_) (fun hc => ?_)
  · replace h := h.1 hc
    refine V.sub [0] rfl ?_
    exact b_X5_netsOf_73 p2 I L t hp2 ht Q h
  replace h := h.2 hc
  refine v_iload (pc' := 35) 20 4 rfl rfl rfl ?_
  refine v_sipush (v := 200) (pc' := 38) 21 rfl rfl (by decide) ?_
  refine v_icmp_gt (tgt := 73) (pc' := 41) 22 rfl rfl (by decide) (fun hc => ?_) (fun hc => ?_)
  · replace h := h.1 hc
    refine V.sub [0] rfl ?_
    exact b_X5_netsOf_73 p2 I L t hp2 ht Q h
  replace h := h.2 hc
  refine v_aload_n (pc' := 42) 23 0 rfl rfl rfl rfl ?_
  refine v_aload_n (pc' := 43) 24 1 rfl rfl rfl rfl ?_
  refine v_cV (Y2 := Y_X5_openFactors) (As := [.ref 344]) (b := 346) (pc' := 46) (c1 := 0) (s1 := 0) 25 rfl rfl mf_X5_openFactors rfl rfl ml_X5_50 mi_X5_openFactors se_X5_openFactors (ci := 4) rfl ly_346 (lay_lt ly_346 (by decide)) rfl (Nat.le_of_ble_eq_true rfl) ⟨Nat.le_of_ble_eq_true rfl, Nat.le_of_ble_eq_true rfl⟩ rfl rfl (ok_X5_openFactors I L t ht h) ?_ ?_
  · intro e9 u9 hx9
    exact hx9.elim
  intro v9 u9 hv9
  obtain ⟨I994, rfl, rfl, h⟩ := hv9
  refine ⟨fun q => absurd q (Nat.lt_irrefl _), ?_⟩
  show V G Y_X5_netsOf 46 _ _ _ _ _ _ _
  refine v_aload_n (pc' := 47) 26 0 rfl rfl rfl rfl ?_
  refine v_aload_n (pc' := 48) 27 0 rfl rfl rfl rfl ?_
  refine v_aload_n (pc' := 49) 28 1 rfl rfl rfl rfl ?_
  refine v_aload_n (pc' := 50) 29 2 rfl rfl rfl rfl ?_
  refine v_cV (Y2 := Y_X5_comparison) (As := [.ref 344, .ref p2]) (b := 346) (pc' := 53) (c1 := 0) (s1 := 0) 30 rfl rfl mf_X5_comparison rfl rfl ml_X5_54 mi_X5_comparison se_X5_comparison (ci := 4) rfl ly_346 (lay_lt ly_346 (by decide)) rfl (Nat.le_of_ble_eq_true rfl) ⟨Nat.le_of_ble_eq_true rfl, Nat.le_of_ble_eq_true rfl⟩ rfl rfl (ok_X5_comparison p2 I994 L t hp2 ht h) ?_ ?_
  · intro e9 u9 hx9
    exact hx9.elim
  intro v9 u9 hv9
  obtain ⟨r995, I996, rfl, rfl, h⟩ := hv9
  refine ⟨fun q => absurd q (Nat.lt_irrefl _), ?_⟩
  show V G Y_X5_netsOf 53 _ (.int r995 :: _) _ _ _ _ _
  refine v_cV (Y2 := Y_X5_endFactor) (As := [.int r995]) (b := 346) (pc' := 56) (c1 := 0) (s1 := 0) 31 rfl rfl mf_X5_endFactor rfl rfl ml_X5_58 mi_X5_endFactor se_X5_endFactor (ci := 4) rfl ly_346 (lay_lt ly_346 (by decide)) rfl (Nat.le_of_ble_eq_true rfl) ⟨Nat.le_of_ble_eq_true rfl, Nat.le_of_ble_eq_true rfl⟩ rfl rfl (ok_X5_endFactor r995 I996 L h) ?_ ?_
  · intro e9 u9 hx9
    exact hx9.elim
  intro v9 u9 hv9
  obtain ⟨I997, rfl, rfl, h⟩ := hv9
  refine ⟨fun q => absurd q (Nat.lt_irrefl _), ?_⟩
  show V G Y_X5_netsOf 56 _ _ _ _ _ _ _
  refine v_aload_n (pc' := 57) 32 0 rfl rfl rfl rfl ?_
  refine v_aload_n (pc' := 58) 33 1 rfl rfl rfl rfl ?_
  refine v_cV (Y2 := Y_X5_closeParentheses) (As := [.ref 344]) (b := 346) (pc' := 61) (c1 := 0) (s1 := 0) 34 rfl rfl mf_X5_closeParentheses rfl rfl ml_X5_62 mi_X5_closeParentheses se_X5_closeParentheses (ci := 4) rfl ly_346 (lay_lt ly_346 (by decide)) rfl (Nat.le_of_ble_eq_true rfl) ⟨Nat.le_of_ble_eq_true rfl, Nat.le_of_ble_eq_true rfl⟩ rfl rfl (ok_X5_closeParentheses I997 L t ht h) ?_ ?_
  · intro e9 u9 hx9
    exact hx9.elim
  intro v9 u9 hv9
  obtain ⟨I998, rfl, rfl, h⟩ := hv9
  refine ⟨fun q => absurd q (Nat.lt_irrefl _), ?_⟩
  show V G Y_X5_netsOf 61 _ _ _ _ _ _ _
  refine v_aload_n (pc' := 62) 35 0 rfl rfl rfl rfl ?_
  refine v_aload_n (pc' := 63) 36 1 rfl rfl rfl rfl ?_
  refine v_cV (Y2 := Y_X5_goesOn) (As := [.ref 344]) (b := 346) (pc' := 66) (c1 := 0) (s1 := 0) 37 rfl rfl mf_X5_goesOn rfl rfl ml_X5_65 mi_X5_goesOn se_X5_goesOn (ci := 4) rfl ly_346 (lay_lt ly_346 (by decide)) rfl (Nat.le_of_ble_eq_true rfl) ⟨Nat.le_of_ble_eq_true rfl, Nat.le_of_ble_eq_true rfl⟩ rfl rfl (ok_X5_goesOn I998 L t ht h) ?_ ?_
  · intro e9 u9 hx9
    exact hx9.elim
  intro v9 u9 hv9
  obtain ⟨r999, I1000, rfl, rfl, h⟩ := hv9
  refine ⟨fun q => absurd q (Nat.lt_irrefl _), ?_⟩
  show V G Y_X5_netsOf 66 _ (.int r999 :: _) _ _ _ _ _
  refine v_istore_n (ls' := [(3, .int r999), (0, .ref 346), (1, .ref 344), (2, .ref p2), (4, .int v4)]) (pc' := 67) 38 rfl rfl rfl (by decide) rfl ?_
  refine v_iinc (v := (v4 + 1)) (ls' := [(4, .int (v4 + 1)), (3, .int r999), (0, .ref 346), (1, .ref 344), (2, .ref p2)]) (pc' := 70) 39 4 rfl rfl rfl rfl (by decide) rfl ?_
  refine v_goto (tgt := 29) 40 rfl (by decide) ?_
  refine V.sub [2, 3, 4, 1, 0] rfl ?_
  exact hR29 r999 (v4 + 1) I1000 h
theorem l_X5_netsOf_29 {G : GT} {b d : Nat} (p2 : Nat) (L : TL) (t : Nat) (hp2 : bnOK p2) (ht : txOK t) (Q : Int32 → TI → Prop)  : ∀ (n9 : Nat) (v3 : Int32) (v4 : Int32) (I : TI), L_X5_netsOf_29 p2 L t Q n9 v3 v4 I → V G Y_X5_netsOf 29 [(0, .ref 346), (1, .ref 344), (2, .ref p2), (3, .int v3), (4, .int v4)] [] (I, L, RT b d t, 457) 0 0 (fun v9 u9 => ∃ (r9 : Int32) (I9 : TI), v9 = some (.int r9) ∧ u9 = (I9, L, RT b d t, 457) ∧ Q r9 I9) (fun _ _ => False)
  | 0, _, _, _, h => h.elim
  | n9 + 1, v3, v4, I, h => d_X5_netsOf_29 p2 L t hp2 ht Q _ (l_X5_netsOf_29 p2 L t hp2 ht Q n9) v3 v4 I h
def W_X5_netsOf (p2 : Nat) (I : TI) (L : TL) (t : Nat) (Q : Int32 → TI → Prop) : Prop :=
  W_X2_nets (p2 + 1) I L (fun (r1001 : Int32) => ∀ I1002 : TI, I1002 = (up2 (up2 I 346 4 (((1 : Int32) <<< (r1001 &&& 31)) - 1)) 346 3 0) → (W_X5_beginTest I1002 L (fun (I1003 : TI) => ∃ n1004, L_X5_netsOf_29 p2 L t Q n1004 (1 : Int32) (0 : Int32) I1003)))
set_option maxHeartbeats 4000000 in
set_option maxRecDepth 100000 in
theorem ok_X5_netsOf {G : GT} {b d : Nat} (p2 : Nat) (I : TI) (L : TL) (t : Nat) (hp2 : bnOK p2) (ht : txOK t) {Q : Int32 → TI → Prop} (h : W_X5_netsOf p2 I L t Q) : MW G Y_X5_netsOf [.ref 346, .ref 344, .ref p2] (I, L, RT b d t, 457) (fun v9 u9 => ∃ (r9 : Int32) (I9 : TI), v9 = some (.int r9) ∧ u9 = (I9, L, RT b d t, 457) ∧ Q r9 I9) (fun _ _ => False) := by
  unfold W_X5_netsOf at h
  refine MW.intro rfl (by decide) is_X5_netsOf (Nat.le_of_ble_eq_true rfl) ?_
  show V G Y_X5_netsOf 0 [(0, .ref 346), (1, .ref 344), (2, .ref p2)] [] (I, L, RT b d t, 457) 0 0 _ _
  refine v_aload_n (pc' := 1) 0 0 rfl rfl rfl rfl ?_
  refine v_iconst (v := 1) (pc' := 2) 1 rfl rfl (by decide) ?_
  refine v_aload_n (pc' := 3) 2 2 rfl rfl rfl rfl ?_
  refine v_getR (t := (p2 + 1)) (pc' := 6) 3 rfl rfl pf_X5_35 (bn0l hp2) (lay_lt (bn0l hp2) (by decide)) (rt_bn_0 hp2) ?_
  refine v_cV (Y2 := Y_X2_nets) (As := []) (b := (p2 + 1)) (pc' := 9) (c1 := 0) (s1 := 0) 4 rfl rfl mf_X2_nets rfl rfl ml_X5_41 mi_X2_nets se_X2_nets (ci := 1) rfl (bn1l hp2) (lay_lt (bn1l hp2) (by decide)) rfl (Nat.le_of_ble_eq_true rfl) ⟨Nat.le_of_ble_eq_true rfl, Nat.le_of_ble_eq_true rfl⟩ rfl rfl (ok_X2_nets (p2 + 1) I L (bn_ck hp2) h) ?_ ?_
  · intro e9 u9 hx9
    exact hx9.elim
  intro v9 u9 hv9
  obtain ⟨r1001, rfl, rfl, h⟩ := hv9
  refine ⟨fun q => absurd q (Nat.lt_irrefl _), ?_⟩
  show V G Y_X5_netsOf 9 _ (.int r1001 :: _) _ _ _ _ _
  refine v_ishl (pc' := 10) 5 rfl rfl ?_
  refine v_iconst (v := 1) (pc' := 11) 6 rfl rfl (by decide) ?_
  refine v_isub (pc' := 12) 7 rfl rfl ?_
  refine v_putI (pc' := 15) 8 rfl rfl pf_X5_26 (fun q => absurd q (by decide)) ly_346 (lay_lt ly_346 (by decide)) ?_
  refine v_aload_n (pc' := 16) 9 0 rfl rfl rfl rfl ?_
  refine v_iconst (v := 0) (pc' := 17) 10 rfl rfl (by decide) ?_
  refine v_putI (pc' := 20) 11 rfl rfl pf_X5_22 (fun q => absurd q (by decide)) ly_346 (lay_lt ly_346 (by decide)) ?_
  refine nm_M (e := (up2 (up2 I 346 4 (((1 : Int32) <<< (r1001 &&& 31)) - 1)) 346 3 0)) (fun I1002 hI1002 => ?_)
  replace h := h I1002 hI1002
  refine v_aload_n (pc' := 21) 12 0 rfl rfl rfl rfl ?_
  refine v_cV (Y2 := Y_X5_beginTest) (As := []) (b := 346) (pc' := 24) (c1 := 0) (s1 := 0) 13 rfl rfl mf_X5_beginTest rfl rfl ml_X5_47 mi_X5_beginTest se_X5_beginTest (ci := 4) rfl ly_346 (lay_lt ly_346 (by decide)) rfl (Nat.le_of_ble_eq_true rfl) ⟨Nat.le_of_ble_eq_true rfl, Nat.le_of_ble_eq_true rfl⟩ rfl rfl (ok_X5_beginTest I1002 L h) ?_ ?_
  · intro e9 u9 hx9
    exact hx9.elim
  intro v9 u9 hv9
  obtain ⟨I1003, rfl, rfl, h⟩ := hv9
  refine ⟨fun q => absurd q (Nat.lt_irrefl _), ?_⟩
  show V G Y_X5_netsOf 24 _ _ _ _ _ _ _
  refine v_iconst (v := 1) (pc' := 25) 14 rfl rfl (by decide) ?_
  refine v_istore_n (ls' := [(3, .int 1), (0, .ref 346), (1, .ref 344), (2, .ref p2)]) (pc' := 26) 15 rfl rfl rfl (by decide) rfl ?_
  refine v_iconst (v := 0) (pc' := 27) 16 rfl rfl (by decide) ?_
  refine v_istore (ls' := [(4, .int 0), (3, .int 1), (0, .ref 346), (1, .ref 344), (2, .ref p2)]) (pc' := 29) 17 rfl rfl (by decide) rfl ?_
  refine V.sub [2, 3, 4, 1, 0] rfl ?_
  obtain ⟨n1004, h⟩ := h
  exact l_X5_netsOf_29 p2 L t hp2 ht Q n1004 (1 : Int32) (0 : Int32) I1003 h
def W_X6_timeState (p0 : Nat) (p1 : Int32) (p2 : Int32) (I : TI) (L : TL) (Q : Int32 → Prop) : Prop :=
  vp_in p1 16 ∧ (W_X8_bitOf (L (p0 + 6) (p1.toNatClampNeg)) p2 I L (fun (r1010 : Int32) => (¬ r1010 = 1 → vp_in p1 16 ∧ (W_X8_bitOf (L (p0 + 7) (p1.toNatClampNeg)) p2 I L (fun (r1012 : Int32) => Q r1012))) ∧ (r1010 = 1 → Q 2)))
set_option maxHeartbeats 4000000 in
set_option maxRecDepth 100000 in
theorem ok_X6_timeState {G : GT} {b d t : Nat} (p0 : Nat) (p1 : Int32) (p2 : Int32) (I : TI) (L : TL) (hp0 : stOK p0) {Q : Int32 → Prop} (h : W_X6_timeState p0 p1 p2 I L Q) : MW G Y_X6_timeState [.ref p0, .int p1, .int p2] (I, L, RT b d t, 457) (fun v9 u9 => ∃ (r9 : Int32), v9 = some (.int r9) ∧ u9 = (I, L, RT b d t, 457) ∧ Q r9) (fun _ _ => False) := by
  unfold W_X6_timeState at h
  refine MW.intro rfl (by decide) is_X6_timeState (Nat.le_of_ble_eq_true rfl) ?_
  show V G Y_X6_timeState 0 [(0, .ref p0), (1, .int p1), (2, .int p2)] [] (I, L, RT b d t, 457) 0 0 _ _
  refine v_aload_n (pc' := 1) 0 0 rfl rfl rfl rfl ?_
  refine v_getR (t := (p0 + 6)) (pc' := 4) 1 rfl rfl pf_X6_20 (st0l hp0) (lay_lt (st0l hp0) (by decide)) (rt_st_2 hp0) ?_
  refine v_iload_n (pc' := 5) 2 1 rfl rfl rfl rfl ?_
  obtain ⟨hi1009, h⟩ := h
  refine v_lald (i := p1) (j := p1.toNatClampNeg) (pc' := 6) 3 rfl rfl (st6l hp0) (st6n hp0) (lay_lt (st6l hp0) (by decide)) hi1009 rfl ?_
  refine v_iload_n (pc' := 7) 4 2 rfl rfl rfl rfl ?_
  refine v_cNS (Y2 := Y_X8_bitOf) (As := [.long (L (p0 + 6) (p1.toNatClampNeg)), .int p2]) (pc' := 10) (c1 := 0) (s1 := 0) 5 rfl rfl mf_X8_bitOf rfl rfl nt_X6_75 ms_X8_bitOf rfl (Nat.le_of_ble_eq_true rfl) ⟨Nat.le_of_ble_eq_true rfl, Nat.le_of_ble_eq_true rfl⟩ rfl rfl (ok_X8_bitOf (L (p0 + 6) (p1.toNatClampNeg)) p2 I L h) ?_ ?_
  · intro e9 u9 hx9
    exact hx9.elim
  intro v9 u9 hv9
  obtain ⟨r1010, rfl, rfl, h⟩ := hv9
  refine ⟨fun q => absurd q (Nat.lt_irrefl _), ?_⟩
  show V G Y_X6_timeState 10 _ (.int r1010 :: _) _ _ _ _ _
  refine v_iconst (v := 1) (pc' := 11) 6 rfl rfl (by decide) ?_
  refine v_icmp_ne (tgt := 16) (pc' := 14) 7 rfl rfl (by decide) (fun hc => ?_) (fun hc => ?_)
  · replace h := h.1 hc
    refine v_aload_n (pc' := 17) 10 0 rfl rfl rfl rfl ?_
    refine v_getR (t := (p0 + 7)) (pc' := 20) 11 rfl rfl pf_X6_23 (st0l hp0) (lay_lt (st0l hp0) (by decide)) (rt_st_3 hp0) ?_
    refine v_iload_n (pc' := 21) 12 1 rfl rfl rfl rfl ?_
    obtain ⟨hi1011, h⟩ := h
    refine v_lald (i := p1) (j := p1.toNatClampNeg) (pc' := 22) 13 rfl rfl (st7l hp0) (st7n hp0) (lay_lt (st7l hp0) (by decide)) hi1011 rfl ?_
    refine v_iload_n (pc' := 23) 14 2 rfl rfl rfl rfl ?_
    refine v_cNS (Y2 := Y_X8_bitOf) (As := [.long (L (p0 + 7) (p1.toNatClampNeg)), .int p2]) (pc' := 26) (c1 := 0) (s1 := 0) 15 rfl rfl mf_X8_bitOf rfl rfl nt_X6_75 ms_X8_bitOf rfl (Nat.le_of_ble_eq_true rfl) ⟨Nat.le_of_ble_eq_true rfl, Nat.le_of_ble_eq_true rfl⟩ rfl rfl (ok_X8_bitOf (L (p0 + 7) (p1.toNatClampNeg)) p2 I L h) ?_ ?_
    · intro e9 u9 hx9
      exact hx9.elim
    intro v9 u9 hv9
    obtain ⟨r1012, rfl, rfl, h⟩ := hv9
    refine ⟨fun q => absurd q (Nat.lt_irrefl _), ?_⟩
    show V G Y_X6_timeState 26 _ (.int r1012 :: _) _ _ _ _ _
    exact v_iret 16 rfl rfl (by decide) (by decide) ⟨_, rfl, rfl, h⟩
  replace h := h.2 hc
  refine v_iconst (v := 2) (pc' := 15) 8 rfl rfl (by decide) ?_
  exact v_iret 9 rfl rfl (by decide) (by decide) ⟨_, rfl, rfl, h⟩
def B_X6_hasPending_66 (p0 : Nat) (v1 : Int32) (v2 : Int32) (v3 : Int32) (v5 : Int32) (s0 : Int32) (s1 : Int32) (I : TI) (L : TL) (Q : Int32 → Prop) (R6 : Int32 → Int32 → Prop) : Prop :=
  R6 (s0 ||| s1) (v5 + 1)
set_option maxHeartbeats 4000000 in
set_option maxRecDepth 100000 in
theorem b_X6_hasPending_66 {G : GT} {b d t : Nat} (p0 : Nat) (v1 : Int32) (v2 : Int32) (v3 : Int32) (v5 : Int32) (s0 : Int32) (s1 : Int32) (I : TI) (L : TL) (hp0 : stOK p0) (Q : Int32 → Prop) (R6 : Int32 → Int32 → Prop) (hR6 : ∀ (v4 : Int32) (v5 : Int32), R6 v4 v5 → V G Y_X6_hasPending 6 [(0, .ref p0), (1, .int v1), (2, .int v2), (3, .int v3), (4, .int v4), (5, .int v5)] [] (I, L, RT b d t, 457) 0 0 (fun v9 u9 => ∃ (r9 : Int32), v9 = some (.int r9) ∧ u9 = (I, L, RT b d t, 457) ∧ Q r9) (fun _ _ => False)) (h : B_X6_hasPending_66 p0 v1 v2 v3 v5 s0 s1 I L Q R6) : V G Y_X6_hasPending 66 [(0, .ref p0), (1, .int v1), (2, .int v2), (3, .int v3), (5, .int v5)] [.int s1, .int s0] (I, L, RT b d t, 457) 0 0 (fun v9 u9 => ∃ (r9 : Int32), v9 = some (.int r9) ∧ u9 = (I, L, RT b d t, 457) ∧ Q r9) (fun _ _ => False) := by
  unfold B_X6_hasPending_66 at h
  refine v_ior (pc' := 67) 32 rfl rfl ?_
  refine v_istore (ls' := [(4, .int (s0 ||| s1)), (0, .ref p0), (1, .int v1), (2, .int v2), (3, .int v3), (5, .int v5)]) (pc' := 69) 33 rfl rfl (by decide) rfl ?_
  refine v_iinc (v := (v5 + 1)) (ls' := [(5, .int (v5 + 1)), (4, .int (s0 ||| s1)), (0, .ref p0), (1, .int v1), (2, .int v2), (3, .int v3)]) (pc' := 72) 34 5 rfl rfl rfl rfl (by decide) rfl ?_
  refine v_goto (tgt := 6) 35 rfl (by decide) ?_
  refine V.sub [2, 3, 4, 5, 1, 0] rfl ?_
  exact hR6 (s0 ||| s1) (v5 + 1) h
def B_X6_hasPending_65 (p0 : Nat) (v1 : Int32) (v2 : Int32) (v3 : Int32) (v5 : Int32) (s0 : Int32) (I : TI) (L : TL) (Q : Int32 → Prop) (R6 : Int32 → Int32 → Prop) : Prop :=
  B_X6_hasPending_66 p0 v1 v2 v3 v5 s0 (0 : Int32) I L Q R6
set_option maxHeartbeats 4000000 in
set_option maxRecDepth 100000 in
theorem b_X6_hasPending_65 {G : GT} {b d t : Nat} (p0 : Nat) (v1 : Int32) (v2 : Int32) (v3 : Int32) (v5 : Int32) (s0 : Int32) (I : TI) (L : TL) (hp0 : stOK p0) (Q : Int32 → Prop) (R6 : Int32 → Int32 → Prop) (hR6 : ∀ (v4 : Int32) (v5 : Int32), R6 v4 v5 → V G Y_X6_hasPending 6 [(0, .ref p0), (1, .int v1), (2, .int v2), (3, .int v3), (4, .int v4), (5, .int v5)] [] (I, L, RT b d t, 457) 0 0 (fun v9 u9 => ∃ (r9 : Int32), v9 = some (.int r9) ∧ u9 = (I, L, RT b d t, 457) ∧ Q r9) (fun _ _ => False)) (h : B_X6_hasPending_65 p0 v1 v2 v3 v5 s0 I L Q R6) : V G Y_X6_hasPending 65 [(0, .ref p0), (1, .int v1), (2, .int v2), (3, .int v3), (5, .int v5)] [.int s0] (I, L, RT b d t, 457) 0 0 (fun v9 u9 => ∃ (r9 : Int32), v9 = some (.int r9) ∧ u9 = (I, L, RT b d t, 457) ∧ Q r9) (fun _ _ => False) := by
  unfold B_X6_hasPending_65 at h
  refine v_iconst (v := 0) (pc' := 66) 31 rfl rfl (by decide) ?_
  exact b_X6_hasPending_66 p0 v1 v2 v3 v5 s0 (0 : Int32) I L hp0 Q R6 hR6 h
def D_X6_hasPending_6 (p0 : Nat) (v1 : Int32) (v2 : Int32) (v3 : Int32) (I : TI) (L : TL) (Q : Int32 → Prop) (R6 : Int32 → Int32 → Prop) (v4 : Int32) (v5 : Int32) : Prop :=
  ((I p0 7) ≤ v5 → (v4 = 0 ∨ v4 = 1) ∧ (Q v4)) ∧ (¬ (I p0 7) ≤ v5 → vp_in v5 20 ∧ (W_X3_isPending ((p0 + 11) + v5.toNatClampNeg) I L (fun (r1021 : Int32) => (r1021 = 0 → B_X6_hasPending_65 p0 v1 v2 v3 v5 v4 I L Q R6) ∧ (¬ r1021 = 0 → (¬ (I ((p0 + 11) + v5.toNatClampNeg) 0) = v1 → B_X6_hasPending_65 p0 v1 v2 v3 v5 v4 I L Q R6) ∧ ((I ((p0 + 11) + v5.toNatClampNeg) 0) = v1 → (v3 < (I ((p0 + 11) + v5.toNatClampNeg) 1) → B_X6_hasPending_65 p0 v1 v2 v3 v5 v4 I L Q R6) ∧ (¬ v3 < (I ((p0 + 11) + v5.toNatClampNeg) 1) → ((I ((p0 + 11) + v5.toNatClampNeg) 2) < v2 → B_X6_hasPending_65 p0 v1 v2 v3 v5 v4 I L Q R6) ∧ (¬ (I ((p0 + 11) + v5.toNatClampNeg) 2) < v2 → B_X6_hasPending_66 p0 v1 v2 v3 v5 v4 (1 : Int32) I L Q R6)))))))
def L_X6_hasPending_6 (p0 : Nat) (v1 : Int32) (v2 : Int32) (v3 : Int32) (I : TI) (L : TL) (Q : Int32 → Prop) : Nat → Int32 → Int32 → Prop
  | 0, _, _ => False
  | n9 + 1, v4, v5 => D_X6_hasPending_6 p0 v1 v2 v3 I L Q (fun v4 v5 => L_X6_hasPending_6 p0 v1 v2 v3 I L Q n9 v4 v5) v4 v5
set_option maxHeartbeats 4000000 in
set_option maxRecDepth 100000 in
theorem d_X6_hasPending_6 {G : GT} {b d t : Nat} (p0 : Nat) (v1 : Int32) (v2 : Int32) (v3 : Int32) (I : TI) (L : TL) (hp0 : stOK p0) (Q : Int32 → Prop) (R6 : Int32 → Int32 → Prop)  (hR6 : ∀ (v4 : Int32) (v5 : Int32), R6 v4 v5 → V G Y_X6_hasPending 6 [(0, .ref p0), (1, .int v1), (2, .int v2), (3, .int v3), (4, .int v4), (5, .int v5)] [] (I, L, RT b d t, 457) 0 0 (fun v9 u9 => ∃ (r9 : Int32), v9 = some (.int r9) ∧ u9 = (I, L, RT b d t, 457) ∧ Q r9) (fun _ _ => False)) (v4 : Int32) (v5 : Int32)  (h : D_X6_hasPending_6 p0 v1 v2 v3 I L Q R6 v4 v5) : V G Y_X6_hasPending 6 [(0, .ref p0), (1, .int v1), (2, .int v2), (3, .int v3), (4, .int v4), (5, .int v5)] [] (I, L, RT b d t, 457) 0 0 (fun v9 u9 => ∃ (r9 : Int32), v9 = some (.int r9) ∧ u9 = (I, L, RT b d t, 457) ∧ Q r9) (fun _ _ => False) := by
  unfold D_X6_hasPending_6 at h
  refine v_iload (pc' := 8) 4 5 rfl rfl rfl ?_
  refine v_aload_n (pc' := 9) 5 0 rfl rfl rfl rfl ?_
  refine v_getI (pc' := 12) 6 rfl rfl pf_X6_39 (st0l hp0) (lay_lt (st0l hp0) (by decide)) ?_
  refine v_icmp_ge (tgt := 75) (pc' := 15) 7 rfl rfl (by decide) (fun hc => ?_) (fun hc => ?_)
  · replace h := h.1 hc
    refine v_iload (pc' := 77) 36 4 rfl rfl rfl ?_
    obtain ⟨hz1019, h⟩ := h
    exact v_bret 37 rfl rfl hz1019 (by decide) (by decide) ⟨_, rfl, rfl, h⟩
  replace h := h.2 hc
  refine v_aload_n (pc' := 16) 8 0 rfl rfl rfl rfl ?_
  refine v_getR (t := (p0 + 10)) (pc' := 19) 9 rfl rfl pf_X6_35 (st0l hp0) (lay_lt (st0l hp0) (by decide)) (rt_st_6 hp0) ?_
  refine v_iload (pc' := 21) 10 5 rfl rfl rfl ?_
  obtain ⟨hi1020, h⟩ := h
  refine v_aald5 (i := v5) (r := ((p0 + 11) + v5.toNatClampNeg)) (j := v5.toNatClampNeg) (pc' := 22) 11 rfl rfl (st10l hp0) (st10n hp0) (lay_lt (st10l hp0) (by decide)) hi1020 rfl (rt_dis hp0 (vp_nat hi1020)) ?_
  refine v_astore (ls' := [(6, .ref ((p0 + 11) + v5.toNatClampNeg)), (0, .ref p0), (1, .int v1), (2, .int v2), (3, .int v3), (4, .int v4), (5, .int v5)]) (pc' := 24) 12 rfl rfl (by decide) rfl ?_
  refine v_iload (pc' := 26) 13 5 rfl rfl rfl ?_
  refine v_aload (pc' := 28) 14 0 rfl rfl rfl ?_
  refine v_cV (Y2 := Y_X3_isPending) (As := []) (b := ((p0 + 11) + v5.toNatClampNeg)) (pc' := 31) (c1 := 0) (s1 := 0) 15 rfl rfl mf_X3_isPending rfl rfl ml_X6_79 mi_X3_isPending se_X3_isPending (ci := 2) rfl (st_disl hp0 (vp_nat hi1020)) (lay_lt (st_disl hp0 (vp_nat hi1020)) (by decide)) rfl (Nat.le_of_ble_eq_true rfl) ⟨Nat.le_of_ble_eq_true rfl, Nat.le_of_ble_eq_true rfl⟩ rfl rfl (ok_X3_isPending ((p0 + 11) + v5.toNatClampNeg) I L (st_disl hp0 (vp_nat hi1020)) h) ?_ ?_
  · intro e9 u9 hx9
    exact hx9.elim
  intro v9 u9 hv9
  obtain ⟨r1021, rfl, rfl, h⟩ := hv9
  refine ⟨fun q => absurd q (Nat.lt_irrefl _), ?_⟩
  show V G Y_X6_hasPending 31 _ (.int r1021 :: _) _ _ _ _ _
  refine v_if_eq (tgt := 65) (pc' := 34) 16 rfl rfl (by decide) (fun hc => ?_) (fun hc => ?_)
  · replace h := h.1 hc
    refine V.sub [1, 2, 3, 4, 6] rfl ?_
    exact b_X6_hasPending_65 p0 v1 v2 v3 v5 v4 I L hp0 Q R6 hR6 h
  replace h := h.2 hc
  refine v_aload (pc' := 36) 17 0 rfl rfl rfl ?_
  refine v_getI (pc' := 39) 18 rfl rfl pf_X6_83 (st_disl hp0 (vp_nat hi1020)) (lay_lt (st_disl hp0 (vp_nat hi1020)) (by decide)) ?_
  refine v_iload_n (pc' := 40) 19 2 rfl rfl rfl rfl ?_
  refine v_icmp_ne (tgt := 65) (pc' := 43) 20 rfl rfl (by decide) (fun hc => ?_) (fun hc => ?_)
  · replace h := h.1 hc
    refine V.sub [1, 2, 3, 4, 6] rfl ?_
    exact b_X6_hasPending_65 p0 v1 v2 v3 v5 v4 I L hp0 Q R6 hR6 h
  replace h := h.2 hc
  refine v_aload (pc' := 45) 21 0 rfl rfl rfl ?_
  refine v_getI (pc' := 48) 22 rfl rfl pf_X6_86 (st_disl hp0 (vp_nat hi1020)) (lay_lt (st_disl hp0 (vp_nat hi1020)) (by decide)) ?_
  refine v_iload_n (pc' := 49) 23 4 rfl rfl rfl rfl ?_
  refine v_icmp_gt (tgt := 65) (pc' := 52) 24 rfl rfl (by decide) (fun hc => ?_) (fun hc => ?_)
  · replace h := h.1 hc
    refine V.sub [1, 2, 3, 4, 6] rfl ?_
    exact b_X6_hasPending_65 p0 v1 v2 v3 v5 v4 I L hp0 Q R6 hR6 h
  replace h := h.2 hc
  refine v_aload (pc' := 54) 25 0 rfl rfl rfl ?_
  refine v_getI (pc' := 57) 26 rfl rfl pf_X6_89 (st_disl hp0 (vp_nat hi1020)) (lay_lt (st_disl hp0 (vp_nat hi1020)) (by decide)) ?_
  refine v_iload_n (pc' := 58) 27 3 rfl rfl rfl rfl ?_
  refine v_icmp_lt (tgt := 65) (pc' := 61) 28 rfl rfl (by decide) (fun hc => ?_) (fun hc => ?_)
  · replace h := h.1 hc
    refine V.sub [1, 2, 3, 4, 6] rfl ?_
    exact b_X6_hasPending_65 p0 v1 v2 v3 v5 v4 I L hp0 Q R6 hR6 h
  replace h := h.2 hc
  refine v_iconst (v := 1) (pc' := 62) 29 rfl rfl (by decide) ?_
  refine v_goto (tgt := 66) 30 rfl (by decide) ?_
  refine V.sub [1, 2, 3, 4, 6] rfl ?_
  exact b_X6_hasPending_66 p0 v1 v2 v3 v5 v4 (1 : Int32) I L hp0 Q R6 hR6 h
theorem l_X6_hasPending_6 {G : GT} {b d t : Nat} (p0 : Nat) (v1 : Int32) (v2 : Int32) (v3 : Int32) (I : TI) (L : TL) (hp0 : stOK p0) (Q : Int32 → Prop)  : ∀ (n9 : Nat) (v4 : Int32) (v5 : Int32), L_X6_hasPending_6 p0 v1 v2 v3 I L Q n9 v4 v5 → V G Y_X6_hasPending 6 [(0, .ref p0), (1, .int v1), (2, .int v2), (3, .int v3), (4, .int v4), (5, .int v5)] [] (I, L, RT b d t, 457) 0 0 (fun v9 u9 => ∃ (r9 : Int32), v9 = some (.int r9) ∧ u9 = (I, L, RT b d t, 457) ∧ Q r9) (fun _ _ => False)
  | 0, _, _, h => h.elim
  | n9 + 1, v4, v5, h => d_X6_hasPending_6 p0 v1 v2 v3 I L hp0 Q _ (l_X6_hasPending_6 p0 v1 v2 v3 I L hp0 Q n9) v4 v5 h
def W_X6_hasPending (p0 : Nat) (p1 : Int32) (p2 : Int32) (p3 : Int32) (I : TI) (L : TL) (Q : Int32 → Prop) : Prop :=
  ∃ n1022, L_X6_hasPending_6 p0 p1 p2 p3 I L Q n1022 (0 : Int32) (0 : Int32)
set_option maxHeartbeats 4000000 in
set_option maxRecDepth 100000 in
theorem ok_X6_hasPending {G : GT} {b d t : Nat} (p0 : Nat) (p1 : Int32) (p2 : Int32) (p3 : Int32) (I : TI) (L : TL) (hp0 : stOK p0) {Q : Int32 → Prop} (h : W_X6_hasPending p0 p1 p2 p3 I L Q) : MW G Y_X6_hasPending [.ref p0, .int p1, .int p2, .int p3] (I, L, RT b d t, 457) (fun v9 u9 => ∃ (r9 : Int32), v9 = some (.int r9) ∧ u9 = (I, L, RT b d t, 457) ∧ Q r9) (fun _ _ => False) := by
  unfold W_X6_hasPending at h
  refine MW.intro rfl (by decide) is_X6_hasPending (Nat.le_of_ble_eq_true rfl) ?_
  show V G Y_X6_hasPending 0 [(0, .ref p0), (1, .int p1), (2, .int p2), (3, .int p3)] [] (I, L, RT b d t, 457) 0 0 _ _
  refine v_iconst (v := 0) (pc' := 1) 0 rfl rfl (by decide) ?_
  refine v_istore (ls' := [(4, .int 0), (0, .ref p0), (1, .int p1), (2, .int p2), (3, .int p3)]) (pc' := 3) 1 rfl rfl (by decide) rfl ?_
  refine v_iconst (v := 0) (pc' := 4) 2 rfl rfl (by decide) ?_
  refine v_istore (ls' := [(5, .int 0), (4, .int 0), (0, .ref p0), (1, .int p1), (2, .int p2), (3, .int p3)]) (pc' := 6) 3 rfl rfl (by decide) rfl ?_
  refine V.sub [2, 3, 4, 5, 1, 0] rfl ?_
  obtain ⟨n1022, h⟩ := h
  exact l_X6_hasPending_6 p0 p1 p2 p3 I L hp0 Q n1022 (0 : Int32) (0 : Int32) h
def W_X6_payCourt (p0 : Nat) (p1 : Int32) (p2 : Int32) (I : TI) (L : TL) (Q : TI → Prop) : Prop :=
  vp_in p1 3 ∧ (vp_in p1 3 ∧ (∀ I1027 : TI, I1027 = (up2 I (p0 + 9) (p1.toNatClampNeg) ((I (p0 + 9) (p1.toNatClampNeg)) - p2)) → (Q (up2 I1027 (p0 + 9) 2 ((I1027 (p0 + 9) 2) + p2)))))
set_option maxHeartbeats 4000000 in
set_option maxRecDepth 100000 in
theorem ok_X6_payCourt {G : GT} {b d t : Nat} (p0 : Nat) (p1 : Int32) (p2 : Int32) (I : TI) (L : TL) (hp0 : stOK p0) {Q : TI → Prop} (h : W_X6_payCourt p0 p1 p2 I L Q) : MW G Y_X6_payCourt [.ref p0, .int p1, .int p2] (I, L, RT b d t, 457) (fun v9 u9 => ∃ (I9 : TI), v9 = none ∧ u9 = (I9, L, RT b d t, 457) ∧ Q I9) (fun _ _ => False) := by
  unfold W_X6_payCourt at h
  refine MW.intro rfl (by decide) is_X6_payCourt (Nat.le_of_ble_eq_true rfl) ?_
  show V G Y_X6_payCourt 0 [(0, .ref p0), (1, .int p1), (2, .int p2)] [] (I, L, RT b d t, 457) 0 0 _ _
  refine v_aload_n (pc' := 1) 0 0 rfl rfl rfl rfl ?_
  refine v_getR (t := (p0 + 9)) (pc' := 4) 1 rfl rfl pf_X6_29 (st0l hp0) (lay_lt (st0l hp0) (by decide)) (rt_st_5 hp0) ?_
  refine v_iload_n (pc' := 5) 2 1 rfl rfl rfl rfl ?_
  refine v_dup2 (pc' := 6) 3 rfl rfl rfl rfl ?_
  obtain ⟨hi1025, h⟩ := h
  refine v_iald (i := p1) (j := p1.toNatClampNeg) (pc' := 7) 4 rfl rfl (st9l hp0) (st9n hp0) (lay_lt (st9l hp0) (by decide)) hi1025 rfl ?_
  refine v_iload_n (pc' := 8) 5 2 rfl rfl rfl rfl ?_
  refine v_isub (pc' := 9) 6 rfl rfl ?_
  obtain ⟨hi1026, h⟩ := h
  refine v_iast (i := p1) (j := p1.toNatClampNeg) (pc' := 10) 7 rfl rfl (st9l hp0) (st9n hp0) (lay_lt (st9l hp0) (by decide)) hi1026 rfl ?_
  refine nm_M (e := (up2 I (p0 + 9) (p1.toNatClampNeg) ((I (p0 + 9) (p1.toNatClampNeg)) - p2))) (fun I1027 hI1027 => ?_)
  replace h := h I1027 hI1027
  refine v_aload_n (pc' := 11) 8 0 rfl rfl rfl rfl ?_
  refine v_getR (t := (p0 + 9)) (pc' := 14) 9 rfl rfl pf_X6_29 (st0l hp0) (lay_lt (st0l hp0) (by decide)) (rt_st_5 hp0) ?_
  refine v_iconst (v := 2) (pc' := 15) 10 rfl rfl (by decide) ?_
  refine v_dup2 (pc' := 16) 11 rfl rfl rfl rfl ?_
  refine v_iald (i := 2) (j := 2) (pc' := 17) 12 rfl rfl (st9l hp0) (st9n hp0) (lay_lt (st9l hp0) (by decide)) (vp_lit (by decide)) (by decide) ?_
  refine v_iload_n (pc' := 18) 13 2 rfl rfl rfl rfl ?_
  refine v_iadd (pc' := 19) 14 rfl rfl ?_
  refine v_iast (i := 2) (j := 2) (pc' := 20) 15 rfl rfl (st9l hp0) (st9n hp0) (lay_lt (st9l hp0) (by decide)) (vp_lit (by decide)) (by decide) ?_
  exact v_vret 16 rfl rfl (by decide) (by decide) ⟨_, rfl, rfl, h⟩
def W_X7_begin (p2 : Int32) (I : TI) (L : TL) (t : Nat) (Q : TI → Nat → Prop) : Prop :=
  ∀ I1029 : TI, I1029 = (up2 (up2 (up2 (up2 I 344 1 (mnI p2 (nI 600))) 344 3 0) 344 6 0) 344 7 (-1)) → (W_X7_advance I1029 L 350 (fun (I1030 : TI) => Q I1030 350))
set_option maxHeartbeats 4000000 in
set_option maxRecDepth 100000 in
theorem ok_X7_begin {G : GT} {b d : Nat} (p2 : Int32) (I : TI) (L : TL) (t : Nat) (ht : txOK t) {Q : TI → Nat → Prop} (h : W_X7_begin p2 I L t Q) : MW G Y_X7_begin [.ref 344, .ref 350, .int p2] (I, L, RT b d t, 457) (fun v9 u9 => ∃ (I9 : TI) (t9 : Nat), v9 = none ∧ u9 = (I9, L, RT b d t9, 457) ∧ Q I9 t9) (fun _ _ => False) := by
  unfold W_X7_begin at h
  refine MW.intro rfl (by decide) is_X7_begin (Nat.le_of_ble_eq_true rfl) ?_
  show V G Y_X7_begin 0 [(0, .ref 344), (1, .ref 350), (2, .int p2)] [] (I, L, RT b d t, 457) 0 0 _ _
  refine v_aload_n (pc' := 1) 0 0 rfl rfl rfl rfl ?_
  refine v_aload_n (pc' := 2) 1 1 rfl rfl rfl rfl ?_
  refine v_putR (pc' := 5) 2 rfl rfl pf_X7_9 (fun q => absurd q (by decide)) ly_344 (lay_lt ly_344 (by decide)) ?_
  rw [rt_utext]
  refine v_aload_n (pc' := 6) 3 0 rfl rfl rfl rfl ?_
  refine v_iload_n (pc' := 7) 4 2 rfl rfl rfl rfl ?_
  refine v_aload_n (pc' := 8) 5 1 rfl rfl rfl rfl ?_
  refine v_alen (t := 2) (pc' := 9) 6 rfl rfl ly_350 (by decide) ln_350 (lay_lt ly_350 (by decide)) ?_
  refine v_mmin (pc' := 12) 7 rfl rfl mm_X7_37 (Nat.le_of_ble_eq_true rfl) (by decide) (by decide) ⟨Nat.le_of_ble_eq_true rfl, Nat.le_of_ble_eq_true rfl⟩ ?_
  refine v_putI (pc' := 15) 8 rfl rfl pf_X7_15 (fun q => absurd q (by decide)) ly_344 (lay_lt ly_344 (by decide)) ?_
  refine v_aload_n (pc' := 16) 9 0 rfl rfl rfl rfl ?_
  refine v_iconst (v := 0) (pc' := 17) 10 rfl rfl (by decide) ?_
  refine v_putI (pc' := 20) 11 rfl rfl pf_X7_22 (fun q => absurd q (by decide)) ly_344 (lay_lt ly_344 (by decide)) ?_
  refine v_aload_n (pc' := 21) 12 0 rfl rfl rfl rfl ?_
  refine v_iconst (v := 0) (pc' := 22) 13 rfl rfl (by decide) ?_
  refine v_putI (pc' := 25) 14 rfl rfl pf_X7_31 (fun q => absurd q (by decide)) ly_344 (lay_lt ly_344 (by decide)) ?_
  refine v_aload_n (pc' := 26) 15 0 rfl rfl rfl rfl ?_
  refine v_iconst (v := -1) (pc' := 27) 16 rfl rfl (by decide) ?_
  refine v_putI (pc' := 30) 17 rfl rfl pf_X7_34 (fun q => absurd q (by decide)) ly_344 (lay_lt ly_344 (by decide)) ?_
  refine nm_M (e := (up2 (up2 (up2 (up2 I 344 1 (mnI p2 (nI 600))) 344 3 0) 344 6 0) 344 7 (-1))) (fun I1029 hI1029 => ?_)
  replace h := h I1029 hI1029
  refine v_aload_n (pc' := 31) 18 0 rfl rfl rfl rfl ?_
  refine v_cV (Y2 := Y_X7_advance) (As := []) (b := 344) (pc' := 34) (c1 := 0) (s1 := 0) 19 rfl rfl mf_X7_advance rfl rfl ml_X7_43 mi_X7_advance se_X7_advance (ci := 6) rfl ly_344 (lay_lt ly_344 (by decide)) rfl (Nat.le_of_ble_eq_true rfl) ⟨Nat.le_of_ble_eq_true rfl, Nat.le_of_ble_eq_true rfl⟩ rfl rfl (ok_X7_advance I1029 L 350 (Or.inr rfl) h) ?_ ?_
  · intro e9 u9 hx9
    exact hx9.elim
  intro v9 u9 hv9
  obtain ⟨I1030, rfl, rfl, h⟩ := hv9
  refine ⟨fun q => absurd q (Nat.lt_irrefl _), ?_⟩
  show V G Y_X7_begin 34 _ _ _ _ _ _ _
  exact v_vret 20 rfl rfl (by decide) (by decide) ⟨_, _, rfl, rfl, h⟩
def D_X8_putBytes_3 (v1 : Int32) (L : TL) (Q : TI → Prop) (R3 : Int32 → TI → Prop) (v2 : Int32) (I : TI) : Prop :=
  (v2 < 0 → Q I) ∧ (¬ v2 < 0 → (600 ≤ (I 0 7) → Q I) ∧ (¬ 600 ≤ (I 0 7) → vp_in (I 0 7) 600 ∧ (∀ I1034 : TI, I1034 = (up2 I 350 ((I 0 7).toNatClampNeg) ((ushI v1 v2).toInt8.toInt32).toInt8.toInt32) → (R3 (v2 + (-8)) (up2 I1034 0 7 ((I1034 0 7) + 1))))))
def L_X8_putBytes_3 (v1 : Int32) (L : TL) (Q : TI → Prop) : Nat → Int32 → TI → Prop
  | 0, _, _ => False
  | n9 + 1, v2, I => D_X8_putBytes_3 v1 L Q (fun v2 I => L_X8_putBytes_3 v1 L Q n9 v2 I) v2 I
set_option maxHeartbeats 4000000 in
set_option maxRecDepth 100000 in
theorem d_X8_putBytes_3 {G : GT} {b d t : Nat} (v1 : Int32) (L : TL)  (Q : TI → Prop) (R3 : Int32 → TI → Prop)  (hR3 : ∀ (v2 : Int32) (I : TI), R3 v2 I → V G Y_X8_putBytes 3 [(0, .ref 0), (1, .int v1), (2, .int v2)] [] (I, L, RT b d t, 457) 0 0 (fun v9 u9 => ∃ (I9 : TI), v9 = none ∧ u9 = (I9, L, RT b d t, 457) ∧ Q I9) (fun _ _ => False)) (v2 : Int32) (I : TI)  (h : D_X8_putBytes_3 v1 L Q R3 v2 I) : V G Y_X8_putBytes 3 [(0, .ref 0), (1, .int v1), (2, .int v2)] [] (I, L, RT b d t, 457) 0 0 (fun v9 u9 => ∃ (I9 : TI), v9 = none ∧ u9 = (I9, L, RT b d t, 457) ∧ Q I9) (fun _ _ => False) := by
  unfold D_X8_putBytes_3 at h
  refine v_iload_n (pc' := 4) 2 2 rfl rfl rfl rfl ?_
  refine v_if_lt (tgt := 46) (pc' := 7) 3 rfl rfl (by decide) (fun hc => ?_) (fun hc => ?_)
  · replace h := h.1 hc
    exact v_vret 25 rfl rfl (by decide) (by decide) ⟨_, rfl, rfl, h⟩
  replace h := h.2 hc
  refine v_aload_n (pc' := 8) 4 0 rfl rfl rfl rfl ?_
  refine v_getI (pc' := 11) 5 rfl rfl pf_X8_47 ly_0 (lay_lt ly_0 (by decide)) ?_
  refine v_sipush (v := 600) (pc' := 14) 6 rfl rfl (by decide) ?_
  refine v_icmp_ge (tgt := 46) (pc' := 17) 7 rfl rfl (by decide) (fun hc => ?_) (fun hc => ?_)
  · replace h := h.1 hc
    exact v_vret 25 rfl rfl (by decide) (by decide) ⟨_, rfl, rfl, h⟩
  replace h := h.2 hc
  refine v_aload_n (pc' := 18) 8 0 rfl rfl rfl rfl ?_
  refine v_getR (t := 350) (pc' := 21) 9 rfl rfl pf_X8_30 ly_0 (lay_lt ly_0 (by decide)) rt_0_3 ?_
  refine v_aload_n (pc' := 22) 10 0 rfl rfl rfl rfl ?_
  refine v_getI (pc' := 25) 11 rfl rfl pf_X8_47 ly_0 (lay_lt ly_0 (by decide)) ?_
  refine v_iload_n (pc' := 26) 12 1 rfl rfl rfl rfl ?_
  refine v_iload_n (pc' := 27) 13 2 rfl rfl rfl rfl ?_
  refine v_iushr (pc' := 28) 14 rfl rfl ?_
  refine v_i2b (pc' := 29) 15 rfl rfl ?_
  obtain ⟨hi1033, h⟩ := h
  refine v_bast (i := (I 0 7)) (j := (I 0 7).toNatClampNeg) (pc' := 30) 16 rfl rfl ly_350 ln_350 (lay_lt ly_350 (by decide)) hi1033 rfl ?_
  refine nm_M (e := (up2 I 350 ((I 0 7).toNatClampNeg) ((ushI v1 v2).toInt8.toInt32).toInt8.toInt32)) (fun I1034 hI1034 => ?_)
  replace h := h I1034 hI1034
  refine v_aload_n (pc' := 31) 17 0 rfl rfl rfl rfl ?_
  refine v_dup (pc' := 32) 18 rfl rfl rfl ?_
  refine v_getI (pc' := 35) 19 rfl rfl pf_X8_47 ly_0 (lay_lt ly_0 (by decide)) ?_
  refine v_iconst (v := 1) (pc' := 36) 20 rfl rfl (by decide) ?_
  refine v_iadd (pc' := 37) 21 rfl rfl ?_
  refine v_putI (pc' := 40) 22 rfl rfl pf_X8_47 (fun q => absurd q (by decide)) ly_0 (lay_lt ly_0 (by decide)) ?_
  refine v_iinc (v := (v2 + (-8))) (ls' := [(2, .int (v2 + (-8))), (0, .ref 0), (1, .int v1)]) (pc' := 43) 23 2 rfl rfl rfl rfl (by decide) rfl ?_
  refine v_goto (tgt := 3) 24 rfl (by decide) ?_
  refine V.sub [1, 2, 0] rfl ?_
  exact hR3 (v2 + (-8)) (up2 I1034 0 7 ((I1034 0 7) + 1)) h
theorem l_X8_putBytes_3 {G : GT} {b d t : Nat} (v1 : Int32) (L : TL)  (Q : TI → Prop)  : ∀ (n9 : Nat) (v2 : Int32) (I : TI), L_X8_putBytes_3 v1 L Q n9 v2 I → V G Y_X8_putBytes 3 [(0, .ref 0), (1, .int v1), (2, .int v2)] [] (I, L, RT b d t, 457) 0 0 (fun v9 u9 => ∃ (I9 : TI), v9 = none ∧ u9 = (I9, L, RT b d t, 457) ∧ Q I9) (fun _ _ => False)
  | 0, _, _, h => h.elim
  | n9 + 1, v2, I, h => d_X8_putBytes_3 v1 L Q _ (l_X8_putBytes_3 v1 L Q n9) v2 I h
def W_X8_putBytes (p1 : Int32) (I : TI) (L : TL) (Q : TI → Prop) : Prop :=
  ∃ n1035, L_X8_putBytes_3 p1 L Q n1035 (24 : Int32) I
set_option maxHeartbeats 4000000 in
set_option maxRecDepth 100000 in
theorem ok_X8_putBytes {G : GT} {b d t : Nat} (p1 : Int32) (I : TI) (L : TL)  {Q : TI → Prop} (h : W_X8_putBytes p1 I L Q) : MW G Y_X8_putBytes [.ref 0, .int p1] (I, L, RT b d t, 457) (fun v9 u9 => ∃ (I9 : TI), v9 = none ∧ u9 = (I9, L, RT b d t, 457) ∧ Q I9) (fun _ _ => False) := by
  unfold W_X8_putBytes at h
  refine MW.intro rfl (by decide) is_X8_putBytes (Nat.le_of_ble_eq_true rfl) ?_
  show V G Y_X8_putBytes 0 [(0, .ref 0), (1, .int p1)] [] (I, L, RT b d t, 457) 0 0 _ _
  refine v_bipush (v := 24) (pc' := 2) 0 rfl rfl (by decide) ?_
  refine v_istore_n (ls' := [(2, .int 24), (0, .ref 0), (1, .int p1)]) (pc' := 3) 1 rfl rfl rfl (by decide) rfl ?_
  refine V.sub [1, 2, 0] rfl ?_
  obtain ⟨n1035, h⟩ := h
  exact l_X8_putBytes_3 p1 L Q n1035 (24 : Int32) I h
def W_X8_feed (p1 : Int32) (p2 : Int32) (p3 : Int32) (p4 : Int32) (p5 : Int32) (I : TI) (L : TL) (Q : Int32 → TI → Prop) : Prop :=
  ((I 0 7) ≤ 580 → W_X8_putBytes p1 I L (fun (I1041 : TI) => W_X8_putBytes p2 I1041 L (fun (I1042 : TI) => W_X8_putBytes p3 I1042 L (fun (I1043 : TI) => W_X8_putBytes p4 I1043 L (fun (I1044 : TI) => W_X8_putBytes p5 I1044 L (fun (I1045 : TI) => Q (I1045 0 7) I1045)))))) ∧ (¬ (I 0 7) ≤ 580 → Q (-1) I)
set_option maxHeartbeats 4000000 in
set_option maxRecDepth 100000 in
theorem ok_X8_feed {G : GT} {b d t : Nat} (p1 : Int32) (p2 : Int32) (p3 : Int32) (p4 : Int32) (p5 : Int32) (I : TI) (L : TL)  {Q : Int32 → TI → Prop} (h : W_X8_feed p1 p2 p3 p4 p5 I L Q) : MW G Y_X8_feed [.ref 0, .int p1, .int p2, .int p3, .int p4, .int p5] (I, L, RT b d t, 457) (fun v9 u9 => ∃ (r9 : Int32) (I9 : TI), v9 = some (.int r9) ∧ u9 = (I9, L, RT b d t, 457) ∧ Q r9 I9) (fun _ _ => False) := by
  unfold W_X8_feed at h
  refine MW.intro rfl (by decide) is_X8_feed (Nat.le_of_ble_eq_true rfl) ?_
  show V G Y_X8_feed 0 [(0, .ref 0), (1, .int p1), (2, .int p2), (3, .int p3), (4, .int p4), (5, .int p5)] [] (I, L, RT b d t, 457) 0 0 _ _
  refine v_aload_n (pc' := 1) 0 0 rfl rfl rfl rfl ?_
  refine v_getI (pc' := 4) 1 rfl rfl pf_X8_47 ly_0 (lay_lt ly_0 (by decide)) ?_
  refine v_sipush (v := 580) (pc' := 7) 2 rfl rfl (by decide) ?_
  refine v_icmp_le (tgt := 12) (pc' := 10) 3 rfl rfl (by decide) (fun hc => ?_) (fun hc => ?_)
  · replace h := h.1 hc
    refine v_aload_n (pc' := 13) 6 0 rfl rfl rfl rfl ?_
    refine v_iload_n (pc' := 14) 7 1 rfl rfl rfl rfl ?_
    refine v_cV (Y2 := Y_X8_putBytes) (As := [.int p1]) (b := 0) (pc' := 17) (c1 := 0) (s1 := 0) 8 rfl rfl mf_X8_putBytes rfl rfl ml_X8_57 mi_X8_putBytes se_X8_putBytes (ci := 7) rfl ly_0 (lay_lt ly_0 (by decide)) rfl (Nat.le_of_ble_eq_true rfl) ⟨Nat.le_of_ble_eq_true rfl, Nat.le_of_ble_eq_true rfl⟩ rfl rfl (ok_X8_putBytes p1 I L h) ?_ ?_
    · intro e9 u9 hx9
      exact hx9.elim
    intro v9 u9 hv9
    obtain ⟨I1041, rfl, rfl, h⟩ := hv9
    refine ⟨fun q => absurd q (Nat.lt_irrefl _), ?_⟩
    show V G Y_X8_feed 17 _ _ _ _ _ _ _
    refine v_aload_n (pc' := 18) 9 0 rfl rfl rfl rfl ?_
    refine v_iload_n (pc' := 19) 10 2 rfl rfl rfl rfl ?_
    refine v_cV (Y2 := Y_X8_putBytes) (As := [.int p2]) (b := 0) (pc' := 22) (c1 := 0) (s1 := 0) 11 rfl rfl mf_X8_putBytes rfl rfl ml_X8_57 mi_X8_putBytes se_X8_putBytes (ci := 7) rfl ly_0 (lay_lt ly_0 (by decide)) rfl (Nat.le_of_ble_eq_true rfl) ⟨Nat.le_of_ble_eq_true rfl, Nat.le_of_ble_eq_true rfl⟩ rfl rfl (ok_X8_putBytes p2 I1041 L h) ?_ ?_
    · intro e9 u9 hx9
      exact hx9.elim
    intro v9 u9 hv9
    obtain ⟨I1042, rfl, rfl, h⟩ := hv9
    refine ⟨fun q => absurd q (Nat.lt_irrefl _), ?_⟩
    show V G Y_X8_feed 22 _ _ _ _ _ _ _
    refine v_aload_n (pc' := 23) 12 0 rfl rfl rfl rfl ?_
    refine v_iload_n (pc' := 24) 13 3 rfl rfl rfl rfl ?_
    refine v_cV (Y2 := Y_X8_putBytes) (As := [.int p3]) (b := 0) (pc' := 27) (c1 := 0) (s1 := 0) 14 rfl rfl mf_X8_putBytes rfl rfl ml_X8_57 mi_X8_putBytes se_X8_putBytes (ci := 7) rfl ly_0 (lay_lt ly_0 (by decide)) rfl (Nat.le_of_ble_eq_true rfl) ⟨Nat.le_of_ble_eq_true rfl, Nat.le_of_ble_eq_true rfl⟩ rfl rfl (ok_X8_putBytes p3 I1042 L h) ?_ ?_
    · intro e9 u9 hx9
      exact hx9.elim
    intro v9 u9 hv9
    obtain ⟨I1043, rfl, rfl, h⟩ := hv9
    refine ⟨fun q => absurd q (Nat.lt_irrefl _), ?_⟩
    show V G Y_X8_feed 27 _ _ _ _ _ _ _
    refine v_aload_n (pc' := 28) 15 0 rfl rfl rfl rfl ?_
    refine v_iload (pc' := 30) 16 4 rfl rfl rfl ?_
    refine v_cV (Y2 := Y_X8_putBytes) (As := [.int p4]) (b := 0) (pc' := 33) (c1 := 0) (s1 := 0) 17 rfl rfl mf_X8_putBytes rfl rfl ml_X8_57 mi_X8_putBytes se_X8_putBytes (ci := 7) rfl ly_0 (lay_lt ly_0 (by decide)) rfl (Nat.le_of_ble_eq_true rfl) ⟨Nat.le_of_ble_eq_true rfl, Nat.le_of_ble_eq_true rfl⟩ rfl rfl (ok_X8_putBytes p4 I1043 L h) ?_ ?_
    · intro e9 u9 hx9
      exact hx9.elim
    intro v9 u9 hv9
    obtain ⟨I1044, rfl, rfl, h⟩ := hv9
    refine ⟨fun q => absurd q (Nat.lt_irrefl _), ?_⟩
    show V G Y_X8_feed 33 _ _ _ _ _ _ _
    refine v_aload_n (pc' := 34) 18 0 rfl rfl rfl rfl ?_
    refine v_iload (pc' := 36) 19 5 rfl rfl rfl ?_
    refine v_cV (Y2 := Y_X8_putBytes) (As := [.int p5]) (b := 0) (pc' := 39) (c1 := 0) (s1 := 0) 20 rfl rfl mf_X8_putBytes rfl rfl ml_X8_57 mi_X8_putBytes se_X8_putBytes (ci := 7) rfl ly_0 (lay_lt ly_0 (by decide)) rfl (Nat.le_of_ble_eq_true rfl) ⟨Nat.le_of_ble_eq_true rfl, Nat.le_of_ble_eq_true rfl⟩ rfl rfl (ok_X8_putBytes p5 I1044 L h) ?_ ?_
    · intro e9 u9 hx9
      exact hx9.elim
    intro v9 u9 hv9
    obtain ⟨I1045, rfl, rfl, h⟩ := hv9
    refine ⟨fun q => absurd q (Nat.lt_irrefl _), ?_⟩
    show V G Y_X8_feed 39 _ _ _ _ _ _ _
    refine v_aload_n (pc' := 40) 21 0 rfl rfl rfl rfl ?_
    refine v_getI (pc' := 43) 22 rfl rfl pf_X8_47 ly_0 (lay_lt ly_0 (by decide)) ?_
    exact v_iret 23 rfl rfl (by decide) (by decide) ⟨_, _, rfl, rfl, h⟩
  replace h := h.2 hc
  refine v_iconst (v := -1) (pc' := 11) 4 rfl rfl (by decide) ?_
  exact v_iret 5 rfl rfl (by decide) (by decide) ⟨_, _, rfl, rfl, h⟩
def W_X8_load (p1 : Int32) (I : TI) (L : TL) (b : Nat) (d : Nat) (t : Nat) (Q : Int32 → TI → TL → Nat → Nat → Nat → Prop) (QX : String → TI → TL → Nat → Nat → Nat → Prop) : Prop :=
  (p1 < 0 → QX "java/lang/IllegalArgumentException" I L b d t) ∧ (¬ p1 < 0 → (p1 ≤ (I 0 7) → W_X7_begin p1 I L t (fun (I1058 : TI) (t1059 : Nat) => txOK t1059 ∧ (W_X0_clear d I1058 L (fun (I1061 : TI) (L1062 : TL) => W_X1_read d I1061 L1062 t1059 (fun (I1063 : TI) (L1064 : TL) => W_X7_failed (up2 (up2 I1063 0 7 0) 0 9 ((up2 I1063 0 7 0) 344 7)) L1064 (fun (r1065 : Int32) => (r1065 = 0 → W_X0_refresh d (up2 (up2 I1063 0 7 0) 0 9 ((up2 I1063 0 7 0) 344 7)) L1064 (fun (I1066 : TI) (L1067 : TL) => W_X4_discardAll I1066 L1067 (fun (I1068 : TI) => W_X2_nets (d + 1) I1068 L1067 (fun (r1069 : Int32) => Q r1069 I1068 L1067 d b t1059)))) ∧ (¬ r1065 = 0 → Q (((-10) : Int32) - ((up2 (up2 I1063 0 7 0) 0 9 ((up2 I1063 0 7 0) 344 7)) 344 6)) (up2 (up2 I1063 0 7 0) 0 9 ((up2 I1063 0 7 0) 344 7)) L1064 b d t1059))))))) ∧ (¬ p1 ≤ (I 0 7) → QX "java/lang/IllegalArgumentException" I L b d t))
set_option maxHeartbeats 4000000 in
set_option maxRecDepth 100000 in
theorem ok_X8_load {G : GT} (p1 : Int32) (I : TI) (L : TL) (b : Nat) (d : Nat) (t : Nat) (hb : bnOK b) (hd : bnOK d) (ht : txOK t) {Q : Int32 → TI → TL → Nat → Nat → Nat → Prop} {QX : String → TI → TL → Nat → Nat → Nat → Prop} (h : W_X8_load p1 I L b d t Q QX) : MW G Y_X8_load [.ref 0, .int p1] (I, L, RT b d t, 457) (fun v9 u9 => ∃ (r9 : Int32) (I9 : TI) (L9 : TL) (b9 : Nat) (d9 : Nat) (t9 : Nat), v9 = some (.int r9) ∧ u9 = (I9, L9, RT b9 d9 t9, 457) ∧ Q r9 I9 L9 b9 d9 t9) (fun e9 u9 => ∃ (I9 : TI) (L9 : TL) (b9 : Nat) (d9 : Nat) (t9 : Nat), u9 = (I9, L9, RT b9 d9 t9, 457) ∧ QX e9 I9 L9 b9 d9 t9) := by
  unfold W_X8_load at h
  refine MW.intro rfl (by decide) is_X8_load (Nat.le_of_ble_eq_true rfl) ?_
  show V G Y_X8_load 0 [(0, .ref 0), (1, .int p1)] [] (I, L, RT b d t, 457) 0 0 _ _
  refine v_iload_n (pc' := 1) 0 1 rfl rfl rfl rfl ?_
  refine v_if_lt (tgt := 12) (pc' := 4) 1 rfl rfl (by decide) (fun hc => ?_) (fun hc => ?_)
  · replace h := h.1 hc
    exact v_throw 6 7 8 9 10 rfl rfl rfl rfl rfl tf_X8_61_65 sr_X8_63 rfl (by decide) (Nat.le_of_ble_eq_true rfl) (by decide) (by decide) ⟨_, _, _, _, _, rfl, h⟩
  replace h := h.2 hc
  refine v_iload_n (pc' := 5) 2 1 rfl rfl rfl rfl ?_
  refine v_aload_n (pc' := 6) 3 0 rfl rfl rfl rfl ?_
  refine v_getI (pc' := 9) 4 rfl rfl pf_X8_47 ly_0 (lay_lt ly_0 (by decide)) ?_
  refine v_icmp_le (tgt := 22) (pc' := 12) 5 rfl rfl (by decide) (fun hc => ?_) (fun hc => ?_)
  · replace h := h.1 hc
    refine v_aload_n (pc' := 23) 11 0 rfl rfl rfl rfl ?_
    refine v_getR (t := 344) (pc' := 26) 12 rfl rfl pf_X8_19 ly_0 (lay_lt ly_0 (by decide)) rt_0_1 ?_
    refine v_aload_n (pc' := 27) 13 0 rfl rfl rfl rfl ?_
    refine v_getR (t := 350) (pc' := 30) 14 rfl rfl pf_X8_30 ly_0 (lay_lt ly_0 (by decide)) rt_0_3 ?_
    refine v_iload_n (pc' := 31) 15 1 rfl rfl rfl rfl ?_
    refine v_cV (Y2 := Y_X7_begin) (As := [.ref 350, .int p1]) (b := 344) (pc' := 34) (c1 := 0) (s1 := 0) 16 rfl rfl mf_X7_begin rfl rfl ml_X8_68 mi_X7_begin se_X7_begin (ci := 6) rfl ly_344 (lay_lt ly_344 (by decide)) rfl (Nat.le_of_ble_eq_true rfl) ⟨Nat.le_of_ble_eq_true rfl, Nat.le_of_ble_eq_true rfl⟩ rfl rfl (ok_X7_begin p1 I L t ht h) ?_ ?_
    · intro e9 u9 hx9
      exact hx9.elim
    intro v9 u9 hv9
    obtain ⟨I1058, t1059, rfl, rfl, h⟩ := hv9
    refine ⟨fun q => absurd q (Nat.lt_irrefl _), ?_⟩
    obtain ⟨ht1060, h⟩ := h
    show V G Y_X8_load 34 _ _ _ _ _ _ _
    refine v_aload_n (pc' := 35) 17 0 rfl rfl rfl rfl ?_
    refine v_getR (t := d) (pc' := 38) 18 rfl rfl pf_X8_44 ly_0 (lay_lt ly_0 (by decide)) rt_0_6 ?_
    refine v_cV (Y2 := Y_X0_clear) (As := []) (b := d) (pc' := 41) (c1 := 0) (s1 := 0) 19 rfl rfl mf_X0_clear rfl rfl ml_X8_72 mi_X0_clear se_X0_clear (ci := 0) rfl (bn0l hd) (lay_lt (bn0l hd) (by decide)) rfl (Nat.le_of_ble_eq_true rfl) ⟨Nat.le_of_ble_eq_true rfl, Nat.le_of_ble_eq_true rfl⟩ rfl rfl (ok_X0_clear d I1058 L hd h) ?_ ?_
    · intro e9 u9 hx9
      exact hx9.elim
    intro v9 u9 hv9
    obtain ⟨I1061, L1062, rfl, rfl, h⟩ := hv9
    refine ⟨fun q => absurd q (Nat.lt_irrefl _), ?_⟩
    show V G Y_X8_load 41 _ _ _ _ _ _ _
    refine v_aload_n (pc' := 42) 20 0 rfl rfl rfl rfl ?_
    refine v_getR (t := 344) (pc' := 45) 21 rfl rfl pf_X8_19 ly_0 (lay_lt ly_0 (by decide)) rt_0_1 ?_
    refine v_aload_n (pc' := 46) 22 0 rfl rfl rfl rfl ?_
    refine v_getR (t := d) (pc' := 49) 23 rfl rfl pf_X8_44 ly_0 (lay_lt ly_0 (by decide)) rt_0_6 ?_
    refine v_cS (Y2 := Y_X1_read) (As := [.ref 344, .ref d]) (pc' := 52) (c1 := 0) (s1 := 0) 24 rfl rfl mf_X1_read rfl rfl ml_X8_75 ms_X1_read rfl (Nat.le_of_ble_eq_true rfl) ⟨Nat.le_of_ble_eq_true rfl, Nat.le_of_ble_eq_true rfl⟩ rfl rfl (ok_X1_read d I1061 L1062 t1059 hd ht1060 h) ?_ ?_
    · intro e9 u9 hx9
      exact hx9.elim
    intro v9 u9 hv9
    obtain ⟨I1063, L1064, rfl, rfl, h⟩ := hv9
    refine ⟨fun q => absurd q (Nat.lt_irrefl _), ?_⟩
    show V G Y_X8_load 52 _ _ _ _ _ _ _
    refine v_aload_n (pc' := 53) 25 0 rfl rfl rfl rfl ?_
    refine v_iconst (v := 0) (pc' := 54) 26 rfl rfl (by decide) ?_
    refine v_putI (pc' := 57) 27 rfl rfl pf_X8_47 (fun q => absurd q (by decide)) ly_0 (lay_lt ly_0 (by decide)) ?_
    refine v_aload_n (pc' := 58) 28 0 rfl rfl rfl rfl ?_
    refine v_aload_n (pc' := 59) 29 0 rfl rfl rfl rfl ?_
    refine v_getR (t := 344) (pc' := 62) 30 rfl rfl pf_X8_19 ly_0 (lay_lt ly_0 (by decide)) rt_0_1 ?_
    refine v_getI (pc' := 65) 31 rfl rfl pf_X8_81 ly_344 (lay_lt ly_344 (by decide)) ?_
    refine v_putI (pc' := 68) 32 rfl rfl pf_X8_54 (fun q => absurd q (by decide)) ly_0 (lay_lt ly_0 (by decide)) ?_
    refine v_aload_n (pc' := 69) 33 0 rfl rfl rfl rfl ?_
    refine v_getR (t := 344) (pc' := 72) 34 rfl rfl pf_X8_19 ly_0 (lay_lt ly_0 (by decide)) rt_0_1 ?_
    refine v_cV (Y2 := Y_X7_failed) (As := []) (b := 344) (pc' := 75) (c1 := 0) (s1 := 0) 35 rfl rfl mf_X7_failed rfl rfl ml_X8_82 mi_X7_failed se_X7_failed (ci := 6) rfl ly_344 (lay_lt ly_344 (by decide)) rfl (Nat.le_of_ble_eq_true rfl) ⟨Nat.le_of_ble_eq_true rfl, Nat.le_of_ble_eq_true rfl⟩ rfl rfl (ok_X7_failed (up2 (up2 I1063 0 7 0) 0 9 ((up2 I1063 0 7 0) 344 7)) L1064 h) ?_ ?_
    · intro e9 u9 hx9
      exact hx9.elim
    intro v9 u9 hv9
    obtain ⟨r1065, rfl, rfl, h⟩ := hv9
    refine ⟨fun q => absurd q (Nat.lt_irrefl _), ?_⟩
    show V G Y_X8_load 75 _ (.int r1065 :: _) _ _ _ _ _
    refine v_if_eq (tgt := 89) (pc' := 78) 36 rfl rfl (by decide) (fun hc => ?_) (fun hc => ?_)
    · replace h := h.1 hc
      refine v_aload_n (pc' := 90) 43 0 rfl rfl rfl rfl ?_
      refine v_getR (t := b) (pc' := 93) 44 rfl rfl pf_X8_40 ly_0 (lay_lt ly_0 (by decide)) rt_0_5 ?_
      refine v_astore_n (ls' := [(2, .ref b), (0, .ref 0), (1, .int p1)]) (pc' := 94) 45 rfl rfl rfl (by decide) rfl ?_
      refine v_aload_n (pc' := 95) 46 1 rfl rfl rfl rfl ?_
      refine v_aload_n (pc' := 96) 47 1 rfl rfl rfl rfl ?_
      refine v_getR (t := d) (pc' := 99) 48 rfl rfl pf_X8_44 ly_0 (lay_lt ly_0 (by decide)) rt_0_6 ?_
      refine v_putR (pc' := 102) 49 rfl rfl pf_X8_40 (fun q => absurd q (by decide)) ly_0 (lay_lt ly_0 (by decide)) ?_
      rw [rt_ubench]
      refine v_aload_n (pc' := 103) 50 1 rfl rfl rfl rfl ?_
      refine v_aload_n (pc' := 104) 51 0 rfl rfl rfl rfl ?_
      refine v_putR (pc' := 107) 52 rfl rfl pf_X8_44 (fun q => absurd q (by decide)) ly_0 (lay_lt ly_0 (by decide)) ?_
      rw [rt_udraft]
      refine v_aload_n (pc' := 108) 53 1 rfl rfl rfl rfl ?_
      refine v_getR (t := d) (pc' := 111) 54 rfl rfl pf_X8_40 ly_0 (lay_lt ly_0 (by decide)) rt_0_5 ?_
      refine v_cV (Y2 := Y_X0_refresh) (As := []) (b := d) (pc' := 114) (c1 := 0) (s1 := 0) 55 rfl rfl mf_X0_refresh rfl rfl ml_X8_89 mi_X0_refresh se_X0_refresh (ci := 0) rfl (bn0l hd) (lay_lt (bn0l hd) (by decide)) rfl (Nat.le_of_ble_eq_true rfl) ⟨Nat.le_of_ble_eq_true rfl, Nat.le_of_ble_eq_true rfl⟩ rfl rfl (ok_X0_refresh d (up2 (up2 I1063 0 7 0) 0 9 ((up2 I1063 0 7 0) 344 7)) L1064 hd h) ?_ ?_
      · intro e9 u9 hx9
        exact hx9.elim
      intro v9 u9 hv9
      obtain ⟨I1066, L1067, rfl, rfl, h⟩ := hv9
      refine ⟨fun q => absurd q (Nat.lt_irrefl _), ?_⟩
      show V G Y_X8_load 114 _ _ _ _ _ _ _
      refine v_aload_n (pc' := 115) 56 1 rfl rfl rfl rfl ?_
      refine v_getR (t := 1) (pc' := 118) 57 rfl rfl pf_X8_10 ly_0 (lay_lt ly_0 (by decide)) rt_0_0 ?_
      refine v_cV (Y2 := Y_X4_discardAll) (As := []) (b := 1) (pc' := 121) (c1 := 0) (s1 := 0) 58 rfl rfl mf_X4_discardAll rfl rfl ml_X8_92 mi_X4_discardAll se_X4_discardAll (ci := 3) rfl ly_1 (lay_lt ly_1 (by decide)) rfl (Nat.le_of_ble_eq_true rfl) ⟨Nat.le_of_ble_eq_true rfl, Nat.le_of_ble_eq_true rfl⟩ rfl rfl (ok_X4_discardAll I1066 L1067 h) ?_ ?_
      · intro e9 u9 hx9
        exact hx9.elim
      intro v9 u9 hv9
      obtain ⟨I1068, rfl, rfl, h⟩ := hv9
      refine ⟨fun q => absurd q (Nat.lt_irrefl _), ?_⟩
      show V G Y_X8_load 121 _ _ _ _ _ _ _
      refine v_aload_n (pc' := 122) 59 1 rfl rfl rfl rfl ?_
      refine v_getR (t := d) (pc' := 125) 60 rfl rfl pf_X8_40 ly_0 (lay_lt ly_0 (by decide)) rt_0_5 ?_
      refine v_getR (t := (d + 1)) (pc' := 128) 61 rfl rfl pf_X8_95 (bn0l hd) (lay_lt (bn0l hd) (by decide)) (rt_bn_0 hd) ?_
      refine v_cV (Y2 := Y_X2_nets) (As := []) (b := (d + 1)) (pc' := 131) (c1 := 0) (s1 := 0) 62 rfl rfl mf_X2_nets rfl rfl ml_X8_99 mi_X2_nets se_X2_nets (ci := 1) rfl (bn1l hd) (lay_lt (bn1l hd) (by decide)) rfl (Nat.le_of_ble_eq_true rfl) ⟨Nat.le_of_ble_eq_true rfl, Nat.le_of_ble_eq_true rfl⟩ rfl rfl (ok_X2_nets (d + 1) I1068 L1067 (bn_ck hd) h) ?_ ?_
      · intro e9 u9 hx9
        exact hx9.elim
      intro v9 u9 hv9
      obtain ⟨r1069, rfl, rfl, h⟩ := hv9
      refine ⟨fun q => absurd q (Nat.lt_irrefl _), ?_⟩
      show V G Y_X8_load 131 _ (.int r1069 :: _) _ _ _ _ _
      exact v_iret 63 rfl rfl (by decide) (by decide) ⟨_, _, _, _, _, _, rfl, rfl, h⟩
    replace h := h.2 hc
    refine v_bipush (v := -10) (pc' := 80) 37 rfl rfl (by decide) ?_
    refine v_aload_n (pc' := 81) 38 0 rfl rfl rfl rfl ?_
    refine v_getR (t := 344) (pc' := 84) 39 rfl rfl pf_X8_19 ly_0 (lay_lt ly_0 (by decide)) rt_0_1 ?_
    refine v_getI (pc' := 87) 40 rfl rfl pf_X8_86 ly_344 (lay_lt ly_344 (by decide)) ?_
    refine v_isub (pc' := 88) 41 rfl rfl ?_
    exact v_iret 42 rfl rfl (by decide) (by decide) ⟨_, _, _, _, _, _, rfl, rfl, h⟩
  replace h := h.2 hc
  exact v_throw 6 7 8 9 10 rfl rfl rfl rfl rfl tf_X8_61_65 sr_X8_63 rfl (by decide) (Nat.le_of_ble_eq_true rfl) (by decide) (by decide) ⟨_, _, _, _, _, rfl, h⟩
def W_X8_errorPosition (I : TI) (L : TL) (Q : Int32 → Prop) : Prop :=
  Q (I 0 9)
set_option maxHeartbeats 4000000 in
set_option maxRecDepth 100000 in
theorem ok_X8_errorPosition {G : GT} {b d t : Nat} (I : TI) (L : TL)  {Q : Int32 → Prop} (h : W_X8_errorPosition I L Q) : MW G Y_X8_errorPosition [.ref 0] (I, L, RT b d t, 457) (fun v9 u9 => ∃ (r9 : Int32), v9 = some (.int r9) ∧ u9 = (I, L, RT b d t, 457) ∧ Q r9) (fun _ _ => False) := by
  unfold W_X8_errorPosition at h
  refine MW.intro rfl (by decide) is_X8_errorPosition (Nat.le_of_ble_eq_true rfl) ?_
  show V G Y_X8_errorPosition 0 [(0, .ref 0)] [] (I, L, RT b d t, 457) 0 0 _ _
  refine v_aload_n (pc' := 1) 0 0 rfl rfl rfl rfl ?_
  refine v_getI (pc' := 4) 1 rfl rfl pf_X8_54 ly_0 (lay_lt ly_0 (by decide)) ?_
  exact v_iret 2 rfl rfl (by decide) (by decide) ⟨_, rfl, rfl, h⟩
def W_X8_size (p1 : Int32) (I : TI) (L : TL) (b : Nat) (d : Nat) (Q : Int32 → Prop) (QX : String → Prop) : Prop :=
  (p1 = 0 → Q (I (b + 1) 4)) ∧ (p1 = 1 → Q (I (b + 1) 5)) ∧ (p1 = 2 → Q (I (b + 1) 6)) ∧ (p1 = 3 → Q (I (b + 6) 8)) ∧ (p1 = 4 → Q (I (b + 1) 7)) ∧ (p1 = 5 → Q (I (b + 1) 8)) ∧ (p1 = 6 → Q (I (b + 6) 7)) ∧ (p1 = 7 → Q (I (b + 15) 0)) ∧ (p1 = 8 → Q (I (b + 15) 1)) ∧ (p1 = 9 → Q (I (b + 15) 2)) ∧ (p1 < 0 ∨ 9 < p1 → QX "java/util/NoSuchElementException")
set_option maxHeartbeats 4000000 in
set_option maxRecDepth 100000 in
theorem ok_X8_size {G : GT} {t : Nat} (p1 : Int32) (I : TI) (L : TL) (b : Nat) (d : Nat) (hb : bnOK b) (hd : bnOK d) {Q : Int32 → Prop} {QX : String → Prop} (h : W_X8_size p1 I L b d Q QX) : MW G Y_X8_size [.ref 0, .int p1] (I, L, RT b d t, 457) (fun v9 u9 => ∃ (r9 : Int32), v9 = some (.int r9) ∧ u9 = (I, L, RT b d t, 457) ∧ Q r9) (fun e9 u9 => u9 = (I, L, RT b d t, 457) ∧ QX e9) := by
  unfold W_X8_size at h
  refine MW.intro rfl (by decide) is_X8_size (Nat.le_of_ble_eq_true rfl) ?_
  show V G Y_X8_size 0 [(0, .ref 0), (1, .int p1)] [] (I, L, RT b d t, 457) 0 0 _ _
  refine v_iload_n (pc' := 1) 0 1 rfl rfl rfl rfl ?_
  refine v_ts (clo := 0) (chi := 9) (dt := 172) 1 10 [56, 67, 78, 89, 100, 111, 122, 133, 146, 159] rfl (by decide) (by decide) (by decide) (by decide) (by decide) ?_ (fun hc => ?_)
  · intro j9 t9 ht9 hj9 hx9
    match j9, ht9, hj9, hx9 with
    | 0, ht9, hj9, hx9 =>
      cases ht9
      replace hx9 := hx9.trans (show Int32.ofInt _ = (0 : Int32) by decide)
      replace h := h.1 hx9
      refine v_aload_n (pc' := 57) 2 0 rfl rfl rfl rfl ?_
      refine v_getR (t := b) (pc' := 60) 3 rfl rfl pf_X8_40 ly_0 (lay_lt ly_0 (by decide)) rt_0_5 ?_
      refine v_getR (t := (b + 1)) (pc' := 63) 4 rfl rfl pf_X8_95 (bn0l hb) (lay_lt (bn0l hb) (by decide)) (rt_bn_0 hb) ?_
      refine v_getI (pc' := 66) 5 rfl rfl pf_X8_105 (bn1l hb) (lay_lt (bn1l hb) (by decide)) ?_
      exact v_iret 6 rfl rfl (by decide) (by decide) ⟨_, rfl, rfl, h⟩
    | 1, ht9, hj9, hx9 =>
      cases ht9
      replace hx9 := hx9.trans (show Int32.ofInt _ = (1 : Int32) by decide)
      replace h := h.2.1 hx9
      refine v_aload_n (pc' := 68) 7 0 rfl rfl rfl rfl ?_
      refine v_getR (t := b) (pc' := 71) 8 rfl rfl pf_X8_40 ly_0 (lay_lt ly_0 (by decide)) rt_0_5 ?_
      refine v_getR (t := (b + 1)) (pc' := 74) 9 rfl rfl pf_X8_95 (bn0l hb) (lay_lt (bn0l hb) (by decide)) (rt_bn_0 hb) ?_
      refine v_getI (pc' := 77) 10 rfl rfl pf_X8_108 (bn1l hb) (lay_lt (bn1l hb) (by decide)) ?_
      exact v_iret 11 rfl rfl (by decide) (by decide) ⟨_, rfl, rfl, h⟩
    | 2, ht9, hj9, hx9 =>
      cases ht9
      replace hx9 := hx9.trans (show Int32.ofInt _ = (2 : Int32) by decide)
      replace h := h.2.2.1 hx9
      refine v_aload_n (pc' := 79) 12 0 rfl rfl rfl rfl ?_
      refine v_getR (t := b) (pc' := 82) 13 rfl rfl pf_X8_40 ly_0 (lay_lt ly_0 (by decide)) rt_0_5 ?_
      refine v_getR (t := (b + 1)) (pc' := 85) 14 rfl rfl pf_X8_95 (bn0l hb) (lay_lt (bn0l hb) (by decide)) (rt_bn_0 hb) ?_
      refine v_getI (pc' := 88) 15 rfl rfl pf_X8_111 (bn1l hb) (lay_lt (bn1l hb) (by decide)) ?_
      exact v_iret 16 rfl rfl (by decide) (by decide) ⟨_, rfl, rfl, h⟩
    | 3, ht9, hj9, hx9 =>
      cases ht9
      replace hx9 := hx9.trans (show Int32.ofInt _ = (3 : Int32) by decide)
      replace h := h.2.2.2.1 hx9
      refine v_aload_n (pc' := 90) 17 0 rfl rfl rfl rfl ?_
      refine v_getR (t := b) (pc' := 93) 18 rfl rfl pf_X8_40 ly_0 (lay_lt ly_0 (by decide)) rt_0_5 ?_
      refine v_getR (t := (b + 6)) (pc' := 96) 19 rfl rfl pf_X8_114 (bn0l hb) (lay_lt (bn0l hb) (by decide)) (rt_bn_1 hb) ?_
      refine v_getI (pc' := 99) 20 rfl rfl pf_X8_118 (bn6l hb) (lay_lt (bn6l hb) (by decide)) ?_
      exact v_iret 21 rfl rfl (by decide) (by decide) ⟨_, rfl, rfl, h⟩
    | 4, ht9, hj9, hx9 =>
      cases ht9
      replace hx9 := hx9.trans (show Int32.ofInt _ = (4 : Int32) by decide)
      replace h := h.2.2.2.2.1 hx9
      refine v_aload_n (pc' := 101) 22 0 rfl rfl rfl rfl ?_
      refine v_getR (t := b) (pc' := 104) 23 rfl rfl pf_X8_40 ly_0 (lay_lt ly_0 (by decide)) rt_0_5 ?_
      refine v_getR (t := (b + 1)) (pc' := 107) 24 rfl rfl pf_X8_95 (bn0l hb) (lay_lt (bn0l hb) (by decide)) (rt_bn_0 hb) ?_
      refine v_getI (pc' := 110) 25 rfl rfl pf_X8_123 (bn1l hb) (lay_lt (bn1l hb) (by decide)) ?_
      exact v_iret 26 rfl rfl (by decide) (by decide) ⟨_, rfl, rfl, h⟩
    | 5, ht9, hj9, hx9 =>
      cases ht9
      replace hx9 := hx9.trans (show Int32.ofInt _ = (5 : Int32) by decide)
      replace h := h.2.2.2.2.2.1 hx9
      refine v_aload_n (pc' := 112) 27 0 rfl rfl rfl rfl ?_
      refine v_getR (t := b) (pc' := 115) 28 rfl rfl pf_X8_40 ly_0 (lay_lt ly_0 (by decide)) rt_0_5 ?_
      refine v_getR (t := (b + 1)) (pc' := 118) 29 rfl rfl pf_X8_95 (bn0l hb) (lay_lt (bn0l hb) (by decide)) (rt_bn_0 hb) ?_
      refine v_getI (pc' := 121) 30 rfl rfl pf_X8_126 (bn1l hb) (lay_lt (bn1l hb) (by decide)) ?_
      exact v_iret 31 rfl rfl (by decide) (by decide) ⟨_, rfl, rfl, h⟩
    | 6, ht9, hj9, hx9 =>
      cases ht9
      replace hx9 := hx9.trans (show Int32.ofInt _ = (6 : Int32) by decide)
      replace h := h.2.2.2.2.2.2.1 hx9
      refine v_aload_n (pc' := 123) 32 0 rfl rfl rfl rfl ?_
      refine v_getR (t := b) (pc' := 126) 33 rfl rfl pf_X8_40 ly_0 (lay_lt ly_0 (by decide)) rt_0_5 ?_
      refine v_getR (t := (b + 6)) (pc' := 129) 34 rfl rfl pf_X8_114 (bn0l hb) (lay_lt (bn0l hb) (by decide)) (rt_bn_1 hb) ?_
      refine v_getI (pc' := 132) 35 rfl rfl pf_X8_129 (bn6l hb) (lay_lt (bn6l hb) (by decide)) ?_
      exact v_iret 36 rfl rfl (by decide) (by decide) ⟨_, rfl, rfl, h⟩
    | 7, ht9, hj9, hx9 =>
      cases ht9
      replace hx9 := hx9.trans (show Int32.ofInt _ = (7 : Int32) by decide)
      replace h := h.2.2.2.2.2.2.2.1 hx9
      refine v_aload_n (pc' := 134) 37 0 rfl rfl rfl rfl ?_
      refine v_getR (t := b) (pc' := 137) 38 rfl rfl pf_X8_40 ly_0 (lay_lt ly_0 (by decide)) rt_0_5 ?_
      refine v_getR (t := (b + 6)) (pc' := 140) 39 rfl rfl pf_X8_114 (bn0l hb) (lay_lt (bn0l hb) (by decide)) (rt_bn_1 hb) ?_
      refine v_getR (t := (b + 15)) (pc' := 143) 40 rfl rfl pf_X8_132 (bn6l hb) (lay_lt (bn6l hb) (by decide)) (rt_st_5 (bn_st hb)) ?_
      refine v_iconst (v := 0) (pc' := 144) 41 rfl rfl (by decide) ?_
      refine v_iald (i := 0) (j := 0) (pc' := 145) 42 rfl rfl (bn15l hb) (bn15n hb) (lay_lt (bn15l hb) (by decide)) (vp_lit (by decide)) (by decide) ?_
      exact v_iret 43 rfl rfl (by decide) (by decide) ⟨_, rfl, rfl, h⟩
    | 8, ht9, hj9, hx9 =>
      cases ht9
      replace hx9 := hx9.trans (show Int32.ofInt _ = (8 : Int32) by decide)
      replace h := h.2.2.2.2.2.2.2.2.1 hx9
      refine v_aload_n (pc' := 147) 44 0 rfl rfl rfl rfl ?_
      refine v_getR (t := b) (pc' := 150) 45 rfl rfl pf_X8_40 ly_0 (lay_lt ly_0 (by decide)) rt_0_5 ?_
      refine v_getR (t := (b + 6)) (pc' := 153) 46 rfl rfl pf_X8_114 (bn0l hb) (lay_lt (bn0l hb) (by decide)) (rt_bn_1 hb) ?_
      refine v_getR (t := (b + 15)) (pc' := 156) 47 rfl rfl pf_X8_132 (bn6l hb) (lay_lt (bn6l hb) (by decide)) (rt_st_5 (bn_st hb)) ?_
      refine v_iconst (v := 1) (pc' := 157) 48 rfl rfl (by decide) ?_
      refine v_iald (i := 1) (j := 1) (pc' := 158) 49 rfl rfl (bn15l hb) (bn15n hb) (lay_lt (bn15l hb) (by decide)) (vp_lit (by decide)) (by decide) ?_
      exact v_iret 50 rfl rfl (by decide) (by decide) ⟨_, rfl, rfl, h⟩
    | 9, ht9, hj9, hx9 =>
      cases ht9
      replace hx9 := hx9.trans (show Int32.ofInt _ = (9 : Int32) by decide)
      replace h := h.2.2.2.2.2.2.2.2.2.1 hx9
      refine v_aload_n (pc' := 160) 51 0 rfl rfl rfl rfl ?_
      refine v_getR (t := b) (pc' := 163) 52 rfl rfl pf_X8_40 ly_0 (lay_lt ly_0 (by decide)) rt_0_5 ?_
      refine v_getR (t := (b + 6)) (pc' := 166) 53 rfl rfl pf_X8_114 (bn0l hb) (lay_lt (bn0l hb) (by decide)) (rt_bn_1 hb) ?_
      refine v_getR (t := (b + 15)) (pc' := 169) 54 rfl rfl pf_X8_132 (bn6l hb) (lay_lt (bn6l hb) (by decide)) (rt_st_5 (bn_st hb)) ?_
      refine v_iconst (v := 2) (pc' := 170) 55 rfl rfl (by decide) ?_
      refine v_iald (i := 2) (j := 2) (pc' := 171) 56 rfl rfl (bn15l hb) (bn15n hb) (lay_lt (bn15l hb) (by decide)) (vp_lit (by decide)) (by decide) ?_
      exact v_iret 57 rfl rfl (by decide) (by decide) ⟨_, rfl, rfl, h⟩
    | q9 + 10, ht9, hj9, hx9 => exact absurd hj9 (by omega)
  replace h := h.2.2.2.2.2.2.2.2.2.2 hc
  exact v_throwX 58 59 60 61 62 rfl rfl (Or.inl ⟨rfl, rfl⟩) rfl rfl tf_X8_136_140 sr_X8_138 rfl (by decide) (Nat.le_of_ble_eq_true rfl) (by decide) (by decide) ⟨rfl, h⟩
def W_X8_requireGate (p1 : Int32) (I : TI) (L : TL) (b : Nat) (d : Nat) (Q : Prop) (QX : String → Prop) : Prop :=
  W_X2_hasGate (b + 1) p1 I L (fun (r1071 : Int32) => (¬ r1071 = 0 → Q) ∧ (r1071 = 0 → QX "java/util/NoSuchElementException"))
set_option maxHeartbeats 4000000 in
set_option maxRecDepth 100000 in
theorem ok_X8_requireGate {G : GT} {t : Nat} (p1 : Int32) (I : TI) (L : TL) (b : Nat) (d : Nat) (hb : bnOK b) (hd : bnOK d) {Q : Prop} {QX : String → Prop} (h : W_X8_requireGate p1 I L b d Q QX) : MW G Y_X8_requireGate [.ref 0, .int p1] (I, L, RT b d t, 457) (fun v9 u9 => v9 = none ∧ u9 = (I, L, RT b d t, 457) ∧ Q) (fun e9 u9 => u9 = (I, L, RT b d t, 457) ∧ QX e9) := by
  unfold W_X8_requireGate at h
  refine MW.intro rfl (by decide) is_X8_requireGate (Nat.le_of_ble_eq_true rfl) ?_
  show V G Y_X8_requireGate 0 [(0, .ref 0), (1, .int p1)] [] (I, L, RT b d t, 457) 0 0 _ _
  refine v_aload_n (pc' := 1) 0 0 rfl rfl rfl rfl ?_
  refine v_getR (t := b) (pc' := 4) 1 rfl rfl pf_X8_40 ly_0 (lay_lt ly_0 (by decide)) rt_0_5 ?_
  refine v_getR (t := (b + 1)) (pc' := 7) 2 rfl rfl pf_X8_95 (bn0l hb) (lay_lt (bn0l hb) (by decide)) (rt_bn_0 hb) ?_
  refine v_iload_n (pc' := 8) 3 1 rfl rfl rfl rfl ?_
  refine v_cV (Y2 := Y_X2_hasGate) (As := [.int p1]) (b := (b + 1)) (pc' := 11) (c1 := 0) (s1 := 0) 4 rfl rfl mf_X2_hasGate rfl rfl ml_X8_170 mi_X2_hasGate se_X2_hasGate (ci := 1) rfl (bn1l hb) (lay_lt (bn1l hb) (by decide)) rfl (Nat.le_of_ble_eq_true rfl) ⟨Nat.le_of_ble_eq_true rfl, Nat.le_of_ble_eq_true rfl⟩ rfl rfl (ok_X2_hasGate (b + 1) p1 I L (bn_ck hb) h) ?_ ?_
  · intro e9 u9 hx9
    exact hx9.elim
  intro v9 u9 hv9
  obtain ⟨r1071, rfl, rfl, h⟩ := hv9
  refine ⟨fun q => absurd q (Nat.lt_irrefl _), ?_⟩
  show V G Y_X8_requireGate 11 _ (.int r1071 :: _) _ _ _ _ _
  refine v_if_ne (tgt := 24) (pc' := 14) 5 rfl rfl (by decide) (fun hc => ?_) (fun hc => ?_)
  · replace h := h.1 hc
    exact v_vret 11 rfl rfl (by decide) (by decide) ⟨rfl, rfl, h⟩
  replace h := h.2 hc
  exact v_throwX 6 7 8 9 10 rfl rfl (Or.inl ⟨rfl, rfl⟩) rfl rfl tf_X8_136_140 sr_X8_174 rfl (by decide) (Nat.le_of_ble_eq_true rfl) (by decide) (by decide) ⟨rfl, h⟩
def W_X8_gate (p1 : Int32) (p2 : Int32) (I : TI) (L : TL) (b : Nat) (d : Nat) (Q : Int32 → Prop) (QX : String → Prop) : Prop :=
  W_X8_requireGate p1 I L b d ((p2 = 0 → vp_in p1 16 ∧ (Q (I (b + 2) (p1.toNatClampNeg)))) ∧ (p2 = 1 → vp_in p1 16 ∧ (Q (I (b + 3) (p1.toNatClampNeg)))) ∧ (p2 = 2 → vp_in p1 16 ∧ (Q (I (b + 4) (p1.toNatClampNeg)))) ∧ (p2 = 3 → vp_in p1 16 ∧ (Q (I (b + 8) (p1.toNatClampNeg)))) ∧ (p2 = 4 → vp_in p1 16 ∧ (Q (I (b + 9) (p1.toNatClampNeg)))) ∧ (p2 = 5 → vp_in p1 16 ∧ (Q (I (b + 10) (p1.toNatClampNeg)))) ∧ (p2 = 6 → W_X2_cone (b + 1) p1 I L (fun (r1088 : Int32) => Q r1088)) ∧ (p2 = 7 → W_X6_settledTimes (b + 6) p1 I L (fun (r1089 : Int32) => Q r1089)) ∧ (p2 = 8 → W_X6_ruledTimes (b + 6) p1 I L (fun (r1090 : Int32) => Q r1090)) ∧ (p2 = 9 → W_X0_pulses b p1 I L (fun (r1091 : Int32) => Q r1091)) ∧ (p2 < 0 ∨ 9 < p2 → QX "java/util/NoSuchElementException")) (fun (e9 : String) => QX e9)
set_option maxHeartbeats 4000000 in
set_option maxRecDepth 100000 in
theorem ok_X8_gate {G : GT} {t : Nat} (p1 : Int32) (p2 : Int32) (I : TI) (L : TL) (b : Nat) (d : Nat) (hb : bnOK b) (hd : bnOK d) {Q : Int32 → Prop} {QX : String → Prop} (h : W_X8_gate p1 p2 I L b d Q QX) : MW G Y_X8_gate [.ref 0, .int p1, .int p2] (I, L, RT b d t, 457) (fun v9 u9 => ∃ (r9 : Int32), v9 = some (.int r9) ∧ u9 = (I, L, RT b d t, 457) ∧ Q r9) (fun e9 u9 => u9 = (I, L, RT b d t, 457) ∧ QX e9) := by
  unfold W_X8_gate at h
  refine MW.intro rfl (by decide) is_X8_gate (Nat.le_of_ble_eq_true rfl) ?_
  show V G Y_X8_gate 0 [(0, .ref 0), (1, .int p1), (2, .int p2)] [] (I, L, RT b d t, 457) 0 0 _ _
  refine v_aload_n (pc' := 1) 0 0 rfl rfl rfl rfl ?_
  refine v_iload_n (pc' := 2) 1 1 rfl rfl rfl rfl ?_
  refine v_cV (Y2 := Y_X8_requireGate) (As := [.int p1]) (b := 0) (pc' := 5) (c1 := 1) (s1 := 6) 2 rfl rfl mf_X8_requireGate rfl rfl ml_X8_141 mi_X8_requireGate se_X8_requireGate (ci := 7) rfl ly_0 (lay_lt ly_0 (by decide)) rfl (Nat.le_of_ble_eq_true rfl) ⟨Nat.le_of_ble_eq_true rfl, Nat.le_of_ble_eq_true rfl⟩ rfl rfl (ok_X8_requireGate p1 I L b d hb hd h) ?_ ?_
  · intro e9 u9 hx9
    obtain ⟨rfl, hx9⟩ := hx9
    exact vx_leave rfl (by decide) (by decide) ⟨rfl, hx9⟩
  intro v9 u9 hv9
  obtain ⟨rfl, rfl, h⟩ := hv9
  refine ⟨fun q => absurd q (Nat.lt_irrefl _), ?_⟩
  show V G Y_X8_gate 5 _ _ _ _ _ _ _
  refine v_iload_n (pc' := 6) 3 2 rfl rfl rfl rfl ?_
  refine v_ts (clo := 0) (chi := 9) (dt := 189) 4 10 [60, 73, 86, 99, 114, 129, 144, 156, 168, 180] rfl (by decide) (by decide) (by decide) (by decide) (by decide) ?_ (fun hc => ?_)
  · intro j9 t9 ht9 hj9 hx9
    match j9, ht9, hj9, hx9 with
    | 0, ht9, hj9, hx9 =>
      cases ht9
      replace hx9 := hx9.trans (show Int32.ofInt _ = (0 : Int32) by decide)
      replace h := h.1 hx9
      refine v_aload_n (pc' := 61) 5 0 rfl rfl rfl rfl ?_
      refine v_getR (t := b) (pc' := 64) 6 rfl rfl pf_X8_40 ly_0 (lay_lt ly_0 (by decide)) rt_0_5 ?_
      refine v_getR (t := (b + 1)) (pc' := 67) 7 rfl rfl pf_X8_95 (bn0l hb) (lay_lt (bn0l hb) (by decide)) (rt_bn_0 hb) ?_
      refine v_getR (t := (b + 2)) (pc' := 70) 8 rfl rfl pf_X8_144 (bn1l hb) (lay_lt (bn1l hb) (by decide)) (rt_ck_0 (bn_ck hb)) ?_
      refine v_iload_n (pc' := 71) 9 1 rfl rfl rfl rfl ?_
      obtain ⟨hi1082, h⟩ := h
      refine v_iald (i := p1) (j := p1.toNatClampNeg) (pc' := 72) 10 rfl rfl (bn2l hb) (bn2n hb) (lay_lt (bn2l hb) (by decide)) hi1082 rfl ?_
      exact v_iret 11 rfl rfl (by decide) (by decide) ⟨_, rfl, rfl, h⟩
    | 1, ht9, hj9, hx9 =>
      cases ht9
      replace hx9 := hx9.trans (show Int32.ofInt _ = (1 : Int32) by decide)
      replace h := h.2.1 hx9
      refine v_aload_n (pc' := 74) 12 0 rfl rfl rfl rfl ?_
      refine v_getR (t := b) (pc' := 77) 13 rfl rfl pf_X8_40 ly_0 (lay_lt ly_0 (by decide)) rt_0_5 ?_
      refine v_getR (t := (b + 1)) (pc' := 80) 14 rfl rfl pf_X8_95 (bn0l hb) (lay_lt (bn0l hb) (by decide)) (rt_bn_0 hb) ?_
      refine v_getR (t := (b + 3)) (pc' := 83) 15 rfl rfl pf_X8_147 (bn1l hb) (lay_lt (bn1l hb) (by decide)) (rt_ck_1 (bn_ck hb)) ?_
      refine v_iload_n (pc' := 84) 16 1 rfl rfl rfl rfl ?_
      obtain ⟨hi1083, h⟩ := h
      refine v_iald (i := p1) (j := p1.toNatClampNeg) (pc' := 85) 17 rfl rfl (bn3l hb) (bn3n hb) (lay_lt (bn3l hb) (by decide)) hi1083 rfl ?_
      exact v_iret 18 rfl rfl (by decide) (by decide) ⟨_, rfl, rfl, h⟩
    | 2, ht9, hj9, hx9 =>
      cases ht9
      replace hx9 := hx9.trans (show Int32.ofInt _ = (2 : Int32) by decide)
      replace h := h.2.2.1 hx9
      refine v_aload_n (pc' := 87) 19 0 rfl rfl rfl rfl ?_
      refine v_getR (t := b) (pc' := 90) 20 rfl rfl pf_X8_40 ly_0 (lay_lt ly_0 (by decide)) rt_0_5 ?_
      refine v_getR (t := (b + 1)) (pc' := 93) 21 rfl rfl pf_X8_95 (bn0l hb) (lay_lt (bn0l hb) (by decide)) (rt_bn_0 hb) ?_
      refine v_getR (t := (b + 4)) (pc' := 96) 22 rfl rfl pf_X8_150 (bn1l hb) (lay_lt (bn1l hb) (by decide)) (rt_ck_2 (bn_ck hb)) ?_
      refine v_iload_n (pc' := 97) 23 1 rfl rfl rfl rfl ?_
      obtain ⟨hi1084, h⟩ := h
      refine v_iald (i := p1) (j := p1.toNatClampNeg) (pc' := 98) 24 rfl rfl (bn4l hb) (bn4n hb) (lay_lt (bn4l hb) (by decide)) hi1084 rfl ?_
      exact v_iret 25 rfl rfl (by decide) (by decide) ⟨_, rfl, rfl, h⟩
    | 3, ht9, hj9, hx9 =>
      cases ht9
      replace hx9 := hx9.trans (show Int32.ofInt _ = (3 : Int32) by decide)
      replace h := h.2.2.2.1 hx9
      refine v_aload_n (pc' := 100) 26 0 rfl rfl rfl rfl ?_
      refine v_getR (t := b) (pc' := 103) 27 rfl rfl pf_X8_40 ly_0 (lay_lt ly_0 (by decide)) rt_0_5 ?_
      refine v_getR (t := (b + 6)) (pc' := 106) 28 rfl rfl pf_X8_114 (bn0l hb) (lay_lt (bn0l hb) (by decide)) (rt_bn_1 hb) ?_
      refine v_getR (t := (b + 7)) (pc' := 109) 29 rfl rfl pf_X8_153 (bn6l hb) (lay_lt (bn6l hb) (by decide)) (rt_st_0 (bn_st hb)) ?_
      refine v_iconst (v := 0) (pc' := 110) 30 rfl rfl (by decide) ?_
      refine v_aald6 (i := 0) (r := (b + 8)) (j := 0) (pc' := 111) 31 rfl rfl (bn7l hb) (bn7n hb) (lay_lt (bn7l hb) (by decide)) (vp_lit (by decide)) (by decide) (rt_row (bn_st hb) (i := 0) (by decide)) ?_
      refine v_iload_n (pc' := 112) 32 1 rfl rfl rfl rfl ?_
      obtain ⟨hi1085, h⟩ := h
      refine v_iald (i := p1) (j := p1.toNatClampNeg) (pc' := 113) 33 rfl rfl (st_rowl (bn_st hb) (i := 0) (by decide)) (st_rown (bn_st hb) (i := 0) (by decide)) (lay_lt (st_rowl (bn_st hb) (i := 0) (by decide)) (by decide)) hi1085 rfl ?_
      exact v_iret 34 rfl rfl (by decide) (by decide) ⟨_, rfl, rfl, h⟩
    | 4, ht9, hj9, hx9 =>
      cases ht9
      replace hx9 := hx9.trans (show Int32.ofInt _ = (4 : Int32) by decide)
      replace h := h.2.2.2.2.1 hx9
      refine v_aload_n (pc' := 115) 35 0 rfl rfl rfl rfl ?_
      refine v_getR (t := b) (pc' := 118) 36 rfl rfl pf_X8_40 ly_0 (lay_lt ly_0 (by decide)) rt_0_5 ?_
      refine v_getR (t := (b + 6)) (pc' := 121) 37 rfl rfl pf_X8_114 (bn0l hb) (lay_lt (bn0l hb) (by decide)) (rt_bn_1 hb) ?_
      refine v_getR (t := (b + 7)) (pc' := 124) 38 rfl rfl pf_X8_153 (bn6l hb) (lay_lt (bn6l hb) (by decide)) (rt_st_0 (bn_st hb)) ?_
      refine v_iconst (v := 1) (pc' := 125) 39 rfl rfl (by decide) ?_
      refine v_aald6 (i := 1) (r := (b + 9)) (j := 1) (pc' := 126) 40 rfl rfl (bn7l hb) (bn7n hb) (lay_lt (bn7l hb) (by decide)) (vp_lit (by decide)) (by decide) (rt_row (bn_st hb) (i := 1) (by decide)) ?_
      refine v_iload_n (pc' := 127) 41 1 rfl rfl rfl rfl ?_
      obtain ⟨hi1086, h⟩ := h
      refine v_iald (i := p1) (j := p1.toNatClampNeg) (pc' := 128) 42 rfl rfl (st_rowl (bn_st hb) (i := 1) (by decide)) (st_rown (bn_st hb) (i := 1) (by decide)) (lay_lt (st_rowl (bn_st hb) (i := 1) (by decide)) (by decide)) hi1086 rfl ?_
      exact v_iret 43 rfl rfl (by decide) (by decide) ⟨_, rfl, rfl, h⟩
    | 5, ht9, hj9, hx9 =>
      cases ht9
      replace hx9 := hx9.trans (show Int32.ofInt _ = (5 : Int32) by decide)
      replace h := h.2.2.2.2.2.1 hx9
      refine v_aload_n (pc' := 130) 44 0 rfl rfl rfl rfl ?_
      refine v_getR (t := b) (pc' := 133) 45 rfl rfl pf_X8_40 ly_0 (lay_lt ly_0 (by decide)) rt_0_5 ?_
      refine v_getR (t := (b + 6)) (pc' := 136) 46 rfl rfl pf_X8_114 (bn0l hb) (lay_lt (bn0l hb) (by decide)) (rt_bn_1 hb) ?_
      refine v_getR (t := (b + 7)) (pc' := 139) 47 rfl rfl pf_X8_153 (bn6l hb) (lay_lt (bn6l hb) (by decide)) (rt_st_0 (bn_st hb)) ?_
      refine v_iconst (v := 2) (pc' := 140) 48 rfl rfl (by decide) ?_
      refine v_aald6 (i := 2) (r := (b + 10)) (j := 2) (pc' := 141) 49 rfl rfl (bn7l hb) (bn7n hb) (lay_lt (bn7l hb) (by decide)) (vp_lit (by decide)) (by decide) (rt_row (bn_st hb) (i := 2) (by decide)) ?_
      refine v_iload_n (pc' := 142) 50 1 rfl rfl rfl rfl ?_
      obtain ⟨hi1087, h⟩ := h
      refine v_iald (i := p1) (j := p1.toNatClampNeg) (pc' := 143) 51 rfl rfl (st_rowl (bn_st hb) (i := 2) (by decide)) (st_rown (bn_st hb) (i := 2) (by decide)) (lay_lt (st_rowl (bn_st hb) (i := 2) (by decide)) (by decide)) hi1087 rfl ?_
      exact v_iret 52 rfl rfl (by decide) (by decide) ⟨_, rfl, rfl, h⟩
    | 6, ht9, hj9, hx9 =>
      cases ht9
      replace hx9 := hx9.trans (show Int32.ofInt _ = (6 : Int32) by decide)
      replace h := h.2.2.2.2.2.2.1 hx9
      refine v_aload_n (pc' := 145) 53 0 rfl rfl rfl rfl ?_
      refine v_getR (t := b) (pc' := 148) 54 rfl rfl pf_X8_40 ly_0 (lay_lt ly_0 (by decide)) rt_0_5 ?_
      refine v_getR (t := (b + 1)) (pc' := 151) 55 rfl rfl pf_X8_95 (bn0l hb) (lay_lt (bn0l hb) (by decide)) (rt_bn_0 hb) ?_
      refine v_iload_n (pc' := 152) 56 1 rfl rfl rfl rfl ?_
      refine v_cV (Y2 := Y_X2_cone) (As := [.int p1]) (b := (b + 1)) (pc' := 155) (c1 := 1) (s1 := 6) 57 rfl rfl mf_X2_cone rfl rfl ml_X8_157 mi_X2_cone se_X2_cone (ci := 1) rfl (bn1l hb) (lay_lt (bn1l hb) (by decide)) rfl (Nat.le_of_ble_eq_true rfl) ⟨Nat.le_of_ble_eq_true rfl, Nat.le_of_ble_eq_true rfl⟩ rfl rfl (ok_X2_cone (b + 1) p1 I L (bn_ck hb) h) ?_ ?_
      · intro e9 u9 hx9
        exact hx9.elim
      intro v9 u9 hv9
      obtain ⟨r1088, rfl, rfl, h⟩ := hv9
      refine ⟨fun q => absurd q (Nat.lt_irrefl _), ?_⟩
      show V G Y_X8_gate 155 _ (.int r1088 :: _) _ _ _ _ _
      exact v_iret 58 rfl rfl (by decide) (by decide) ⟨_, rfl, rfl, h⟩
    | 7, ht9, hj9, hx9 =>
      cases ht9
      replace hx9 := hx9.trans (show Int32.ofInt _ = (7 : Int32) by decide)
      replace h := h.2.2.2.2.2.2.2.1 hx9
      refine v_aload_n (pc' := 157) 59 0 rfl rfl rfl rfl ?_
      refine v_getR (t := b) (pc' := 160) 60 rfl rfl pf_X8_40 ly_0 (lay_lt ly_0 (by decide)) rt_0_5 ?_
      refine v_getR (t := (b + 6)) (pc' := 163) 61 rfl rfl pf_X8_114 (bn0l hb) (lay_lt (bn0l hb) (by decide)) (rt_bn_1 hb) ?_
      refine v_iload_n (pc' := 164) 62 1 rfl rfl rfl rfl ?_
      refine v_cV (Y2 := Y_X6_settledTimes) (As := [.int p1]) (b := (b + 6)) (pc' := 167) (c1 := 1) (s1 := 6) 63 rfl rfl mf_X6_settledTimes rfl rfl ml_X8_161 mi_X6_settledTimes se_X6_settledTimes (ci := 5) rfl (bn6l hb) (lay_lt (bn6l hb) (by decide)) rfl (Nat.le_of_ble_eq_true rfl) ⟨Nat.le_of_ble_eq_true rfl, Nat.le_of_ble_eq_true rfl⟩ rfl rfl (ok_X6_settledTimes (b + 6) p1 I L (bn_st hb) h) ?_ ?_
      · intro e9 u9 hx9
        exact hx9.elim
      intro v9 u9 hv9
      obtain ⟨r1089, rfl, rfl, h⟩ := hv9
      refine ⟨fun q => absurd q (Nat.lt_irrefl _), ?_⟩
      show V G Y_X8_gate 167 _ (.int r1089 :: _) _ _ _ _ _
      exact v_iret 64 rfl rfl (by decide) (by decide) ⟨_, rfl, rfl, h⟩
    | 8, ht9, hj9, hx9 =>
      cases ht9
      replace hx9 := hx9.trans (show Int32.ofInt _ = (8 : Int32) by decide)
      replace h := h.2.2.2.2.2.2.2.2.1 hx9
      refine v_aload_n (pc' := 169) 65 0 rfl rfl rfl rfl ?_
      refine v_getR (t := b) (pc' := 172) 66 rfl rfl pf_X8_40 ly_0 (lay_lt ly_0 (by decide)) rt_0_5 ?_
      refine v_getR (t := (b + 6)) (pc' := 175) 67 rfl rfl pf_X8_114 (bn0l hb) (lay_lt (bn0l hb) (by decide)) (rt_bn_1 hb) ?_
      refine v_iload_n (pc' := 176) 68 1 rfl rfl rfl rfl ?_
      refine v_cV (Y2 := Y_X6_ruledTimes) (As := [.int p1]) (b := (b + 6)) (pc' := 179) (c1 := 1) (s1 := 6) 69 rfl rfl mf_X6_ruledTimes rfl rfl ml_X8_164 mi_X6_ruledTimes se_X6_ruledTimes (ci := 5) rfl (bn6l hb) (lay_lt (bn6l hb) (by decide)) rfl (Nat.le_of_ble_eq_true rfl) ⟨Nat.le_of_ble_eq_true rfl, Nat.le_of_ble_eq_true rfl⟩ rfl rfl (ok_X6_ruledTimes (b + 6) p1 I L (bn_st hb) h) ?_ ?_
      · intro e9 u9 hx9
        exact hx9.elim
      intro v9 u9 hv9
      obtain ⟨r1090, rfl, rfl, h⟩ := hv9
      refine ⟨fun q => absurd q (Nat.lt_irrefl _), ?_⟩
      show V G Y_X8_gate 179 _ (.int r1090 :: _) _ _ _ _ _
      exact v_iret 70 rfl rfl (by decide) (by decide) ⟨_, rfl, rfl, h⟩
    | 9, ht9, hj9, hx9 =>
      cases ht9
      replace hx9 := hx9.trans (show Int32.ofInt _ = (9 : Int32) by decide)
      replace h := h.2.2.2.2.2.2.2.2.2.1 hx9
      refine v_aload_n (pc' := 181) 71 0 rfl rfl rfl rfl ?_
      refine v_getR (t := b) (pc' := 184) 72 rfl rfl pf_X8_40 ly_0 (lay_lt ly_0 (by decide)) rt_0_5 ?_
      refine v_iload_n (pc' := 185) 73 1 rfl rfl rfl rfl ?_
      refine v_cV (Y2 := Y_X0_pulses) (As := [.int p1]) (b := b) (pc' := 188) (c1 := 1) (s1 := 6) 74 rfl rfl mf_X0_pulses rfl rfl ml_X8_167 mi_X0_pulses se_X0_pulses (ci := 0) rfl (bn0l hb) (lay_lt (bn0l hb) (by decide)) rfl (Nat.le_of_ble_eq_true rfl) ⟨Nat.le_of_ble_eq_true rfl, Nat.le_of_ble_eq_true rfl⟩ rfl rfl (ok_X0_pulses b p1 I L hb h) ?_ ?_
      · intro e9 u9 hx9
        exact hx9.elim
      intro v9 u9 hv9
      obtain ⟨r1091, rfl, rfl, h⟩ := hv9
      refine ⟨fun q => absurd q (Nat.lt_irrefl _), ?_⟩
      show V G Y_X8_gate 188 _ (.int r1091 :: _) _ _ _ _ _
      exact v_iret 75 rfl rfl (by decide) (by decide) ⟨_, rfl, rfl, h⟩
    | q9 + 10, ht9, hj9, hx9 => exact absurd hj9 (by omega)
  replace h := h.2.2.2.2.2.2.2.2.2.2 hc
  exact v_throwX 76 77 78 79 80 rfl rfl (Or.inl ⟨rfl, rfl⟩) rfl rfl tf_X8_136_140 sr_X8_138 rfl (by decide) (Nat.le_of_ble_eq_true rfl) (by decide) (by decide) ⟨rfl, h⟩
def W_X8_requireNet (p1 : Int32) (I : TI) (L : TL) (b : Nat) (d : Nat) (Q : Prop) (QX : String → Prop) : Prop :=
  W_X2_hasNet (b + 1) p1 I L (fun (r1093 : Int32) => (¬ r1093 = 0 → Q) ∧ (r1093 = 0 → QX "java/util/NoSuchElementException"))
set_option maxHeartbeats 4000000 in
set_option maxRecDepth 100000 in
theorem ok_X8_requireNet {G : GT} {t : Nat} (p1 : Int32) (I : TI) (L : TL) (b : Nat) (d : Nat) (hb : bnOK b) (hd : bnOK d) {Q : Prop} {QX : String → Prop} (h : W_X8_requireNet p1 I L b d Q QX) : MW G Y_X8_requireNet [.ref 0, .int p1] (I, L, RT b d t, 457) (fun v9 u9 => v9 = none ∧ u9 = (I, L, RT b d t, 457) ∧ Q) (fun e9 u9 => u9 = (I, L, RT b d t, 457) ∧ QX e9) := by
  unfold W_X8_requireNet at h
  refine MW.intro rfl (by decide) is_X8_requireNet (Nat.le_of_ble_eq_true rfl) ?_
  show V G Y_X8_requireNet 0 [(0, .ref 0), (1, .int p1)] [] (I, L, RT b d t, 457) 0 0 _ _
  refine v_aload_n (pc' := 1) 0 0 rfl rfl rfl rfl ?_
  refine v_getR (t := b) (pc' := 4) 1 rfl rfl pf_X8_40 ly_0 (lay_lt ly_0 (by decide)) rt_0_5 ?_
  refine v_getR (t := (b + 1)) (pc' := 7) 2 rfl rfl pf_X8_95 (bn0l hb) (lay_lt (bn0l hb) (by decide)) (rt_bn_0 hb) ?_
  refine v_iload_n (pc' := 8) 3 1 rfl rfl rfl rfl ?_
  refine v_cV (Y2 := Y_X2_hasNet) (As := [.int p1]) (b := (b + 1)) (pc' := 11) (c1 := 0) (s1 := 0) 4 rfl rfl mf_X2_hasNet rfl rfl ml_X8_176 mi_X2_hasNet se_X2_hasNet (ci := 1) rfl (bn1l hb) (lay_lt (bn1l hb) (by decide)) rfl (Nat.le_of_ble_eq_true rfl) ⟨Nat.le_of_ble_eq_true rfl, Nat.le_of_ble_eq_true rfl⟩ rfl rfl (ok_X2_hasNet (b + 1) p1 I L (bn_ck hb) h) ?_ ?_
  · intro e9 u9 hx9
    exact hx9.elim
  intro v9 u9 hv9
  obtain ⟨r1093, rfl, rfl, h⟩ := hv9
  refine ⟨fun q => absurd q (Nat.lt_irrefl _), ?_⟩
  show V G Y_X8_requireNet 11 _ (.int r1093 :: _) _ _ _ _ _
  refine v_if_ne (tgt := 24) (pc' := 14) 5 rfl rfl (by decide) (fun hc => ?_) (fun hc => ?_)
  · replace h := h.1 hc
    exact v_vret 11 rfl rfl (by decide) (by decide) ⟨rfl, rfl, h⟩
  replace h := h.2 hc
  exact v_throwX 6 7 8 9 10 rfl rfl (Or.inl ⟨rfl, rfl⟩) rfl rfl tf_X8_136_140 sr_X8_179 rfl (by decide) (Nat.le_of_ble_eq_true rfl) (by decide) (by decide) ⟨rfl, h⟩
def W_X8_requireTimes (p1 : Int32) (p2 : Int32) (I : TI) (L : TL) (b : Nat) (d : Nat) (Q : Prop) (QX : String → Prop) : Prop :=
  W_X2_hasTime (b + 1) p1 I L (fun (r1096 : Int32) => (r1096 = 0 → QX "java/lang/IllegalArgumentException") ∧ (¬ r1096 = 0 → W_X2_hasTime (b + 1) p2 I L (fun (r1097 : Int32) => (r1097 = 0 → QX "java/lang/IllegalArgumentException") ∧ (¬ r1097 = 0 → (p1 ≤ p2 → Q) ∧ (¬ p1 ≤ p2 → QX "java/lang/IllegalArgumentException")))))
set_option maxHeartbeats 4000000 in
set_option maxRecDepth 100000 in
theorem ok_X8_requireTimes {G : GT} {t : Nat} (p1 : Int32) (p2 : Int32) (I : TI) (L : TL) (b : Nat) (d : Nat) (hb : bnOK b) (hd : bnOK d) {Q : Prop} {QX : String → Prop} (h : W_X8_requireTimes p1 p2 I L b d Q QX) : MW G Y_X8_requireTimes [.ref 0, .int p1, .int p2] (I, L, RT b d t, 457) (fun v9 u9 => v9 = none ∧ u9 = (I, L, RT b d t, 457) ∧ Q) (fun e9 u9 => u9 = (I, L, RT b d t, 457) ∧ QX e9) := by
  unfold W_X8_requireTimes at h
  refine MW.intro rfl (by decide) is_X8_requireTimes (Nat.le_of_ble_eq_true rfl) ?_
  show V G Y_X8_requireTimes 0 [(0, .ref 0), (1, .int p1), (2, .int p2)] [] (I, L, RT b d t, 457) 0 0 _ _
  refine v_aload_n (pc' := 1) 0 0 rfl rfl rfl rfl ?_
  refine v_getR (t := b) (pc' := 4) 1 rfl rfl pf_X8_40 ly_0 (lay_lt ly_0 (by decide)) rt_0_5 ?_
  refine v_getR (t := (b + 1)) (pc' := 7) 2 rfl rfl pf_X8_95 (bn0l hb) (lay_lt (bn0l hb) (by decide)) (rt_bn_0 hb) ?_
  refine v_iload_n (pc' := 8) 3 1 rfl rfl rfl rfl ?_
  refine v_cV (Y2 := Y_X2_hasTime) (As := [.int p1]) (b := (b + 1)) (pc' := 11) (c1 := 0) (s1 := 0) 4 rfl rfl mf_X2_hasTime rfl rfl ml_X8_181 mi_X2_hasTime se_X2_hasTime (ci := 1) rfl (bn1l hb) (lay_lt (bn1l hb) (by decide)) rfl (Nat.le_of_ble_eq_true rfl) ⟨Nat.le_of_ble_eq_true rfl, Nat.le_of_ble_eq_true rfl⟩ rfl rfl (ok_X2_hasTime (b + 1) p1 I L (bn_ck hb) h) ?_ ?_
  · intro e9 u9 hx9
    exact hx9.elim
  intro v9 u9 hv9
  obtain ⟨r1096, rfl, rfl, h⟩ := hv9
  refine ⟨fun q => absurd q (Nat.lt_irrefl _), ?_⟩
  show V G Y_X8_requireTimes 11 _ (.int r1096 :: _) _ _ _ _ _
  refine v_if_eq (tgt := 33) (pc' := 14) 5 rfl rfl (by decide) (fun hc => ?_) (fun hc => ?_)
  · replace h := h.1 hc
    exact v_throw 15 16 17 18 19 rfl rfl rfl rfl rfl tf_X8_61_65 sr_X8_184 rfl (by decide) (Nat.le_of_ble_eq_true rfl) (by decide) (by decide) ⟨rfl, h⟩
  replace h := h.2 hc
  refine v_aload_n (pc' := 15) 6 0 rfl rfl rfl rfl ?_
  refine v_getR (t := b) (pc' := 18) 7 rfl rfl pf_X8_40 ly_0 (lay_lt ly_0 (by decide)) rt_0_5 ?_
  refine v_getR (t := (b + 1)) (pc' := 21) 8 rfl rfl pf_X8_95 (bn0l hb) (lay_lt (bn0l hb) (by decide)) (rt_bn_0 hb) ?_
  refine v_iload_n (pc' := 22) 9 2 rfl rfl rfl rfl ?_
  refine v_cV (Y2 := Y_X2_hasTime) (As := [.int p2]) (b := (b + 1)) (pc' := 25) (c1 := 0) (s1 := 0) 10 rfl rfl mf_X2_hasTime rfl rfl ml_X8_181 mi_X2_hasTime se_X2_hasTime (ci := 1) rfl (bn1l hb) (lay_lt (bn1l hb) (by decide)) rfl (Nat.le_of_ble_eq_true rfl) ⟨Nat.le_of_ble_eq_true rfl, Nat.le_of_ble_eq_true rfl⟩ rfl rfl (ok_X2_hasTime (b + 1) p2 I L (bn_ck hb) h) ?_ ?_
  · intro e9 u9 hx9
    exact hx9.elim
  intro v9 u9 hv9
  obtain ⟨r1097, rfl, rfl, h⟩ := hv9
  refine ⟨fun q => absurd q (Nat.lt_irrefl _), ?_⟩
  show V G Y_X8_requireTimes 25 _ (.int r1097 :: _) _ _ _ _ _
  refine v_if_eq (tgt := 33) (pc' := 28) 11 rfl rfl (by decide) (fun hc => ?_) (fun hc => ?_)
  · replace h := h.1 hc
    exact v_throw 15 16 17 18 19 rfl rfl rfl rfl rfl tf_X8_61_65 sr_X8_184 rfl (by decide) (Nat.le_of_ble_eq_true rfl) (by decide) (by decide) ⟨rfl, h⟩
  replace h := h.2 hc
  refine v_iload_n (pc' := 29) 12 2 rfl rfl rfl rfl ?_
  refine v_iload_n (pc' := 30) 13 1 rfl rfl rfl rfl ?_
  refine v_icmp_ge (tgt := 43) (pc' := 33) 14 rfl rfl (by decide) (fun hc => ?_) (fun hc => ?_)
  · replace h := h.1 hc
    exact v_vret 20 rfl rfl (by decide) (by decide) ⟨rfl, rfl, h⟩
  replace h := h.2 hc
  exact v_throw 15 16 17 18 19 rfl rfl rfl rfl rfl tf_X8_61_65 sr_X8_184 rfl (by decide) (Nat.le_of_ble_eq_true rfl) (by decide) (by decide) ⟨rfl, h⟩
def W_X8_requireWave (p1 : Int32) (p2 : Int32) (I : TI) (L : TL) (b : Nat) (d : Nat) (Q : Int64 → Prop) (QX : String → Prop) : Prop :=
  W_X8_requireNet p1 I L b d ((p2 = 0 → vp_in p1 16 ∧ (Q (L (b + 37) (p1.toNatClampNeg)))) ∧ (p2 = 1 → vp_in p1 16 ∧ (Q (L (b + 38) (p1.toNatClampNeg)))) ∧ (p2 = 2 → vp_in p1 16 ∧ (Q (L (b + 39) (p1.toNatClampNeg)))) ∧ (p2 < 0 ∨ 2 < p2 → QX "java/util/NoSuchElementException")) (fun (e9 : String) => QX e9)
set_option maxHeartbeats 4000000 in
set_option maxRecDepth 100000 in
theorem ok_X8_requireWave {G : GT} {t : Nat} (p1 : Int32) (p2 : Int32) (I : TI) (L : TL) (b : Nat) (d : Nat) (hb : bnOK b) (hd : bnOK d) {Q : Int64 → Prop} {QX : String → Prop} (h : W_X8_requireWave p1 p2 I L b d Q QX) : MW G Y_X8_requireWave [.ref 0, .int p1, .int p2] (I, L, RT b d t, 457) (fun v9 u9 => ∃ (r9 : Int64), v9 = some (.long r9) ∧ u9 = (I, L, RT b d t, 457) ∧ Q r9) (fun e9 u9 => u9 = (I, L, RT b d t, 457) ∧ QX e9) := by
  unfold W_X8_requireWave at h
  refine MW.intro rfl (by decide) is_X8_requireWave (Nat.le_of_ble_eq_true rfl) ?_
  show V G Y_X8_requireWave 0 [(0, .ref 0), (1, .int p1), (2, .int p2)] [] (I, L, RT b d t, 457) 0 0 _ _
  refine v_aload_n (pc' := 1) 0 0 rfl rfl rfl rfl ?_
  refine v_iload_n (pc' := 2) 1 1 rfl rfl rfl rfl ?_
  refine v_cV (Y2 := Y_X8_requireNet) (As := [.int p1]) (b := 0) (pc' := 5) (c1 := 1) (s1 := 6) 2 rfl rfl mf_X8_requireNet rfl rfl ml_X8_186 mi_X8_requireNet se_X8_requireNet (ci := 7) rfl ly_0 (lay_lt ly_0 (by decide)) rfl (Nat.le_of_ble_eq_true rfl) ⟨Nat.le_of_ble_eq_true rfl, Nat.le_of_ble_eq_true rfl⟩ rfl rfl (ok_X8_requireNet p1 I L b d hb hd h) ?_ ?_
  · intro e9 u9 hx9
    obtain ⟨rfl, hx9⟩ := hx9
    exact vx_leave rfl (by decide) (by decide) ⟨rfl, hx9⟩
  intro v9 u9 hv9
  obtain ⟨rfl, rfl, h⟩ := hv9
  refine ⟨fun q => absurd q (Nat.lt_irrefl _), ?_⟩
  show V G Y_X8_requireWave 5 _ _ _ _ _ _ _
  refine v_iload_n (pc' := 6) 3 2 rfl rfl rfl rfl ?_
  refine v_ts (clo := 0) (chi := 2) (dt := 62) 4 3 [32, 42, 52] rfl (by decide) (by decide) (by decide) (by decide) (by decide) ?_ (fun hc => ?_)
  · intro j9 t9 ht9 hj9 hx9
    match j9, ht9, hj9, hx9 with
    | 0, ht9, hj9, hx9 =>
      cases ht9
      replace hx9 := hx9.trans (show Int32.ofInt _ = (0 : Int32) by decide)
      replace h := h.1 hx9
      refine v_aload_n (pc' := 33) 5 0 rfl rfl rfl rfl ?_
      refine v_getR (t := b) (pc' := 36) 6 rfl rfl pf_X8_40 ly_0 (lay_lt ly_0 (by decide)) rt_0_5 ?_
      refine v_getR (t := (b + 37)) (pc' := 39) 7 rfl rfl pf_X8_189 (bn0l hb) (lay_lt (bn0l hb) (by decide)) (rt_bn_2 hb) ?_
      refine v_iload_n (pc' := 40) 8 1 rfl rfl rfl rfl ?_
      obtain ⟨hi1101, h⟩ := h
      refine v_lald (i := p1) (j := p1.toNatClampNeg) (pc' := 41) 9 rfl rfl (bn37l hb) (bn37n hb) (lay_lt (bn37l hb) (by decide)) hi1101 rfl ?_
      exact v_lret 10 rfl rfl (by decide) (by decide) ⟨_, rfl, rfl, h⟩
    | 1, ht9, hj9, hx9 =>
      cases ht9
      replace hx9 := hx9.trans (show Int32.ofInt _ = (1 : Int32) by decide)
      replace h := h.2.1 hx9
      refine v_aload_n (pc' := 43) 11 0 rfl rfl rfl rfl ?_
      refine v_getR (t := b) (pc' := 46) 12 rfl rfl pf_X8_40 ly_0 (lay_lt ly_0 (by decide)) rt_0_5 ?_
      refine v_getR (t := (b + 38)) (pc' := 49) 13 rfl rfl pf_X8_193 (bn0l hb) (lay_lt (bn0l hb) (by decide)) (rt_bn_3 hb) ?_
      refine v_iload_n (pc' := 50) 14 1 rfl rfl rfl rfl ?_
      obtain ⟨hi1102, h⟩ := h
      refine v_lald (i := p1) (j := p1.toNatClampNeg) (pc' := 51) 15 rfl rfl (bn38l hb) (bn38n hb) (lay_lt (bn38l hb) (by decide)) hi1102 rfl ?_
      exact v_lret 16 rfl rfl (by decide) (by decide) ⟨_, rfl, rfl, h⟩
    | 2, ht9, hj9, hx9 =>
      cases ht9
      replace hx9 := hx9.trans (show Int32.ofInt _ = (2 : Int32) by decide)
      replace h := h.2.2.1 hx9
      refine v_aload_n (pc' := 53) 17 0 rfl rfl rfl rfl ?_
      refine v_getR (t := b) (pc' := 56) 18 rfl rfl pf_X8_40 ly_0 (lay_lt ly_0 (by decide)) rt_0_5 ?_
      refine v_getR (t := (b + 39)) (pc' := 59) 19 rfl rfl pf_X8_196 (bn0l hb) (lay_lt (bn0l hb) (by decide)) (rt_bn_4 hb) ?_
      refine v_iload_n (pc' := 60) 20 1 rfl rfl rfl rfl ?_
      obtain ⟨hi1103, h⟩ := h
      refine v_lald (i := p1) (j := p1.toNatClampNeg) (pc' := 61) 21 rfl rfl (bn39l hb) (bn39n hb) (lay_lt (bn39l hb) (by decide)) hi1103 rfl ?_
      exact v_lret 22 rfl rfl (by decide) (by decide) ⟨_, rfl, rfl, h⟩
    | q9 + 3, ht9, hj9, hx9 => exact absurd hj9 (by omega)
  replace h := h.2.2.2 hc
  exact v_throwX 23 24 25 26 27 rfl rfl (Or.inl ⟨rfl, rfl⟩) rfl rfl tf_X8_136_140 sr_X8_199 rfl (by decide) (Nat.le_of_ble_eq_true rfl) (by decide) (by decide) ⟨rfl, h⟩
def W_X8_value (p1 : Int32) (p2 : Int32) (p3 : Int32) (I : TI) (L : TL) (b : Nat) (d : Nat) (Q : Int32 → Prop) (QX : String → Prop) : Prop :=
  W_X8_requireWave p1 p3 I L b d (fun (r1107 : Int64) => W_X2_hasTime (b + 1) p2 I L (fun (r1108 : Int32) => (¬ r1108 = 0 → W_X8_bitOf r1107 p2 I L (fun (r1109 : Int32) => Q r1109)) ∧ (r1108 = 0 → QX "java/util/NoSuchElementException"))) (fun (e9 : String) => QX e9)
set_option maxHeartbeats 4000000 in
set_option maxRecDepth 100000 in
theorem ok_X8_value {G : GT} {t : Nat} (p1 : Int32) (p2 : Int32) (p3 : Int32) (I : TI) (L : TL) (b : Nat) (d : Nat) (hb : bnOK b) (hd : bnOK d) {Q : Int32 → Prop} {QX : String → Prop} (h : W_X8_value p1 p2 p3 I L b d Q QX) : MW G Y_X8_value [.ref 0, .int p1, .int p2, .int p3] (I, L, RT b d t, 457) (fun v9 u9 => ∃ (r9 : Int32), v9 = some (.int r9) ∧ u9 = (I, L, RT b d t, 457) ∧ Q r9) (fun e9 u9 => u9 = (I, L, RT b d t, 457) ∧ QX e9) := by
  unfold W_X8_value at h
  refine MW.intro rfl (by decide) is_X8_value (Nat.le_of_ble_eq_true rfl) ?_
  show V G Y_X8_value 0 [(0, .ref 0), (1, .int p1), (2, .int p2), (3, .int p3)] [] (I, L, RT b d t, 457) 0 0 _ _
  refine v_aload_n (pc' := 1) 0 0 rfl rfl rfl rfl ?_
  refine v_iload_n (pc' := 2) 1 1 rfl rfl rfl rfl ?_
  refine v_iload_n (pc' := 3) 2 3 rfl rfl rfl rfl ?_
  refine v_cV (Y2 := Y_X8_requireWave) (As := [.int p1, .int p3]) (b := 0) (pc' := 6) (c1 := 2) (s1 := 12) 3 rfl rfl mf_X8_requireWave rfl rfl ml_X8_201 mi_X8_requireWave se_X8_requireWave (ci := 7) rfl ly_0 (lay_lt ly_0 (by decide)) rfl (Nat.le_of_ble_eq_true rfl) ⟨Nat.le_of_ble_eq_true rfl, Nat.le_of_ble_eq_true rfl⟩ rfl rfl (ok_X8_requireWave p1 p3 I L b d hb hd h) ?_ ?_
  · intro e9 u9 hx9
    obtain ⟨rfl, hx9⟩ := hx9
    exact vx_leave rfl (by decide) (by decide) ⟨rfl, hx9⟩
  intro v9 u9 hv9
  obtain ⟨r1107, rfl, rfl, h⟩ := hv9
  refine ⟨fun q => absurd q (Nat.lt_irrefl _), ?_⟩
  show V G Y_X8_value 6 _ (.long r1107 :: _) _ _ _ _ _
  refine v_lstore (ls' := [(4, .long r1107), (0, .ref 0), (1, .int p1), (2, .int p2), (3, .int p3)]) (pc' := 8) 4 rfl rfl (by decide) rfl ?_
  refine v_aload_n (pc' := 9) 5 1 rfl rfl rfl rfl ?_
  refine v_getR (t := b) (pc' := 12) 6 rfl rfl pf_X8_40 ly_0 (lay_lt ly_0 (by decide)) rt_0_5 ?_
  refine v_getR (t := (b + 1)) (pc' := 15) 7 rfl rfl pf_X8_95 (bn0l hb) (lay_lt (bn0l hb) (by decide)) (rt_bn_0 hb) ?_
  refine v_iload_n (pc' := 16) 8 3 rfl rfl rfl rfl ?_
  refine v_cV (Y2 := Y_X2_hasTime) (As := [.int p2]) (b := (b + 1)) (pc' := 19) (c1 := 2) (s1 := 12) 9 rfl rfl mf_X2_hasTime rfl rfl ml_X8_181 mi_X2_hasTime se_X2_hasTime (ci := 1) rfl (bn1l hb) (lay_lt (bn1l hb) (by decide)) rfl (Nat.le_of_ble_eq_true rfl) ⟨Nat.le_of_ble_eq_true rfl, Nat.le_of_ble_eq_true rfl⟩ rfl rfl (ok_X2_hasTime (b + 1) p2 I L (bn_ck hb) h) ?_ ?_
  · intro e9 u9 hx9
    exact hx9.elim
  intro v9 u9 hv9
  obtain ⟨r1108, rfl, rfl, h⟩ := hv9
  refine ⟨fun q => absurd q (Nat.lt_irrefl _), ?_⟩
  show V G Y_X8_value 19 _ (.int r1108 :: _) _ _ _ _ _
  refine v_if_ne (tgt := 32) (pc' := 22) 10 rfl rfl (by decide) (fun hc => ?_) (fun hc => ?_)
  · replace h := h.1 hc
    refine v_lload (pc' := 34) 16 0 rfl rfl rfl ?_
    refine v_iload_n (pc' := 35) 17 3 rfl rfl rfl rfl ?_
    refine v_cS (Y2 := Y_X8_bitOf) (As := [.long r1107, .int p2]) (pc' := 38) (c1 := 2) (s1 := 12) 18 rfl rfl mf_X8_bitOf rfl rfl ml_X8_207 ms_X8_bitOf rfl (Nat.le_of_ble_eq_true rfl) ⟨Nat.le_of_ble_eq_true rfl, Nat.le_of_ble_eq_true rfl⟩ rfl rfl (ok_X8_bitOf r1107 p2 I L h) ?_ ?_
    · intro e9 u9 hx9
      exact hx9.elim
    intro v9 u9 hv9
    obtain ⟨r1109, rfl, rfl, h⟩ := hv9
    refine ⟨fun q => absurd q (Nat.lt_irrefl _), ?_⟩
    show V G Y_X8_value 38 _ (.int r1109 :: _) _ _ _ _ _
    exact v_iret 19 rfl rfl (by decide) (by decide) ⟨_, rfl, rfl, h⟩
  replace h := h.2 hc
  exact v_throwX 11 12 13 14 15 rfl rfl (Or.inl ⟨rfl, rfl⟩) rfl rfl tf_X8_136_140 sr_X8_205 rfl (by decide) (Nat.le_of_ble_eq_true rfl) (by decide) (by decide) ⟨rfl, h⟩
def W_X8_stateAt (p1 : Int32) (p2 : Int32) (I : TI) (L : TL) (b : Nat) (d : Nat) (Q : Int32 → Prop) (QX : String → Prop) : Prop :=
  W_X8_requireNet p1 I L b d (W_X2_hasTime (b + 1) p2 I L (fun (r1112 : Int32) => (¬ r1112 = 0 → W_X6_timeState (b + 6) p1 p2 I L (fun (r1113 : Int32) => Q r1113)) ∧ (r1112 = 0 → QX "java/util/NoSuchElementException"))) (fun (e9 : String) => QX e9)
set_option maxHeartbeats 4000000 in
set_option maxRecDepth 100000 in
theorem ok_X8_stateAt {G : GT} {t : Nat} (p1 : Int32) (p2 : Int32) (I : TI) (L : TL) (b : Nat) (d : Nat) (hb : bnOK b) (hd : bnOK d) {Q : Int32 → Prop} {QX : String → Prop} (h : W_X8_stateAt p1 p2 I L b d Q QX) : MW G Y_X8_stateAt [.ref 0, .int p1, .int p2] (I, L, RT b d t, 457) (fun v9 u9 => ∃ (r9 : Int32), v9 = some (.int r9) ∧ u9 = (I, L, RT b d t, 457) ∧ Q r9) (fun e9 u9 => u9 = (I, L, RT b d t, 457) ∧ QX e9) := by
  unfold W_X8_stateAt at h
  refine MW.intro rfl (by decide) is_X8_stateAt (Nat.le_of_ble_eq_true rfl) ?_
  show V G Y_X8_stateAt 0 [(0, .ref 0), (1, .int p1), (2, .int p2)] [] (I, L, RT b d t, 457) 0 0 _ _
  refine v_aload_n (pc' := 1) 0 0 rfl rfl rfl rfl ?_
  refine v_iload_n (pc' := 2) 1 1 rfl rfl rfl rfl ?_
  refine v_cV (Y2 := Y_X8_requireNet) (As := [.int p1]) (b := 0) (pc' := 5) (c1 := 1) (s1 := 6) 2 rfl rfl mf_X8_requireNet rfl rfl ml_X8_186 mi_X8_requireNet se_X8_requireNet (ci := 7) rfl ly_0 (lay_lt ly_0 (by decide)) rfl (Nat.le_of_ble_eq_true rfl) ⟨Nat.le_of_ble_eq_true rfl, Nat.le_of_ble_eq_true rfl⟩ rfl rfl (ok_X8_requireNet p1 I L b d hb hd h) ?_ ?_
  · intro e9 u9 hx9
    obtain ⟨rfl, hx9⟩ := hx9
    exact vx_leave rfl (by decide) (by decide) ⟨rfl, hx9⟩
  intro v9 u9 hv9
  obtain ⟨rfl, rfl, h⟩ := hv9
  refine ⟨fun q => absurd q (Nat.lt_irrefl _), ?_⟩
  show V G Y_X8_stateAt 5 _ _ _ _ _ _ _
  refine v_aload_n (pc' := 6) 3 0 rfl rfl rfl rfl ?_
  refine v_getR (t := b) (pc' := 9) 4 rfl rfl pf_X8_40 ly_0 (lay_lt ly_0 (by decide)) rt_0_5 ?_
  refine v_getR (t := (b + 1)) (pc' := 12) 5 rfl rfl pf_X8_95 (bn0l hb) (lay_lt (bn0l hb) (by decide)) (rt_bn_0 hb) ?_
  refine v_iload_n (pc' := 13) 6 2 rfl rfl rfl rfl ?_
  refine v_cV (Y2 := Y_X2_hasTime) (As := [.int p2]) (b := (b + 1)) (pc' := 16) (c1 := 1) (s1 := 6) 7 rfl rfl mf_X2_hasTime rfl rfl ml_X8_181 mi_X2_hasTime se_X2_hasTime (ci := 1) rfl (bn1l hb) (lay_lt (bn1l hb) (by decide)) rfl (Nat.le_of_ble_eq_true rfl) ⟨Nat.le_of_ble_eq_true rfl, Nat.le_of_ble_eq_true rfl⟩ rfl rfl (ok_X2_hasTime (b + 1) p2 I L (bn_ck hb) h) ?_ ?_
  · intro e9 u9 hx9
    exact hx9.elim
  intro v9 u9 hv9
  obtain ⟨r1112, rfl, rfl, h⟩ := hv9
  refine ⟨fun q => absurd q (Nat.lt_irrefl _), ?_⟩
  show V G Y_X8_stateAt 16 _ (.int r1112 :: _) _ _ _ _ _
  refine v_if_ne (tgt := 29) (pc' := 19) 8 rfl rfl (by decide) (fun hc => ?_) (fun hc => ?_)
  · replace h := h.1 hc
    refine v_aload_n (pc' := 30) 14 0 rfl rfl rfl rfl ?_
    refine v_getR (t := b) (pc' := 33) 15 rfl rfl pf_X8_40 ly_0 (lay_lt ly_0 (by decide)) rt_0_5 ?_
    refine v_getR (t := (b + 6)) (pc' := 36) 16 rfl rfl pf_X8_114 (bn0l hb) (lay_lt (bn0l hb) (by decide)) (rt_bn_1 hb) ?_
    refine v_iload_n (pc' := 37) 17 1 rfl rfl rfl rfl ?_
    refine v_iload_n (pc' := 38) 18 2 rfl rfl rfl rfl ?_
    refine v_cV (Y2 := Y_X6_timeState) (As := [.int p1, .int p2]) (b := (b + 6)) (pc' := 41) (c1 := 1) (s1 := 6) 19 rfl rfl mf_X6_timeState rfl rfl ml_X8_211 mi_X6_timeState se_X6_timeState (ci := 5) rfl (bn6l hb) (lay_lt (bn6l hb) (by decide)) rfl (Nat.le_of_ble_eq_true rfl) ⟨Nat.le_of_ble_eq_true rfl, Nat.le_of_ble_eq_true rfl⟩ rfl rfl (ok_X6_timeState (b + 6) p1 p2 I L (bn_st hb) h) ?_ ?_
    · intro e9 u9 hx9
      exact hx9.elim
    intro v9 u9 hv9
    obtain ⟨r1113, rfl, rfl, h⟩ := hv9
    refine ⟨fun q => absurd q (Nat.lt_irrefl _), ?_⟩
    show V G Y_X8_stateAt 41 _ (.int r1113 :: _) _ _ _ _ _
    exact v_iret 20 rfl rfl (by decide) (by decide) ⟨_, rfl, rfl, h⟩
  replace h := h.2 hc
  exact v_throwX 9 10 11 12 13 rfl rfl (Or.inl ⟨rfl, rfl⟩) rfl rfl tf_X8_136_140 sr_X8_205 rfl (by decide) (Nat.le_of_ble_eq_true rfl) (by decide) (by decide) ⟨rfl, h⟩
def W_X8_wave (p1 : Int32) (p2 : Int32) (I : TI) (L : TL) (b : Nat) (d : Nat) (Q : Int64 → Prop) (QX : String → Prop) : Prop :=
  W_X8_requireWave p1 p2 I L b d (fun (r1115 : Int64) => Q r1115) (fun (e9 : String) => QX e9)
set_option maxHeartbeats 4000000 in
set_option maxRecDepth 100000 in
theorem ok_X8_wave {G : GT} {t : Nat} (p1 : Int32) (p2 : Int32) (I : TI) (L : TL) (b : Nat) (d : Nat) (hb : bnOK b) (hd : bnOK d) {Q : Int64 → Prop} {QX : String → Prop} (h : W_X8_wave p1 p2 I L b d Q QX) : MW G Y_X8_wave [.ref 0, .int p1, .int p2] (I, L, RT b d t, 457) (fun v9 u9 => ∃ (r9 : Int64), v9 = some (.long r9) ∧ u9 = (I, L, RT b d t, 457) ∧ Q r9) (fun e9 u9 => u9 = (I, L, RT b d t, 457) ∧ QX e9) := by
  unfold W_X8_wave at h
  refine MW.intro rfl (by decide) is_X8_wave (Nat.le_of_ble_eq_true rfl) ?_
  show V G Y_X8_wave 0 [(0, .ref 0), (1, .int p1), (2, .int p2)] [] (I, L, RT b d t, 457) 0 0 _ _
  refine v_aload_n (pc' := 1) 0 0 rfl rfl rfl rfl ?_
  refine v_iload_n (pc' := 2) 1 1 rfl rfl rfl rfl ?_
  refine v_iload_n (pc' := 3) 2 2 rfl rfl rfl rfl ?_
  refine v_cV (Y2 := Y_X8_requireWave) (As := [.int p1, .int p2]) (b := 0) (pc' := 6) (c1 := 2) (s1 := 12) 3 rfl rfl mf_X8_requireWave rfl rfl ml_X8_201 mi_X8_requireWave se_X8_requireWave (ci := 7) rfl ly_0 (lay_lt ly_0 (by decide)) rfl (Nat.le_of_ble_eq_true rfl) ⟨Nat.le_of_ble_eq_true rfl, Nat.le_of_ble_eq_true rfl⟩ rfl rfl (ok_X8_requireWave p1 p2 I L b d hb hd h) ?_ ?_
  · intro e9 u9 hx9
    obtain ⟨rfl, hx9⟩ := hx9
    exact vx_leave rfl (by decide) (by decide) ⟨rfl, hx9⟩
  intro v9 u9 hv9
  obtain ⟨r1115, rfl, rfl, h⟩ := hv9
  refine ⟨fun q => absurd q (Nat.lt_irrefl _), ?_⟩
  show V G Y_X8_wave 6 _ (.long r1115 :: _) _ _ _ _ _
  exact v_lret 4 rfl rfl (by decide) (by decide) ⟨_, rfl, rfl, h⟩
def W_X8_changes (p1 : Int32) (p2 : Int32) (I : TI) (L : TL) (b : Nat) (d : Nat) (Q : Int32 → Prop) (QX : String → Prop) : Prop :=
  W_X8_requireWave p1 p2 I L b d (fun (r1118 : Int64) => W_X8_changesOf r1118 (I (b + 1) 6) I L (fun (r1119 : Int32) => Q r1119)) (fun (e9 : String) => QX e9)
set_option maxHeartbeats 4000000 in
set_option maxRecDepth 100000 in
theorem ok_X8_changes {G : GT} {t : Nat} (p1 : Int32) (p2 : Int32) (I : TI) (L : TL) (b : Nat) (d : Nat) (hb : bnOK b) (hd : bnOK d) {Q : Int32 → Prop} {QX : String → Prop} (h : W_X8_changes p1 p2 I L b d Q QX) : MW G Y_X8_changes [.ref 0, .int p1, .int p2] (I, L, RT b d t, 457) (fun v9 u9 => ∃ (r9 : Int32), v9 = some (.int r9) ∧ u9 = (I, L, RT b d t, 457) ∧ Q r9) (fun e9 u9 => u9 = (I, L, RT b d t, 457) ∧ QX e9) := by
  unfold W_X8_changes at h
  refine MW.intro rfl (by decide) is_X8_changes (Nat.le_of_ble_eq_true rfl) ?_
  show V G Y_X8_changes 0 [(0, .ref 0), (1, .int p1), (2, .int p2)] [] (I, L, RT b d t, 457) 0 0 _ _
  refine v_aload_n (pc' := 1) 0 0 rfl rfl rfl rfl ?_
  refine v_iload_n (pc' := 2) 1 1 rfl rfl rfl rfl ?_
  refine v_iload_n (pc' := 3) 2 2 rfl rfl rfl rfl ?_
  refine v_cV (Y2 := Y_X8_requireWave) (As := [.int p1, .int p2]) (b := 0) (pc' := 6) (c1 := 2) (s1 := 12) 3 rfl rfl mf_X8_requireWave rfl rfl ml_X8_201 mi_X8_requireWave se_X8_requireWave (ci := 7) rfl ly_0 (lay_lt ly_0 (by decide)) rfl (Nat.le_of_ble_eq_true rfl) ⟨Nat.le_of_ble_eq_true rfl, Nat.le_of_ble_eq_true rfl⟩ rfl rfl (ok_X8_requireWave p1 p2 I L b d hb hd h) ?_ ?_
  · intro e9 u9 hx9
    obtain ⟨rfl, hx9⟩ := hx9
    exact vx_leave rfl (by decide) (by decide) ⟨rfl, hx9⟩
  intro v9 u9 hv9
  obtain ⟨r1118, rfl, rfl, h⟩ := hv9
  refine ⟨fun q => absurd q (Nat.lt_irrefl _), ?_⟩
  show V G Y_X8_changes 6 _ (.long r1118 :: _) _ _ _ _ _
  refine v_aload_n (pc' := 7) 4 0 rfl rfl rfl rfl ?_
  refine v_getR (t := b) (pc' := 10) 5 rfl rfl pf_X8_40 ly_0 (lay_lt ly_0 (by decide)) rt_0_5 ?_
  refine v_getR (t := (b + 1)) (pc' := 13) 6 rfl rfl pf_X8_95 (bn0l hb) (lay_lt (bn0l hb) (by decide)) (rt_bn_0 hb) ?_
  refine v_getI (pc' := 16) 7 rfl rfl pf_X8_111 (bn1l hb) (lay_lt (bn1l hb) (by decide)) ?_
  refine v_cS (Y2 := Y_X8_changesOf) (As := [.long r1118, .int (I (b + 1) 6)]) (pc' := 19) (c1 := 2) (s1 := 12) 8 rfl rfl mf_X8_changesOf rfl rfl ml_X8_215 ms_X8_changesOf rfl (Nat.le_of_ble_eq_true rfl) ⟨Nat.le_of_ble_eq_true rfl, Nat.le_of_ble_eq_true rfl⟩ rfl rfl (ok_X8_changesOf r1118 (I (b + 1) 6) I L h) ?_ ?_
  · intro e9 u9 hx9
    exact hx9.elim
  intro v9 u9 hv9
  obtain ⟨r1119, rfl, rfl, h⟩ := hv9
  refine ⟨fun q => absurd q (Nat.lt_irrefl _), ?_⟩
  show V G Y_X8_changes 19 _ (.int r1119 :: _) _ _ _ _ _
  exact v_iret 9 rfl rfl (by decide) (by decide) ⟨_, rfl, rfl, h⟩
