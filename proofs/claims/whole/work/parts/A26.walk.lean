set_option maxHeartbeats 4000000 in
set_option maxRecDepth 100000 in
theorem ok_X9_starts {G : GT} {b d t : Nat} (p1 : Int32) (I : TI) (L : TL)  {Q : TI → TL → Prop} (h : W_X9_starts p1 I L Q) : MW G Y_X9_starts [.ref 436, .int p1] (I, L, RT b d t, 457) (fun v9 u9 => ∃ (I9 : TI) (L9 : TL), v9 = none ∧ u9 = (I9, L9, RT b d t, 457) ∧ Q I9 L9) (fun _ _ => False) := by
  unfold W_X9_starts at h
  refine MW.intro rfl (by decide) is_X9_starts (Nat.le_of_ble_eq_true rfl) ?_
  show V G Y_X9_starts 0 [(0, .ref 436), (1, .int p1)] [] (I, L, RT b d t, 457) 0 0 _ _
  refine v_aload_n (pc' := 1) 0 0 rfl rfl rfl rfl ?_
  refine v_iload_n (pc' := 2) 1 1 rfl rfl rfl rfl ?_
  refine v_putI (pc' := 5) 2 rfl rfl pf_X9_171 (fun q => absurd q (by decide)) ly_436 (lay_lt ly_436 (by decide)) ?_
  refine v_aload_n (pc' := 6) 3 0 rfl rfl rfl rfl ?_
  refine v_iconst (v := 0) (pc' := 7) 4 rfl rfl (by decide) ?_
  refine v_putI (pc' := 10) 5 rfl rfl pf_X9_164 (fun q => absurd q (by decide)) ly_436 (lay_lt ly_436 (by decide)) ?_
  refine v_aload_n (pc' := 11) 6 0 rfl rfl rfl rfl ?_
  refine v_iconst (v := 0) (pc' := 12) 7 rfl rfl (by decide) ?_
  refine v_putI (pc' := 15) 8 rfl rfl pf_X9_178 (fun q => absurd q (by decide)) ly_436 (lay_lt ly_436 (by decide)) ?_
  refine v_aload_n (pc' := 16) 9 0 rfl rfl rfl rfl ?_
  refine v_iconst (v := 0) (pc' := 17) 10 rfl rfl (by decide) ?_
  refine v_putI (pc' := 20) 11 rfl rfl pf_X9_212 (fun q => absurd q (by decide)) ly_436 (lay_lt ly_436 (by decide)) ?_
  refine nm_M (e := (up2 (up2 (up2 (up2 I 436 23 p1) 436 22 0) 436 24 0) 436 29 0)) (fun I1786 hI1786 => ?_)
  replace h := h I1786 hI1786
  refine v_aload_n (pc' := 21) 12 0 rfl rfl rfl rfl ?_
  refine v_iconst (v := -1) (pc' := 22) 13 rfl rfl (by decide) ?_
  refine v_putI (pc' := 25) 14 rfl rfl pf_X9_44 (fun q => absurd q (by decide)) ly_436 (lay_lt ly_436 (by decide)) ?_
  refine v_aload_n (pc' := 26) 15 0 rfl rfl rfl rfl ?_
  refine v_cV (Y2 := Y_X9_next) (As := []) (b := 436) (pc' := 29) (c1 := 0) (s1 := 0) 16 rfl rfl mf_X9_next rfl rfl ml_X9_215 mi_X9_next se_X9_next (ci := 8) rfl ly_436 (lay_lt ly_436 (by decide)) rfl (Nat.le_of_ble_eq_true rfl) ⟨Nat.le_of_ble_eq_true rfl, Nat.le_of_ble_eq_true rfl⟩ rfl rfl (ok_X9_next (up2 I1786 436 30 (-1)) L h) ?_ ?_
  · intro e9 u9 hx9
    exact hx9.elim
  intro v9 u9 hv9
  obtain ⟨I1787, L1788, rfl, rfl, h⟩ := hv9
  refine ⟨fun q => absurd q (Nat.lt_irrefl _), ?_⟩
  show V G Y_X9_starts 29 _ _ _ _ _ _ _
  exact v_vret 17 rfl rfl (by decide) (by decide) ⟨_, _, rfl, rfl, h⟩
set_option maxHeartbeats 4000000 in
set_option maxRecDepth 100000 in
theorem ok_X9_faults {G : GT} {b d t : Nat} (p1 : Int32) (I : TI) (L : TL)  {Q : Int32 → TI → Prop} (h : W_X9_faults p1 I L Q) : MW G Y_X9_faults [.ref 436, .int p1] (I, L, RT b d t, 457) (fun v9 u9 => ∃ (r9 : Int32) (I9 : TI), v9 = some (.int r9) ∧ u9 = (I9, L, RT b d t, 457) ∧ Q r9 I9) (fun _ _ => False) := by
  unfold W_X9_faults at h
  refine MW.intro rfl (by decide) is_X9_faults (Nat.le_of_ble_eq_true rfl) ?_
  show V G Y_X9_faults 0 [(0, .ref 436), (1, .int p1)] [] (I, L, RT b d t, 457) 0 0 _ _
  refine v_aload_n (pc' := 1) 0 0 rfl rfl rfl rfl ?_
  refine v_getI (pc' := 4) 1 rfl rfl pf_X9_212 ly_436 (lay_lt ly_436 (by decide)) ?_
  refine v_if_ne (tgt := 20) (pc' := 7) 2 rfl rfl (by decide) (fun hc => ?_) (fun hc => ?_)
  · replace h := h.1 hc
    refine v_iconst (v := 0) (pc' := 21) 10 rfl rfl (by decide) ?_
    exact v_bret 11 rfl rfl (by decide) (by decide) (by decide) ⟨_, _, rfl, rfl, h⟩
  replace h := h.2 hc
  refine v_aload_n (pc' := 8) 3 0 rfl rfl rfl rfl ?_
  refine v_iload_n (pc' := 9) 4 1 rfl rfl rfl rfl ?_
  refine v_putI (pc' := 12) 5 rfl rfl pf_X9_212 (fun q => absurd q (by decide)) ly_436 (lay_lt ly_436 (by decide)) ?_
  refine v_aload_n (pc' := 13) 6 0 rfl rfl rfl rfl ?_
  refine v_aload_n (pc' := 14) 7 0 rfl rfl rfl rfl ?_
  refine v_getI (pc' := 17) 8 rfl rfl pf_X9_189 ly_436 (lay_lt ly_436 (by decide)) ?_
  refine v_putI (pc' := 20) 9 rfl rfl pf_X9_44 (fun q => absurd q (by decide)) ly_436 (lay_lt ly_436 (by decide)) ?_
  refine v_iconst (v := 0) (pc' := 21) 10 rfl rfl (by decide) ?_
  exact v_bret 11 rfl rfl (by decide) (by decide) (by decide) ⟨_, _, rfl, rfl, h⟩
set_option maxHeartbeats 4000000 in
set_option maxRecDepth 100000 in
theorem ok_X9_isGood {G : GT} {b d t : Nat} (I : TI) (L : TL)  {Q : Int32 → Prop} (h : W_X9_isGood I L Q) : MW G Y_X9_isGood [.ref 436] (I, L, RT b d t, 457) (fun v9 u9 => ∃ (r9 : Int32), v9 = some (.int r9) ∧ u9 = (I, L, RT b d t, 457) ∧ Q r9) (fun _ _ => False) := by
  unfold W_X9_isGood at h
  refine MW.intro rfl (by decide) is_X9_isGood (Nat.le_of_ble_eq_true rfl) ?_
  show V G Y_X9_isGood 0 [(0, .ref 436)] [] (I, L, RT b d t, 457) 0 0 _ _
  refine v_aload_n (pc' := 1) 0 0 rfl rfl rfl rfl ?_
  refine v_getI (pc' := 4) 1 rfl rfl pf_X9_212 ly_436 (lay_lt ly_436 (by decide)) ?_
  refine v_if_ne (tgt := 11) (pc' := 7) 2 rfl rfl (by decide) (fun hc => ?_) (fun hc => ?_)
  · replace h := h.1 hc
    refine v_iconst (v := 0) (pc' := 12) 5 rfl rfl (by decide) ?_
    exact v_bret 6 rfl rfl (by decide) (by decide) (by decide) ⟨_, rfl, rfl, h⟩
  replace h := h.2 hc
  refine v_iconst (v := 1) (pc' := 8) 3 rfl rfl (by decide) ?_
  refine v_goto (tgt := 12) 4 rfl (by decide) ?_
  exact v_bret 6 rfl rfl (by decide) (by decide) (by decide) ⟨_, rfl, rfl, h⟩
set_option maxHeartbeats 4000000 in
set_option maxRecDepth 100000 in
theorem ok_X9_isWord {G : GT} {b d t : Nat} (p1 : Int64) (I : TI) (L : TL)  {Q : Int32 → Prop} (h : W_X9_isWord p1 I L Q) : MW G Y_X9_isWord [.ref 436, .long p1] (I, L, RT b d t, 457) (fun v9 u9 => ∃ (r9 : Int32), v9 = some (.int r9) ∧ u9 = (I, L, RT b d t, 457) ∧ Q r9) (fun _ _ => False) := by
  unfold W_X9_isWord at h
  refine MW.intro rfl (by decide) is_X9_isWord (Nat.le_of_ble_eq_true rfl) ?_
  show V G Y_X9_isWord 0 [(0, .ref 436), (1, .long p1)] [] (I, L, RT b d t, 457) 0 0 _ _
  refine v_aload_n (pc' := 1) 0 0 rfl rfl rfl rfl ?_
  refine v_cV (Y2 := Y_X9_isGood) (As := []) (b := 436) (pc' := 4) (c1 := 0) (s1 := 0) 1 rfl rfl mf_X9_isGood rfl rfl ml_X9_218 mi_X9_isGood se_X9_isGood (ci := 8) rfl ly_436 (lay_lt ly_436 (by decide)) rfl (Nat.le_of_ble_eq_true rfl) ⟨Nat.le_of_ble_eq_true rfl, Nat.le_of_ble_eq_true rfl⟩ rfl rfl (ok_X9_isGood I L h) ?_ ?_
  · intro e9 u9 hx9
    exact hx9.elim
  intro v9 u9 hv9
  obtain ⟨r1790, rfl, rfl, h⟩ := hv9
  refine ⟨fun q => absurd q (Nat.lt_irrefl _), ?_⟩
  show V G Y_X9_isWord 4 _ (.int r1790 :: _) _ _ _ _ _
  refine v_if_eq (tgt := 42) (pc' := 7) 2 rfl rfl (by decide) (fun hc => ?_) (fun hc => ?_)
  · replace h := h.1 hc
    refine v_iconst (v := 0) (pc' := 43) 21 rfl rfl (by decide) ?_
    exact v_bret 22 rfl rfl (by decide) (by decide) (by decide) ⟨_, rfl, rfl, h⟩
  replace h := h.2 hc
  refine v_aload_n (pc' := 8) 3 0 rfl rfl rfl rfl ?_
  refine v_getI (pc' := 11) 4 rfl rfl pf_X9_196 ly_436 (lay_lt ly_436 (by decide)) ?_
  refine v_iconst (v := 1) (pc' := 12) 5 rfl rfl (by decide) ?_
  refine v_icmp_ne (tgt := 42) (pc' := 15) 6 rfl rfl (by decide) (fun hc => ?_) (fun hc => ?_)
  · replace h := h.1 hc
    refine v_iconst (v := 0) (pc' := 43) 21 rfl rfl (by decide) ?_
    exact v_bret 22 rfl rfl (by decide) (by decide) (by decide) ⟨_, rfl, rfl, h⟩
  replace h := h.2 hc
  refine v_aload_n (pc' := 16) 7 0 rfl rfl rfl rfl ?_
  refine v_getI (pc' := 19) 8 rfl rfl pf_X9_178 ly_436 (lay_lt ly_436 (by decide)) ?_
  refine v_aload_n (pc' := 20) 9 0 rfl rfl rfl rfl ?_
  refine v_getI (pc' := 23) 10 rfl rfl pf_X9_189 ly_436 (lay_lt ly_436 (by decide)) ?_
  refine v_isub (pc' := 24) 11 rfl rfl ?_
  refine v_bipush (v := 10) (pc' := 26) 12 rfl rfl (by decide) ?_
  refine v_icmp_gt (tgt := 42) (pc' := 29) 13 rfl rfl (by decide) (fun hc => ?_) (fun hc => ?_)
  · replace h := h.1 hc
    refine v_iconst (v := 0) (pc' := 43) 21 rfl rfl (by decide) ?_
    exact v_bret 22 rfl rfl (by decide) (by decide) (by decide) ⟨_, rfl, rfl, h⟩
  replace h := h.2 hc
  refine v_aload_n (pc' := 30) 14 0 rfl rfl rfl rfl ?_
  refine v_getL (pc' := 33) 15 rfl rfl pf_X9_174 ly_436 (lay_lt ly_436 (by decide)) ?_
  refine v_lload_n (pc' := 34) 16 1 rfl rfl rfl rfl ?_
  refine v_lc_ne (tgt := 42) (pc' := 38) 17 18 rfl rfl rfl (by decide) (fun hc => ?_) (fun hc => ?_)
  · replace h := h.1 hc
    refine v_iconst (v := 0) (pc' := 43) 21 rfl rfl (by decide) ?_
    exact v_bret 22 rfl rfl (by decide) (by decide) (by decide) ⟨_, rfl, rfl, h⟩
  replace h := h.2 hc
  refine v_iconst (v := 1) (pc' := 39) 19 rfl rfl (by decide) ?_
  refine v_goto (tgt := 43) 20 rfl (by decide) ?_
  exact v_bret 22 rfl rfl (by decide) (by decide) (by decide) ⟨_, rfl, rfl, h⟩
set_option maxHeartbeats 4000000 in
set_option maxRecDepth 100000 in
theorem ok_X9_passes {G : GT} {b d t : Nat} (p1 : Int64) (I : TI) (L : TL)  {Q : Int32 → TI → TL → Prop} (h : W_X9_passes p1 I L Q) : MW G Y_X9_passes [.ref 436, .long p1] (I, L, RT b d t, 457) (fun v9 u9 => ∃ (r9 : Int32) (I9 : TI) (L9 : TL), v9 = some (.int r9) ∧ u9 = (I9, L9, RT b d t, 457) ∧ Q r9 I9 L9) (fun _ _ => False) := by
  unfold W_X9_passes at h
  refine MW.intro rfl (by decide) is_X9_passes (Nat.le_of_ble_eq_true rfl) ?_
  show V G Y_X9_passes 0 [(0, .ref 436), (1, .long p1)] [] (I, L, RT b d t, 457) 0 0 _ _
  refine v_aload_n (pc' := 1) 0 0 rfl rfl rfl rfl ?_
  refine v_lload_n (pc' := 2) 1 1 rfl rfl rfl rfl ?_
  refine v_cV (Y2 := Y_X9_isWord) (As := [.long p1]) (b := 436) (pc' := 5) (c1 := 0) (s1 := 0) 2 rfl rfl mf_X9_isWord rfl rfl ml_X9_222 mi_X9_isWord se_X9_isWord (ci := 8) rfl ly_436 (lay_lt ly_436 (by decide)) rfl (Nat.le_of_ble_eq_true rfl) ⟨Nat.le_of_ble_eq_true rfl, Nat.le_of_ble_eq_true rfl⟩ rfl rfl (ok_X9_isWord p1 I L h) ?_ ?_
  · intro e9 u9 hx9
    exact hx9.elim
  intro v9 u9 hv9
  obtain ⟨r1794, rfl, rfl, h⟩ := hv9
  refine ⟨fun q => absurd q (Nat.lt_irrefl _), ?_⟩
  show V G Y_X9_passes 5 _ (.int r1794 :: _) _ _ _ _ _
  refine v_if_ne (tgt := 10) (pc' := 8) 3 rfl rfl (by decide) (fun hc => ?_) (fun hc => ?_)
  · replace h := h.1 hc
    refine v_aload_n (pc' := 11) 6 0 rfl rfl rfl rfl ?_
    refine v_cV (Y2 := Y_X9_next) (As := []) (b := 436) (pc' := 14) (c1 := 0) (s1 := 0) 7 rfl rfl mf_X9_next rfl rfl ml_X9_215 mi_X9_next se_X9_next (ci := 8) rfl ly_436 (lay_lt ly_436 (by decide)) rfl (Nat.le_of_ble_eq_true rfl) ⟨Nat.le_of_ble_eq_true rfl, Nat.le_of_ble_eq_true rfl⟩ rfl rfl (ok_X9_next I L h) ?_ ?_
    · intro e9 u9 hx9
      exact hx9.elim
    intro v9 u9 hv9
    obtain ⟨I1795, L1796, rfl, rfl, h⟩ := hv9
    refine ⟨fun q => absurd q (Nat.lt_irrefl _), ?_⟩
    show V G Y_X9_passes 14 _ _ _ _ _ _ _
    refine v_iconst (v := 1) (pc' := 15) 8 rfl rfl (by decide) ?_
    exact v_bret 9 rfl rfl (by decide) (by decide) (by decide) ⟨_, _, _, rfl, rfl, h⟩
  replace h := h.2 hc
  refine v_iconst (v := 0) (pc' := 9) 4 rfl rfl (by decide) ?_
  exact v_bret 5 rfl rfl (by decide) (by decide) (by decide) ⟨_, _, _, rfl, rfl, h⟩
set_option maxHeartbeats 4000000 in
set_option maxRecDepth 100000 in
theorem ok_X9_isByte {G : GT} {b d t : Nat} (p1 : Int32) (I : TI) (L : TL)  {Q : Int32 → Prop} (h : W_X9_isByte p1 I L Q) : MW G Y_X9_isByte [.ref 436, .int p1] (I, L, RT b d t, 457) (fun v9 u9 => ∃ (r9 : Int32), v9 = some (.int r9) ∧ u9 = (I, L, RT b d t, 457) ∧ Q r9) (fun _ _ => False) := by
  unfold W_X9_isByte at h
  refine MW.intro rfl (by decide) is_X9_isByte (Nat.le_of_ble_eq_true rfl) ?_
  show V G Y_X9_isByte 0 [(0, .ref 436), (1, .int p1)] [] (I, L, RT b d t, 457) 0 0 _ _
  refine v_aload_n (pc' := 1) 0 0 rfl rfl rfl rfl ?_
  refine v_cV (Y2 := Y_X9_isGood) (As := []) (b := 436) (pc' := 4) (c1 := 0) (s1 := 0) 1 rfl rfl mf_X9_isGood rfl rfl ml_X9_218 mi_X9_isGood se_X9_isGood (ci := 8) rfl ly_436 (lay_lt ly_436 (by decide)) rfl (Nat.le_of_ble_eq_true rfl) ⟨Nat.le_of_ble_eq_true rfl, Nat.le_of_ble_eq_true rfl⟩ rfl rfl (ok_X9_isGood I L h) ?_ ?_
  · intro e9 u9 hx9
    exact hx9.elim
  intro v9 u9 hv9
  obtain ⟨r1799, rfl, rfl, h⟩ := hv9
  refine ⟨fun q => absurd q (Nat.lt_irrefl _), ?_⟩
  show V G Y_X9_isByte 4 _ (.int r1799 :: _) _ _ _ _ _
  refine v_if_eq (tgt := 32) (pc' := 7) 2 rfl rfl (by decide) (fun hc => ?_) (fun hc => ?_)
  · replace h := h.1 hc
    refine v_iconst (v := 0) (pc' := 33) 16 rfl rfl (by decide) ?_
    exact v_bret 17 rfl rfl (by decide) (by decide) (by decide) ⟨_, rfl, rfl, h⟩
  replace h := h.2 hc
  refine v_aload_n (pc' := 8) 3 0 rfl rfl rfl rfl ?_
  refine v_getI (pc' := 11) 4 rfl rfl pf_X9_196 ly_436 (lay_lt ly_436 (by decide)) ?_
  refine v_iconst (v := 3) (pc' := 12) 5 rfl rfl (by decide) ?_
  refine v_icmp_ne (tgt := 32) (pc' := 15) 6 rfl rfl (by decide) (fun hc => ?_) (fun hc => ?_)
  · replace h := h.1 hc
    refine v_iconst (v := 0) (pc' := 33) 16 rfl rfl (by decide) ?_
    exact v_bret 17 rfl rfl (by decide) (by decide) (by decide) ⟨_, rfl, rfl, h⟩
  replace h := h.2 hc
  refine v_aload_n (pc' := 16) 7 0 rfl rfl rfl rfl ?_
  refine v_getR (t := 447) (pc' := 19) 8 rfl rfl pf_X9_41 ly_436 (lay_lt ly_436 (by decide)) rt_436_21 ?_
  refine v_aload_n (pc' := 20) 9 0 rfl rfl rfl rfl ?_
  refine v_getI (pc' := 23) 10 rfl rfl pf_X9_189 ly_436 (lay_lt ly_436 (by decide)) ?_
  obtain ⟨hi1800, h⟩ := h
  refine v_iald (i := (I 436 25)) (j := (I 436 25).toNatClampNeg) (pc' := 24) 11 rfl rfl ly_447 ln_447 (lay_lt ly_447 (by decide)) hi1800 rfl ?_
  refine v_iload_n (pc' := 25) 12 1 rfl rfl rfl rfl ?_
  refine v_icmp_ne (tgt := 32) (pc' := 28) 13 rfl rfl (by decide) (fun hc => ?_) (fun hc => ?_)
  · replace h := h.1 hc
    refine v_iconst (v := 0) (pc' := 33) 16 rfl rfl (by decide) ?_
    exact v_bret 17 rfl rfl (by decide) (by decide) (by decide) ⟨_, rfl, rfl, h⟩
  replace h := h.2 hc
  refine v_iconst (v := 1) (pc' := 29) 14 rfl rfl (by decide) ?_
  refine v_goto (tgt := 33) 15 rfl (by decide) ?_
  exact v_bret 17 rfl rfl (by decide) (by decide) (by decide) ⟨_, rfl, rfl, h⟩
set_option maxHeartbeats 4000000 in
set_option maxRecDepth 100000 in
theorem ok_X9_must {G : GT} {b d t : Nat} (p1 : Int32) (I : TI) (L : TL)  {Q : TI → TL → Prop} (h : W_X9_must p1 I L Q) : MW G Y_X9_must [.ref 436, .int p1] (I, L, RT b d t, 457) (fun v9 u9 => ∃ (I9 : TI) (L9 : TL), v9 = none ∧ u9 = (I9, L9, RT b d t, 457) ∧ Q I9 L9) (fun _ _ => False) := by
  unfold W_X9_must at h
  refine MW.intro rfl (by decide) is_X9_must (Nat.le_of_ble_eq_true rfl) ?_
  show V G Y_X9_must 0 [(0, .ref 436), (1, .int p1)] [] (I, L, RT b d t, 457) 0 0 _ _
  refine v_aload_n (pc' := 1) 0 0 rfl rfl rfl rfl ?_
  refine v_cV (Y2 := Y_X9_isGood) (As := []) (b := 436) (pc' := 4) (c1 := 0) (s1 := 0) 1 rfl rfl mf_X9_isGood rfl rfl ml_X9_218 mi_X9_isGood se_X9_isGood (ci := 8) rfl ly_436 (lay_lt ly_436 (by decide)) rfl (Nat.le_of_ble_eq_true rfl) ⟨Nat.le_of_ble_eq_true rfl, Nat.le_of_ble_eq_true rfl⟩ rfl rfl (ok_X9_isGood I L h) ?_ ?_
  · intro e9 u9 hx9
    exact hx9.elim
  intro v9 u9 hv9
  obtain ⟨r1807, rfl, rfl, h⟩ := hv9
  refine ⟨fun q => absurd q (Nat.lt_irrefl _), ?_⟩
  show V G Y_X9_must 4 _ (.int r1807 :: _) _ _ _ _ _
  refine v_if_ne (tgt := 8) (pc' := 7) 2 rfl rfl (by decide) (fun hc => ?_) (fun hc => ?_)
  · replace h := h.1 hc
    refine v_aload_n (pc' := 9) 4 0 rfl rfl rfl rfl ?_
    refine v_iload_n (pc' := 10) 5 1 rfl rfl rfl rfl ?_
    refine v_cV (Y2 := Y_X9_isByte) (As := [.int p1]) (b := 436) (pc' := 13) (c1 := 0) (s1 := 0) 6 rfl rfl mf_X9_isByte rfl rfl ml_X9_226 mi_X9_isByte se_X9_isByte (ci := 8) rfl ly_436 (lay_lt ly_436 (by decide)) rfl (Nat.le_of_ble_eq_true rfl) ⟨Nat.le_of_ble_eq_true rfl, Nat.le_of_ble_eq_true rfl⟩ rfl rfl (ok_X9_isByte p1 I L h) ?_ ?_
    · intro e9 u9 hx9
      exact hx9.elim
    intro v9 u9 hv9
    obtain ⟨r1808, rfl, rfl, h⟩ := hv9
    refine ⟨fun q => absurd q (Nat.lt_irrefl _), ?_⟩
    show V G Y_X9_must 13 _ (.int r1808 :: _) _ _ _ _ _
    refine v_if_eq (tgt := 23) (pc' := 16) 7 rfl rfl (by decide) (fun hc => ?_) (fun hc => ?_)
    · replace h := h.1 hc
      refine v_aload_n (pc' := 24) 11 0 rfl rfl rfl rfl ?_
      refine v_iconst (v := 1) (pc' := 25) 12 rfl rfl (by decide) ?_
      refine v_cV (Y2 := Y_X9_faults) (As := [.int 1]) (b := 436) (pc' := 28) (c1 := 0) (s1 := 0) 13 rfl rfl mf_X9_faults rfl rfl ml_X9_229 mi_X9_faults se_X9_faults (ci := 8) rfl ly_436 (lay_lt ly_436 (by decide)) rfl (Nat.le_of_ble_eq_true rfl) ⟨Nat.le_of_ble_eq_true rfl, Nat.le_of_ble_eq_true rfl⟩ rfl rfl (ok_X9_faults (1 : Int32) I L h) ?_ ?_
      · intro e9 u9 hx9
        exact hx9.elim
      intro v9 u9 hv9
      obtain ⟨r1809, I1810, rfl, rfl, h⟩ := hv9
      refine ⟨fun q => absurd q (Nat.lt_irrefl _), ?_⟩
      show V G Y_X9_must 28 _ (.int r1809 :: _) _ _ _ _ _
      refine v_pop (pc' := 29) 14 rfl rfl rfl ?_
      exact v_vret 15 rfl rfl (by decide) (by decide) ⟨_, _, rfl, rfl, h⟩
    replace h := h.2 hc
    refine v_aload_n (pc' := 17) 8 0 rfl rfl rfl rfl ?_
    refine v_cV (Y2 := Y_X9_next) (As := []) (b := 436) (pc' := 20) (c1 := 0) (s1 := 0) 9 rfl rfl mf_X9_next rfl rfl ml_X9_215 mi_X9_next se_X9_next (ci := 8) rfl ly_436 (lay_lt ly_436 (by decide)) rfl (Nat.le_of_ble_eq_true rfl) ⟨Nat.le_of_ble_eq_true rfl, Nat.le_of_ble_eq_true rfl⟩ rfl rfl (ok_X9_next I L h) ?_ ?_
    · intro e9 u9 hx9
      exact hx9.elim
    intro v9 u9 hv9
    obtain ⟨I1811, L1812, rfl, rfl, h⟩ := hv9
    refine ⟨fun q => absurd q (Nat.lt_irrefl _), ?_⟩
    show V G Y_X9_must 20 _ _ _ _ _ _ _
    refine v_goto (tgt := 29) 10 rfl (by decide) ?_
    exact v_vret 15 rfl rfl (by decide) (by decide) ⟨_, _, rfl, rfl, h⟩
  replace h := h.2 hc
  exact v_vret 3 rfl rfl (by decide) (by decide) ⟨_, _, rfl, rfl, h⟩
set_option maxHeartbeats 4000000 in
set_option maxRecDepth 100000 in
theorem b_X9_number_47 {G : GT} {b d t : Nat} (v1 : Int32) (I : TI) (L : TL)  (Q : Int32 → TI → TL → Prop)  (h : B_X9_number_47 v1 I L Q) : V G Y_X9_number 47 [(0, .ref 436), (1, .int v1)] [] (I, L, RT b d t, 457) 0 0 (fun v9 u9 => ∃ (r9 : Int32) (I9 : TI) (L9 : TL), v9 = some (.int r9) ∧ u9 = (I9, L9, RT b d t, 457) ∧ Q r9 I9 L9) (fun _ _ => False) := by
  unfold B_X9_number_47 at h
  refine v_aload_n (pc' := 48) 27 0 rfl rfl rfl rfl ?_
  refine v_cV (Y2 := Y_X9_isGood) (As := []) (b := 436) (pc' := 51) (c1 := 0) (s1 := 0) 28 rfl rfl mf_X9_isGood rfl rfl ml_X9_218 mi_X9_isGood se_X9_isGood (ci := 8) rfl ly_436 (lay_lt ly_436 (by decide)) rfl (Nat.le_of_ble_eq_true rfl) ⟨Nat.le_of_ble_eq_true rfl, Nat.le_of_ble_eq_true rfl⟩ rfl rfl (ok_X9_isGood I L h) ?_ ?_
  · intro e9 u9 hx9
    exact hx9.elim
  intro v9 u9 hv9
  obtain ⟨r1831, rfl, rfl, h⟩ := hv9
  refine ⟨fun q => absurd q (Nat.lt_irrefl _), ?_⟩
  show V G Y_X9_number 51 _ (.int r1831 :: _) _ _ _ _ _
  refine v_if_ne (tgt := 56) (pc' := 54) 29 rfl rfl (by decide) (fun hc => ?_) (fun hc => ?_)
  · replace h := h.1 hc
    refine v_aload_n (pc' := 57) 32 0 rfl rfl rfl rfl ?_
    refine v_getI (pc' := 60) 33 rfl rfl pf_X9_199 ly_436 (lay_lt ly_436 (by decide)) ?_
    refine v_istore_n (ls' := [(3, .int (I 436 27)), (0, .ref 436), (1, .int v1)]) (pc' := 61) 34 rfl rfl rfl (by decide) rfl ?_
    refine v_aload_n (pc' := 62) 35 1 rfl rfl rfl rfl ?_
    refine v_cV (Y2 := Y_X9_next) (As := []) (b := 436) (pc' := 65) (c1 := 0) (s1 := 0) 36 rfl rfl mf_X9_next rfl rfl ml_X9_215 mi_X9_next se_X9_next (ci := 8) rfl ly_436 (lay_lt ly_436 (by decide)) rfl (Nat.le_of_ble_eq_true rfl) ⟨Nat.le_of_ble_eq_true rfl, Nat.le_of_ble_eq_true rfl⟩ rfl rfl (ok_X9_next I L h) ?_ ?_
    · intro e9 u9 hx9
      exact hx9.elim
    intro v9 u9 hv9
    obtain ⟨I1832, L1833, rfl, rfl, h⟩ := hv9
    refine ⟨fun q => absurd q (Nat.lt_irrefl _), ?_⟩
    show V G Y_X9_number 65 _ _ _ _ _ _ _
    refine v_iload_n (pc' := 66) 37 0 rfl rfl rfl rfl ?_
    exact v_iret 38 rfl rfl (by decide) (by decide) ⟨_, _, _, rfl, rfl, h⟩
  replace h := h.2 hc
  refine v_iload_n (pc' := 55) 30 1 rfl rfl rfl rfl ?_
  exact v_iret 31 rfl rfl (by decide) (by decide) ⟨_, _, _, rfl, rfl, h⟩
set_option maxHeartbeats 4000000 in
set_option maxRecDepth 100000 in
theorem ok_X9_number {G : GT} {b d t : Nat} (p1 : Int32) (p2 : Int32) (I : TI) (L : TL)  {Q : Int32 → TI → TL → Prop} (h : W_X9_number p1 p2 I L Q) : MW G Y_X9_number [.ref 436, .int p1, .int p2] (I, L, RT b d t, 457) (fun v9 u9 => ∃ (r9 : Int32) (I9 : TI) (L9 : TL), v9 = some (.int r9) ∧ u9 = (I9, L9, RT b d t, 457) ∧ Q r9 I9 L9) (fun _ _ => False) := by
  unfold W_X9_number at h
  refine MW.intro rfl (by decide) is_X9_number (Nat.le_of_ble_eq_true rfl) ?_
  show V G Y_X9_number 0 [(0, .ref 436), (1, .int p1), (2, .int p2)] [] (I, L, RT b d t, 457) 0 0 _ _
  refine v_aload_n (pc' := 1) 0 0 rfl rfl rfl rfl ?_
  refine v_cV (Y2 := Y_X9_isGood) (As := []) (b := 436) (pc' := 4) (c1 := 0) (s1 := 0) 1 rfl rfl mf_X9_isGood rfl rfl ml_X9_218 mi_X9_isGood se_X9_isGood (ci := 8) rfl ly_436 (lay_lt ly_436 (by decide)) rfl (Nat.le_of_ble_eq_true rfl) ⟨Nat.le_of_ble_eq_true rfl, Nat.le_of_ble_eq_true rfl⟩ rfl rfl (ok_X9_isGood I L h) ?_ ?_
  · intro e9 u9 hx9
    exact hx9.elim
  intro v9 u9 hv9
  obtain ⟨r1834, rfl, rfl, h⟩ := hv9
  refine ⟨fun q => absurd q (Nat.lt_irrefl _), ?_⟩
  show V G Y_X9_number 4 _ (.int r1834 :: _) _ _ _ _ _
  refine v_if_ne (tgt := 9) (pc' := 7) 2 rfl rfl (by decide) (fun hc => ?_) (fun hc => ?_)
  · replace h := h.1 hc
    refine v_aload_n (pc' := 10) 5 0 rfl rfl rfl rfl ?_
    refine v_getI (pc' := 13) 6 rfl rfl pf_X9_196 ly_436 (lay_lt ly_436 (by decide)) ?_
    refine v_iconst (v := 2) (pc' := 14) 7 rfl rfl (by decide) ?_
    refine v_icmp_eq (tgt := 26) (pc' := 17) 8 rfl rfl (by decide) (fun hc => ?_) (fun hc => ?_)
    · replace h := h.1 hc
      refine v_aload_n (pc' := 27) 14 0 rfl rfl rfl rfl ?_
      refine v_getI (pc' := 30) 15 rfl rfl pf_X9_199 ly_436 (lay_lt ly_436 (by decide)) ?_
      refine v_i2l (pc' := 31) 16 rfl rfl ?_
      refine v_iload_n (pc' := 32) 17 1 rfl rfl rfl rfl ?_
      refine v_i2l (pc' := 33) 18 rfl rfl ?_
      refine v_iload_n (pc' := 34) 19 2 rfl rfl rfl rfl ?_
      refine v_i2l (pc' := 35) 20 rfl rfl ?_
      refine v_cS (Y2 := Y_X9_in) (As := [.long ((I 436 27).toInt64), .long (p1.toInt64), .long (p2.toInt64)]) (pc' := 38) (c1 := 0) (s1 := 0) 21 rfl rfl mf_X9_in rfl rfl ml_X9_232 ms_X9_in rfl (Nat.le_of_ble_eq_true rfl) ⟨Nat.le_of_ble_eq_true rfl, Nat.le_of_ble_eq_true rfl⟩ rfl rfl (ok_X9_in ((I 436 27).toInt64) (p1.toInt64) (p2.toInt64) I L h) ?_ ?_
      · intro e9 u9 hx9
        exact hx9.elim
      intro v9 u9 hv9
      obtain ⟨r1835, rfl, rfl, h⟩ := hv9
      refine ⟨fun q => absurd q (Nat.lt_irrefl _), ?_⟩
      show V G Y_X9_number 38 _ (.int r1835 :: _) _ _ _ _ _
      refine v_if_ne (tgt := 47) (pc' := 41) 22 rfl rfl (by decide) (fun hc => ?_) (fun hc => ?_)
      · replace h := h.1 hc
        refine V.sub [0, 1] rfl ?_
        exact b_X9_number_47 p1 I L Q h
      replace h := h.2 hc
      refine v_aload_n (pc' := 42) 23 0 rfl rfl rfl rfl ?_
      refine v_iconst (v := 2) (pc' := 43) 24 rfl rfl (by decide) ?_
      refine v_cV (Y2 := Y_X9_faults) (As := [.int 2]) (b := 436) (pc' := 46) (c1 := 0) (s1 := 0) 25 rfl rfl mf_X9_faults rfl rfl ml_X9_229 mi_X9_faults se_X9_faults (ci := 8) rfl ly_436 (lay_lt ly_436 (by decide)) rfl (Nat.le_of_ble_eq_true rfl) ⟨Nat.le_of_ble_eq_true rfl, Nat.le_of_ble_eq_true rfl⟩ rfl rfl (ok_X9_faults (2 : Int32) I L h) ?_ ?_
      · intro e9 u9 hx9
        exact hx9.elim
      intro v9 u9 hv9
      obtain ⟨r1836, I1837, rfl, rfl, h⟩ := hv9
      refine ⟨fun q => absurd q (Nat.lt_irrefl _), ?_⟩
      show V G Y_X9_number 46 _ (.int r1836 :: _) _ _ _ _ _
      refine v_pop (pc' := 47) 26 rfl rfl rfl ?_
      refine V.sub [0, 1] rfl ?_
      exact b_X9_number_47 p1 I1837 L Q h
    replace h := h.2 hc
    refine v_aload_n (pc' := 18) 9 0 rfl rfl rfl rfl ?_
    refine v_iconst (v := 1) (pc' := 19) 10 rfl rfl (by decide) ?_
    refine v_cV (Y2 := Y_X9_faults) (As := [.int 1]) (b := 436) (pc' := 22) (c1 := 0) (s1 := 0) 11 rfl rfl mf_X9_faults rfl rfl ml_X9_229 mi_X9_faults se_X9_faults (ci := 8) rfl ly_436 (lay_lt ly_436 (by decide)) rfl (Nat.le_of_ble_eq_true rfl) ⟨Nat.le_of_ble_eq_true rfl, Nat.le_of_ble_eq_true rfl⟩ rfl rfl (ok_X9_faults (1 : Int32) I L h) ?_ ?_
    · intro e9 u9 hx9
      exact hx9.elim
    intro v9 u9 hv9
    obtain ⟨r1838, I1839, rfl, rfl, h⟩ := hv9
    refine ⟨fun q => absurd q (Nat.lt_irrefl _), ?_⟩
    show V G Y_X9_number 22 _ (.int r1838 :: _) _ _ _ _ _
    refine v_pop (pc' := 23) 12 rfl rfl rfl ?_
    refine v_goto (tgt := 47) 13 rfl (by decide) ?_
    refine V.sub [0, 1] rfl ?_
    exact b_X9_number_47 p1 I1839 L Q h
  replace h := h.2 hc
  refine v_iload_n (pc' := 8) 3 1 rfl rfl rfl rfl ?_
  exact v_iret 4 rfl rfl (by decide) (by decide) ⟨_, _, _, rfl, rfl, h⟩
set_option maxHeartbeats 4000000 in
set_option maxRecDepth 100000 in
theorem b_X9_headRead_16 {G : GT} {b d t : Nat} (I : TI) (L : TL)  (Q : TI → TL → Prop)  (h : B_X9_headRead_16 I L Q) : V G Y_X9_headRead 16 [(0, .ref 436)] [] (I, L, RT b d t, 457) 0 0 (fun v9 u9 => ∃ (I9 : TI) (L9 : TL), v9 = none ∧ u9 = (I9, L9, RT b d t, 457) ∧ Q I9 L9) (fun _ _ => False) := by
  unfold B_X9_headRead_16 at h
  refine v_aload_n (pc' := 17) 8 0 rfl rfl rfl rfl ?_
  refine v_iconst (v := 4) (pc' := 18) 9 rfl rfl (by decide) ?_
  refine v_bipush (v := 60) (pc' := 20) 10 rfl rfl (by decide) ?_
  refine v_cV (Y2 := Y_X9_number) (As := [.int 4, .int 60]) (b := 436) (pc' := 23) (c1 := 0) (s1 := 0) 11 rfl rfl mf_X9_number rfl rfl ml_X9_241 mi_X9_number se_X9_number (ci := 8) rfl ly_436 (lay_lt ly_436 (by decide)) rfl (Nat.le_of_ble_eq_true rfl) ⟨Nat.le_of_ble_eq_true rfl, Nat.le_of_ble_eq_true rfl⟩ rfl rfl (ok_X9_number (4 : Int32) (60 : Int32) I L h) ?_ ?_
  · intro e9 u9 hx9
    exact hx9.elim
  intro v9 u9 hv9
  obtain ⟨r1884, I1885, L1886, rfl, rfl, h⟩ := hv9
  refine ⟨fun q => absurd q (Nat.lt_irrefl _), ?_⟩
  show V G Y_X9_headRead 23 _ (.int r1884 :: _) _ _ _ _ _
  refine v_istore_n (ls' := [(1, .int r1884), (0, .ref 436)]) (pc' := 24) 12 rfl rfl rfl (by decide) rfl ?_
  refine v_aload_n (pc' := 25) 13 1 rfl rfl rfl rfl ?_
  refine v_iconst (v := 1) (pc' := 26) 14 rfl rfl (by decide) ?_
  refine v_bipush (v := 20) (pc' := 28) 15 rfl rfl (by decide) ?_
  refine v_cV (Y2 := Y_X9_number) (As := [.int 1, .int 20]) (b := 436) (pc' := 31) (c1 := 0) (s1 := 0) 16 rfl rfl mf_X9_number rfl rfl ml_X9_241 mi_X9_number se_X9_number (ci := 8) rfl ly_436 (lay_lt ly_436 (by decide)) rfl (Nat.le_of_ble_eq_true rfl) ⟨Nat.le_of_ble_eq_true rfl, Nat.le_of_ble_eq_true rfl⟩ rfl rfl (ok_X9_number (1 : Int32) (20 : Int32) I1885 L1886 h) ?_ ?_
  · intro e9 u9 hx9
    exact hx9.elim
  intro v9 u9 hv9
  obtain ⟨r1887, I1888, L1889, rfl, rfl, h⟩ := hv9
  refine ⟨fun q => absurd q (Nat.lt_irrefl _), ?_⟩
  show V G Y_X9_headRead 31 _ (.int r1887 :: _) _ _ _ _ _
  refine v_istore_n (ls' := [(2, .int r1887), (1, .int r1884), (0, .ref 436)]) (pc' := 32) 17 rfl rfl rfl (by decide) rfl ?_
  refine v_aload_n (pc' := 33) 18 2 rfl rfl rfl rfl ?_
  refine v_iconst (v := 0) (pc' := 34) 19 rfl rfl (by decide) ?_
  refine v_bipush (v := 9) (pc' := 36) 20 rfl rfl (by decide) ?_
  refine v_cV (Y2 := Y_X9_number) (As := [.int 0, .int 9]) (b := 436) (pc' := 39) (c1 := 0) (s1 := 0) 21 rfl rfl mf_X9_number rfl rfl ml_X9_241 mi_X9_number se_X9_number (ci := 8) rfl ly_436 (lay_lt ly_436 (by decide)) rfl (Nat.le_of_ble_eq_true rfl) ⟨Nat.le_of_ble_eq_true rfl, Nat.le_of_ble_eq_true rfl⟩ rfl rfl (ok_X9_number (0 : Int32) (9 : Int32) I1888 L1889 h) ?_ ?_
  · intro e9 u9 hx9
    exact hx9.elim
  intro v9 u9 hv9
  obtain ⟨r1890, I1891, L1892, rfl, rfl, h⟩ := hv9
  refine ⟨fun q => absurd q (Nat.lt_irrefl _), ?_⟩
  show V G Y_X9_headRead 39 _ (.int r1890 :: _) _ _ _ _ _
  refine v_istore_n (ls' := [(3, .int r1890), (2, .int r1887), (1, .int r1884), (0, .ref 436)]) (pc' := 40) 22 rfl rfl rfl (by decide) rfl ?_
  refine v_aload_n (pc' := 41) 23 3 rfl rfl rfl rfl ?_
  refine v_iconst (v := 0) (pc' := 42) 24 rfl rfl (by decide) ?_
  refine v_bipush (v := 99) (pc' := 44) 25 rfl rfl (by decide) ?_
  refine v_cV (Y2 := Y_X9_number) (As := [.int 0, .int 99]) (b := 436) (pc' := 47) (c1 := 0) (s1 := 0) 26 rfl rfl mf_X9_number rfl rfl ml_X9_241 mi_X9_number se_X9_number (ci := 8) rfl ly_436 (lay_lt ly_436 (by decide)) rfl (Nat.le_of_ble_eq_true rfl) ⟨Nat.le_of_ble_eq_true rfl, Nat.le_of_ble_eq_true rfl⟩ rfl rfl (ok_X9_number (0 : Int32) (99 : Int32) I1891 L1892 h) ?_ ?_
  · intro e9 u9 hx9
    exact hx9.elim
  intro v9 u9 hv9
  obtain ⟨r1893, I1894, L1895, rfl, rfl, h⟩ := hv9
  refine ⟨fun q => absurd q (Nat.lt_irrefl _), ?_⟩
  show V G Y_X9_headRead 47 _ (.int r1893 :: _) _ _ _ _ _
  refine v_istore (ls' := [(4, .int r1893), (3, .int r1890), (2, .int r1887), (1, .int r1884), (0, .ref 436)]) (pc' := 49) 27 rfl rfl (by decide) rfl ?_
  refine v_aload_n (pc' := 50) 28 4 rfl rfl rfl rfl ?_
  refine v_bipush (v := 59) (pc' := 52) 29 rfl rfl (by decide) ?_
  refine v_cV (Y2 := Y_X9_must) (As := [.int 59]) (b := 436) (pc' := 55) (c1 := 0) (s1 := 0) 30 rfl rfl mf_X9_must rfl rfl ml_X9_244 mi_X9_must se_X9_must (ci := 8) rfl ly_436 (lay_lt ly_436 (by decide)) rfl (Nat.le_of_ble_eq_true rfl) ⟨Nat.le_of_ble_eq_true rfl, Nat.le_of_ble_eq_true rfl⟩ rfl rfl (ok_X9_must (59 : Int32) I1894 L1895 h) ?_ ?_
  · intro e9 u9 hx9
    exact hx9.elim
  intro v9 u9 hv9
  obtain ⟨I1896, L1897, rfl, rfl, h⟩ := hv9
  refine ⟨fun q => absurd q (Nat.lt_irrefl _), ?_⟩
  show V G Y_X9_headRead 55 _ _ _ _ _ _ _
  refine v_aload_n (pc' := 56) 31 4 rfl rfl rfl rfl ?_
  refine v_cV (Y2 := Y_X9_isGood) (As := []) (b := 436) (pc' := 59) (c1 := 0) (s1 := 0) 32 rfl rfl mf_X9_isGood rfl rfl ml_X9_218 mi_X9_isGood se_X9_isGood (ci := 8) rfl ly_436 (lay_lt ly_436 (by decide)) rfl (Nat.le_of_ble_eq_true rfl) ⟨Nat.le_of_ble_eq_true rfl, Nat.le_of_ble_eq_true rfl⟩ rfl rfl (ok_X9_isGood I1896 L1897 h) ?_ ?_
  · intro e9 u9 hx9
    exact hx9.elim
  intro v9 u9 hv9
  obtain ⟨r1898, rfl, rfl, h⟩ := hv9
  refine ⟨fun q => absurd q (Nat.lt_irrefl _), ?_⟩
  show V G Y_X9_headRead 59 _ (.int r1898 :: _) _ _ _ _ _
  refine v_if_eq (tgt := 71) (pc' := 62) 33 rfl rfl (by decide) (fun hc => ?_) (fun hc => ?_)
  · replace h := h.1 hc
    exact v_vret 40 rfl rfl (by decide) (by decide) ⟨_, _, rfl, rfl, h⟩
  replace h := h.2 hc
  refine v_aload_n (pc' := 63) 34 4 rfl rfl rfl rfl ?_
  refine v_iload_n (pc' := 64) 35 3 rfl rfl rfl rfl ?_
  refine v_iload_n (pc' := 65) 36 2 rfl rfl rfl rfl ?_
  refine v_iload_n (pc' := 66) 37 1 rfl rfl rfl rfl ?_
  refine v_iload (pc' := 68) 38 0 rfl rfl rfl ?_
  refine v_cV (Y2 := Y_X9_begins) (As := [.int r1884, .int r1887, .int r1890, .int r1893]) (b := 436) (pc' := 71) (c1 := 0) (s1 := 0) 39 rfl rfl mf_X9_begins rfl rfl ml_X9_73 mi_X9_begins se_X9_begins (ci := 8) rfl ly_436 (lay_lt ly_436 (by decide)) rfl (Nat.le_of_ble_eq_true rfl) ⟨Nat.le_of_ble_eq_true rfl, Nat.le_of_ble_eq_true rfl⟩ rfl rfl (ok_X9_begins r1884 r1887 r1890 r1893 I1896 L1897 h) ?_ ?_
  · intro e9 u9 hx9
    exact hx9.elim
  intro v9 u9 hv9
  obtain ⟨I1899, L1900, rfl, rfl, h⟩ := hv9
  refine ⟨fun q => absurd q (Nat.lt_irrefl _), ?_⟩
  show V G Y_X9_headRead 71 _ _ _ _ _ _ _
  exact v_vret 40 rfl rfl (by decide) (by decide) ⟨_, _, rfl, rfl, h⟩
set_option maxHeartbeats 4000000 in
set_option maxRecDepth 100000 in
theorem ok_X9_headRead {G : GT} {b d t : Nat} (I : TI) (L : TL)  {Q : TI → TL → Prop} (h : W_X9_headRead I L Q) : MW G Y_X9_headRead [.ref 436] (I, L, RT b d t, 457) (fun v9 u9 => ∃ (I9 : TI) (L9 : TL), v9 = none ∧ u9 = (I9, L9, RT b d t, 457) ∧ Q I9 L9) (fun _ _ => False) := by
  unfold W_X9_headRead at h
  refine MW.intro rfl (by decide) is_X9_headRead (Nat.le_of_ble_eq_true rfl) ?_
  show V G Y_X9_headRead 0 [(0, .ref 436)] [] (I, L, RT b d t, 457) 0 0 _ _
  refine v_aload_n (pc' := 1) 0 0 rfl rfl rfl rfl ?_
  refine v_ldc2 (v := 1171592) (pc' := 4) 1 rfl rfl kl_X9_236 ?_
  refine v_cV (Y2 := Y_X9_passes) (As := [.long 1171592]) (b := 436) (pc' := 7) (c1 := 0) (s1 := 0) 2 rfl rfl mf_X9_passes rfl rfl ml_X9_238 mi_X9_passes se_X9_passes (ci := 8) rfl ly_436 (lay_lt ly_436 (by decide)) rfl (Nat.le_of_ble_eq_true rfl) ⟨Nat.le_of_ble_eq_true rfl, Nat.le_of_ble_eq_true rfl⟩ rfl rfl (ok_X9_passes (1171592 : Int64) I L h) ?_ ?_
  · intro e9 u9 hx9
    exact hx9.elim
  intro v9 u9 hv9
  obtain ⟨r1901, I1902, L1903, rfl, rfl, h⟩ := hv9
  refine ⟨fun q => absurd q (Nat.lt_irrefl _), ?_⟩
  show V G Y_X9_headRead 7 _ (.int r1901 :: _) _ _ _ _ _
  refine v_if_ne (tgt := 16) (pc' := 10) 3 rfl rfl (by decide) (fun hc => ?_) (fun hc => ?_)
  · replace h := h.1 hc
    exact b_X9_headRead_16 I1902 L1903 Q h
  replace h := h.2 hc
  refine v_aload_n (pc' := 11) 4 0 rfl rfl rfl rfl ?_
  refine v_iconst (v := 1) (pc' := 12) 5 rfl rfl (by decide) ?_
  refine v_cV (Y2 := Y_X9_faults) (As := [.int 1]) (b := 436) (pc' := 15) (c1 := 0) (s1 := 0) 6 rfl rfl mf_X9_faults rfl rfl ml_X9_229 mi_X9_faults se_X9_faults (ci := 8) rfl ly_436 (lay_lt ly_436 (by decide)) rfl (Nat.le_of_ble_eq_true rfl) ⟨Nat.le_of_ble_eq_true rfl, Nat.le_of_ble_eq_true rfl⟩ rfl rfl (ok_X9_faults (1 : Int32) I1902 L1903 h) ?_ ?_
  · intro e9 u9 hx9
    exact hx9.elim
  intro v9 u9 hv9
  obtain ⟨r1904, I1905, rfl, rfl, h⟩ := hv9
  refine ⟨fun q => absurd q (Nat.lt_irrefl _), ?_⟩
  show V G Y_X9_headRead 15 _ (.int r1904 :: _) _ _ _ _ _
  refine v_pop (pc' := 16) 7 rfl rfl rfl ?_
  exact b_X9_headRead_16 I1905 L1903 Q h
set_option maxHeartbeats 4000000 in
set_option maxRecDepth 100000 in
theorem b_X9_inputRead_130 {G : GT} {b d t : Nat} (v3 : Int64) (I : TI) (L : TL)  (Q : TI → TL → Prop)  (h : B_X9_inputRead_130 v3 I L Q) : V G Y_X9_inputRead 130 [(0, .ref 436), (3, .long v3)] [] (I, L, RT b d t, 457) 0 0 (fun v9 u9 => ∃ (I9 : TI) (L9 : TL), v9 = none ∧ u9 = (I9, L9, RT b d t, 457) ∧ Q I9 L9) (fun _ _ => False) := by
  unfold B_X9_inputRead_130 at h
  refine v_aload_n (pc' := 131) 72 0 rfl rfl rfl rfl ?_
  refine v_bipush (v := 59) (pc' := 133) 73 rfl rfl (by decide) ?_
  refine v_cV (Y2 := Y_X9_must) (As := [.int 59]) (b := 436) (pc' := 136) (c1 := 0) (s1 := 0) 74 rfl rfl mf_X9_must rfl rfl ml_X9_244 mi_X9_must se_X9_must (ci := 8) rfl ly_436 (lay_lt ly_436 (by decide)) rfl (Nat.le_of_ble_eq_true rfl) ⟨Nat.le_of_ble_eq_true rfl, Nat.le_of_ble_eq_true rfl⟩ rfl rfl (ok_X9_must (59 : Int32) I L h) ?_ ?_
  · intro e9 u9 hx9
    exact hx9.elim
  intro v9 u9 hv9
  obtain ⟨I1959, L1960, rfl, rfl, h⟩ := hv9
  refine ⟨fun q => absurd q (Nat.lt_irrefl _), ?_⟩
  show V G Y_X9_inputRead 136 _ _ _ _ _ _ _
  refine v_aload_n (pc' := 137) 75 0 rfl rfl rfl rfl ?_
  refine v_cV (Y2 := Y_X9_isGood) (As := []) (b := 436) (pc' := 140) (c1 := 0) (s1 := 0) 76 rfl rfl mf_X9_isGood rfl rfl ml_X9_218 mi_X9_isGood se_X9_isGood (ci := 8) rfl ly_436 (lay_lt ly_436 (by decide)) rfl (Nat.le_of_ble_eq_true rfl) ⟨Nat.le_of_ble_eq_true rfl, Nat.le_of_ble_eq_true rfl⟩ rfl rfl (ok_X9_isGood I1959 L1960 h) ?_ ?_
  · intro e9 u9 hx9
    exact hx9.elim
  intro v9 u9 hv9
  obtain ⟨r1961, rfl, rfl, h⟩ := hv9
  refine ⟨fun q => absurd q (Nat.lt_irrefl _), ?_⟩
  show V G Y_X9_inputRead 140 _ (.int r1961 :: _) _ _ _ _ _
  refine v_if_ne (tgt := 144) (pc' := 143) 77 rfl rfl (by decide) (fun hc => ?_) (fun hc => ?_)
  · replace h := h.1 hc
    refine v_aload_n (pc' := 145) 79 0 rfl rfl rfl rfl ?_
    refine v_getR (t := 437) (pc' := 148) 80 rfl rfl pf_X9_7 ly_436 (lay_lt ly_436 (by decide)) rt_436_1 ?_
    refine v_iconst (v := 5) (pc' := 149) 81 rfl rfl (by decide) ?_
    refine v_aload_n (pc' := 150) 82 0 rfl rfl rfl rfl ?_
    refine v_getI (pc' := 153) 83 rfl rfl pf_X9_77 ly_436 (lay_lt ly_436 (by decide)) ?_
    refine v_iadd (pc' := 154) 84 rfl rfl ?_
    refine v_lload_n (pc' := 155) 85 1 rfl rfl rfl rfl ?_
    obtain ⟨hi1962, h⟩ := h
    refine v_last (i := ((5 : Int32) + (I1959 436 10))) (j := ((5 : Int32) + (I1959 436 10)).toNatClampNeg) (pc' := 156) 86 rfl rfl ly_437 ln_437 (lay_lt ly_437 (by decide)) hi1962 rfl ?_
    refine nm_N (e := (up2 L1960 437 (((5 : Int32) + (I1959 436 10)).toNatClampNeg) v3)) (fun L1963 hL1963 => ?_)
    replace h := h L1963 hL1963
    refine v_aload_n (pc' := 157) 87 0 rfl rfl rfl rfl ?_
    refine v_dup (pc' := 158) 88 rfl rfl rfl ?_
    refine v_getI (pc' := 161) 89 rfl rfl pf_X9_77 ly_436 (lay_lt ly_436 (by decide)) ?_
    refine v_iconst (v := 1) (pc' := 162) 90 rfl rfl (by decide) ?_
    refine v_iadd (pc' := 163) 91 rfl rfl ?_
    refine v_putI (pc' := 166) 92 rfl rfl pf_X9_77 (fun q => absurd q (by decide)) ly_436 (lay_lt ly_436 (by decide)) ?_
    exact v_vret 93 rfl rfl (by decide) (by decide) ⟨_, _, rfl, rfl, h⟩
  replace h := h.2 hc
  exact v_vret 78 rfl rfl (by decide) (by decide) ⟨_, _, rfl, rfl, h⟩
set_option maxHeartbeats 4000000 in
set_option maxRecDepth 100000 in
theorem b_X9_inputRead_99 {G : GT} {b d t : Nat} (v3 : Int64) (I : TI) (L : TL)  (Q : TI → TL → Prop) (R53 : Int32 → Int64 → TI → TL → Prop) (hR53 : ∀ (v2 : Int32) (v3 : Int64) (I : TI) (L : TL), R53 v2 v3 I L → V G Y_X9_inputRead 53 [(0, .ref 436), (2, .int v2), (3, .long v3)] [] (I, L, RT b d t, 457) 0 0 (fun v9 u9 => ∃ (I9 : TI) (L9 : TL), v9 = none ∧ u9 = (I9, L9, RT b d t, 457) ∧ Q I9 L9) (fun _ _ => False)) (h : B_X9_inputRead_99 v3 I L Q R53) : V G Y_X9_inputRead 99 [(0, .ref 436), (3, .long v3)] [] (I, L, RT b d t, 457) 0 0 (fun v9 u9 => ∃ (I9 : TI) (L9 : TL), v9 = none ∧ u9 = (I9, L9, RT b d t, 457) ∧ Q I9 L9) (fun _ _ => False) := by
  unfold B_X9_inputRead_99 at h
  refine v_aload_n (pc' := 100) 55 0 rfl rfl rfl rfl ?_
  refine v_iconst (v := 1) (pc' := 101) 56 rfl rfl (by decide) ?_
  refine v_aload_n (pc' := 102) 57 0 rfl rfl rfl rfl ?_
  refine v_getI (pc' := 105) 58 rfl rfl pf_X9_86 ly_436 (lay_lt ly_436 (by decide)) ?_
  refine v_cV (Y2 := Y_X9_number) (As := [.int 1, .int (I 436 7)]) (b := 436) (pc' := 108) (c1 := 0) (s1 := 0) 59 rfl rfl mf_X9_number rfl rfl ml_X9_241 mi_X9_number se_X9_number (ci := 8) rfl ly_436 (lay_lt ly_436 (by decide)) rfl (Nat.le_of_ble_eq_true rfl) ⟨Nat.le_of_ble_eq_true rfl, Nat.le_of_ble_eq_true rfl⟩ rfl rfl (ok_X9_number (1 : Int32) (I 436 7) I L h) ?_ ?_
  · intro e9 u9 hx9
    exact hx9.elim
  intro v9 u9 hv9
  obtain ⟨r1964, I1965, L1966, rfl, rfl, h⟩ := hv9
  refine ⟨fun q => absurd q (Nat.lt_irrefl _), ?_⟩
  show V G Y_X9_inputRead 108 _ (.int r1964 :: _) _ _ _ _ _
  refine v_istore_n (ls' := [(2, .int r1964), (0, .ref 436), (3, .long v3)]) (pc' := 109) 60 rfl rfl rfl (by decide) rfl ?_
  refine v_aload_n (pc' := 110) 61 1 rfl rfl rfl rfl ?_
  refine v_cV (Y2 := Y_X9_isGood) (As := []) (b := 436) (pc' := 113) (c1 := 0) (s1 := 0) 62 rfl rfl mf_X9_isGood rfl rfl ml_X9_218 mi_X9_isGood se_X9_isGood (ci := 8) rfl ly_436 (lay_lt ly_436 (by decide)) rfl (Nat.le_of_ble_eq_true rfl) ⟨Nat.le_of_ble_eq_true rfl, Nat.le_of_ble_eq_true rfl⟩ rfl rfl (ok_X9_isGood I1965 L1966 h) ?_ ?_
  · intro e9 u9 hx9
    exact hx9.elim
  intro v9 u9 hv9
  obtain ⟨r1967, rfl, rfl, h⟩ := hv9
  refine ⟨fun q => absurd q (Nat.lt_irrefl _), ?_⟩
  show V G Y_X9_inputRead 113 _ (.int r1967 :: _) _ _ _ _ _
  refine v_if_eq (tgt := 53) (pc' := 116) 63 rfl rfl (by decide) (fun hc => ?_) (fun hc => ?_)
  · replace h := h.1 hc
    refine V.sub [1, 0, 2] rfl ?_
    exact hR53 r1964 v3 I1965 L1966 h
  replace h := h.2 hc
  refine v_lload_n (pc' := 117) 64 2 rfl rfl rfl rfl ?_
  refine v_iload_n (pc' := 118) 65 0 rfl rfl rfl rfl ?_
  refine v_aload_n (pc' := 119) 66 1 rfl rfl rfl rfl ?_
  refine v_getI (pc' := 122) 67 rfl rfl pf_X9_86 ly_436 (lay_lt ly_436 (by decide)) ?_
  refine v_cS (Y2 := Y_X9_times) (As := [.int r1964, .int (I1965 436 7)]) (pc' := 125) (c1 := 0) (s1 := 0) 68 rfl rfl mf_X9_times rfl rfl ml_X9_107 ms_X9_times rfl (Nat.le_of_ble_eq_true rfl) ⟨Nat.le_of_ble_eq_true rfl, Nat.le_of_ble_eq_true rfl⟩ rfl rfl (ok_X9_times r1964 (I1965 436 7) I1965 L1966 h) ?_ ?_
  · intro e9 u9 hx9
    exact hx9.elim
  intro v9 u9 hv9
  obtain ⟨r1968, rfl, rfl, h⟩ := hv9
  refine ⟨fun q => absurd q (Nat.lt_irrefl _), ?_⟩
  show V G Y_X9_inputRead 125 _ (.long r1968 :: _) _ _ _ _ _
  refine v_lxor (pc' := 126) 69 rfl rfl ?_
  refine v_lstore_n (ls' := [(3, .long (v3 ^^^ r1968)), (2, .int r1964), (0, .ref 436)]) (pc' := 127) 70 rfl rfl rfl (by decide) rfl ?_
  refine v_goto (tgt := 53) 71 rfl (by decide) ?_
  refine V.sub [2, 1, 0] rfl ?_
  exact hR53 r1964 (v3 ^^^ r1968) I1965 L1966 h
set_option maxHeartbeats 4000000 in
set_option maxRecDepth 100000 in
theorem d_X9_inputRead_53 {G : GT} {b d t : Nat}  (Q : TI → TL → Prop) (R53 : Int32 → Int64 → TI → TL → Prop)  (hR53 : ∀ (v2 : Int32) (v3 : Int64) (I : TI) (L : TL), R53 v2 v3 I L → V G Y_X9_inputRead 53 [(0, .ref 436), (2, .int v2), (3, .long v3)] [] (I, L, RT b d t, 457) 0 0 (fun v9 u9 => ∃ (I9 : TI) (L9 : TL), v9 = none ∧ u9 = (I9, L9, RT b d t, 457) ∧ Q I9 L9) (fun _ _ => False)) (v2 : Int32) (v3 : Int64) (I : TI) (L : TL)  (h : D_X9_inputRead_53 Q R53 v2 v3 I L) : V G Y_X9_inputRead 53 [(0, .ref 436), (2, .int v2), (3, .long v3)] [] (I, L, RT b d t, 457) 0 0 (fun v9 u9 => ∃ (I9 : TI) (L9 : TL), v9 = none ∧ u9 = (I9, L9, RT b d t, 457) ∧ Q I9 L9) (fun _ _ => False) := by
  unfold D_X9_inputRead_53 at h
  refine v_aload_n (pc' := 54) 31 0 rfl rfl rfl rfl ?_
  refine v_cV (Y2 := Y_X9_isGood) (As := []) (b := 436) (pc' := 57) (c1 := 0) (s1 := 0) 32 rfl rfl mf_X9_isGood rfl rfl ml_X9_218 mi_X9_isGood se_X9_isGood (ci := 8) rfl ly_436 (lay_lt ly_436 (by decide)) rfl (Nat.le_of_ble_eq_true rfl) ⟨Nat.le_of_ble_eq_true rfl, Nat.le_of_ble_eq_true rfl⟩ rfl rfl (ok_X9_isGood I L h) ?_ ?_
  · intro e9 u9 hx9
    exact hx9.elim
  intro v9 u9 hv9
  obtain ⟨r1969, rfl, rfl, h⟩ := hv9
  refine ⟨fun q => absurd q (Nat.lt_irrefl _), ?_⟩
  show V G Y_X9_inputRead 57 _ (.int r1969 :: _) _ _ _ _ _
  refine v_if_eq (tgt := 130) (pc' := 60) 33 rfl rfl (by decide) (fun hc => ?_) (fun hc => ?_)
  · replace h := h.1 hc
    refine V.sub [0, 2] rfl ?_
    exact b_X9_inputRead_130 v3 I L Q h
  replace h := h.2 hc
  refine v_aload_n (pc' := 61) 34 0 rfl rfl rfl rfl ?_
  refine v_getI (pc' := 64) 35 rfl rfl pf_X9_196 ly_436 (lay_lt ly_436 (by decide)) ?_
  refine v_iconst (v := 2) (pc' := 65) 36 rfl rfl (by decide) ?_
  refine v_icmp_ne (tgt := 130) (pc' := 68) 37 rfl rfl (by decide) (fun hc => ?_) (fun hc => ?_)
  · replace h := h.1 hc
    refine V.sub [0, 2] rfl ?_
    exact b_X9_inputRead_130 v3 I L Q h
  replace h := h.2 hc
  refine v_aload_n (pc' := 69) 38 0 rfl rfl rfl rfl ?_
  refine v_getI (pc' := 72) 39 rfl rfl pf_X9_199 ly_436 (lay_lt ly_436 (by decide)) ?_
  refine v_i2l (pc' := 73) 40 rfl rfl ?_
  refine v_lconst (v := 1) (pc' := 74) 41 rfl rfl (by decide) ?_
  refine v_aload_n (pc' := 75) 42 0 rfl rfl rfl rfl ?_
  refine v_getI (pc' := 78) 43 rfl rfl pf_X9_86 ly_436 (lay_lt ly_436 (by decide)) ?_
  refine v_i2l (pc' := 79) 44 rfl rfl ?_
  refine v_cS (Y2 := Y_X9_in) (As := [.long ((I 436 27).toInt64), .long 1, .long ((I 436 7).toInt64)]) (pc' := 82) (c1 := 0) (s1 := 0) 45 rfl rfl mf_X9_in rfl rfl ml_X9_232 ms_X9_in rfl (Nat.le_of_ble_eq_true rfl) ⟨Nat.le_of_ble_eq_true rfl, Nat.le_of_ble_eq_true rfl⟩ rfl rfl (ok_X9_in ((I 436 27).toInt64) (1 : Int64) ((I 436 7).toInt64) I L h) ?_ ?_
  · intro e9 u9 hx9
    exact hx9.elim
  intro v9 u9 hv9
  obtain ⟨r1970, rfl, rfl, h⟩ := hv9
  refine ⟨fun q => absurd q (Nat.lt_irrefl _), ?_⟩
  show V G Y_X9_inputRead 82 _ (.int r1970 :: _) _ _ _ _ _
  refine v_if_eq (tgt := 99) (pc' := 85) 46 rfl rfl (by decide) (fun hc => ?_) (fun hc => ?_)
  · replace h := h.1 hc
    refine V.sub [0, 2] rfl ?_
    exact b_X9_inputRead_99 v3 I L Q R53 hR53 h
  replace h := h.2 hc
  refine v_aload_n (pc' := 86) 47 0 rfl rfl rfl rfl ?_
  refine v_getI (pc' := 89) 48 rfl rfl pf_X9_199 ly_436 (lay_lt ly_436 (by decide)) ?_
  refine v_iload_n (pc' := 90) 49 1 rfl rfl rfl rfl ?_
  refine v_icmp_gt (tgt := 99) (pc' := 93) 50 rfl rfl (by decide) (fun hc => ?_) (fun hc => ?_)
  · replace h := h.1 hc
    refine V.sub [0, 2] rfl ?_
    exact b_X9_inputRead_99 v3 I L Q R53 hR53 h
  replace h := h.2 hc
  refine v_aload_n (pc' := 94) 51 0 rfl rfl rfl rfl ?_
  refine v_iconst (v := 4) (pc' := 95) 52 rfl rfl (by decide) ?_
  refine v_cV (Y2 := Y_X9_faults) (As := [.int 4]) (b := 436) (pc' := 98) (c1 := 0) (s1 := 0) 53 rfl rfl mf_X9_faults rfl rfl ml_X9_229 mi_X9_faults se_X9_faults (ci := 8) rfl ly_436 (lay_lt ly_436 (by decide)) rfl (Nat.le_of_ble_eq_true rfl) ⟨Nat.le_of_ble_eq_true rfl, Nat.le_of_ble_eq_true rfl⟩ rfl rfl (ok_X9_faults (4 : Int32) I L h) ?_ ?_
  · intro e9 u9 hx9
    exact hx9.elim
  intro v9 u9 hv9
  obtain ⟨r1971, I1972, rfl, rfl, h⟩ := hv9
  refine ⟨fun q => absurd q (Nat.lt_irrefl _), ?_⟩
  show V G Y_X9_inputRead 98 _ (.int r1971 :: _) _ _ _ _ _
  refine v_pop (pc' := 99) 54 rfl rfl rfl ?_
  refine V.sub [0, 2] rfl ?_
  exact b_X9_inputRead_99 v3 I1972 L Q R53 hR53 h
theorem l_X9_inputRead_53 {G : GT} {b d t : Nat}  (Q : TI → TL → Prop)  : ∀ (n9 : Nat) (v2 : Int32) (v3 : Int64) (I : TI) (L : TL), L_X9_inputRead_53 Q n9 v2 v3 I L → V G Y_X9_inputRead 53 [(0, .ref 436), (2, .int v2), (3, .long v3)] [] (I, L, RT b d t, 457) 0 0 (fun v9 u9 => ∃ (I9 : TI) (L9 : TL), v9 = none ∧ u9 = (I9, L9, RT b d t, 457) ∧ Q I9 L9) (fun _ _ => False)
  | 0, _, _, _, _, h => h.elim
  | n9 + 1, v2, v3, I, L, h => d_X9_inputRead_53 Q _ (l_X9_inputRead_53 Q n9) v2 v3 I L h
set_option maxHeartbeats 4000000 in
set_option maxRecDepth 100000 in
theorem b_X9_inputRead_52 {G : GT} {b d t : Nat} (v2 : Int32) (s0 : Int64) (I : TI) (L : TL)  (Q : TI → TL → Prop)  (h : B_X9_inputRead_52 v2 s0 I L Q) : V G Y_X9_inputRead 52 [(0, .ref 436), (2, .int v2)] [.long s0] (I, L, RT b d t, 457) 0 0 (fun v9 u9 => ∃ (I9 : TI) (L9 : TL), v9 = none ∧ u9 = (I9, L9, RT b d t, 457) ∧ Q I9 L9) (fun _ _ => False) := by
  unfold B_X9_inputRead_52 at h
  refine v_lstore_n (ls' := [(3, .long s0), (0, .ref 436), (2, .int v2)]) (pc' := 53) 30 rfl rfl rfl (by decide) rfl ?_
  refine V.sub [1, 2, 0] rfl ?_
  obtain ⟨n1973, h⟩ := h
  exact l_X9_inputRead_53 Q n1973 v2 s0 I L h
set_option maxHeartbeats 4000000 in
set_option maxRecDepth 100000 in
theorem b_X9_inputRead_14 {G : GT} {b d t : Nat} (I : TI) (L : TL)  (Q : TI → TL → Prop)  (h : B_X9_inputRead_14 I L Q) : V G Y_X9_inputRead 14 [(0, .ref 436)] [] (I, L, RT b d t, 457) 0 0 (fun v9 u9 => ∃ (I9 : TI) (L9 : TL), v9 = none ∧ u9 = (I9, L9, RT b d t, 457) ∧ Q I9 L9) (fun _ _ => False) := by
  unfold B_X9_inputRead_14 at h
  refine v_aload_n (pc' := 15) 8 0 rfl rfl rfl rfl ?_
  refine v_cV (Y2 := Y_X9_isGood) (As := []) (b := 436) (pc' := 18) (c1 := 0) (s1 := 0) 9 rfl rfl mf_X9_isGood rfl rfl ml_X9_218 mi_X9_isGood se_X9_isGood (ci := 8) rfl ly_436 (lay_lt ly_436 (by decide)) rfl (Nat.le_of_ble_eq_true rfl) ⟨Nat.le_of_ble_eq_true rfl, Nat.le_of_ble_eq_true rfl⟩ rfl rfl (ok_X9_isGood I L h) ?_ ?_
  · intro e9 u9 hx9
    exact hx9.elim
  intro v9 u9 hv9
  obtain ⟨r1974, rfl, rfl, h⟩ := hv9
  refine ⟨fun q => absurd q (Nat.lt_irrefl _), ?_⟩
  show V G Y_X9_inputRead 18 _ (.int r1974 :: _) _ _ _ _ _
  refine v_if_ne (tgt := 22) (pc' := 21) 10 rfl rfl (by decide) (fun hc => ?_) (fun hc => ?_)
  · replace h := h.1 hc
    refine v_aload_n (pc' := 23) 12 0 rfl rfl rfl rfl ?_
    refine v_cV (Y2 := Y_X9_next) (As := []) (b := 436) (pc' := 26) (c1 := 0) (s1 := 0) 13 rfl rfl mf_X9_next rfl rfl ml_X9_215 mi_X9_next se_X9_next (ci := 8) rfl ly_436 (lay_lt ly_436 (by decide)) rfl (Nat.le_of_ble_eq_true rfl) ⟨Nat.le_of_ble_eq_true rfl, Nat.le_of_ble_eq_true rfl⟩ rfl rfl (ok_X9_next I L h) ?_ ?_
    · intro e9 u9 hx9
      exact hx9.elim
    intro v9 u9 hv9
    obtain ⟨I1975, L1976, rfl, rfl, h⟩ := hv9
    refine ⟨fun q => absurd q (Nat.lt_irrefl _), ?_⟩
    show V G Y_X9_inputRead 26 _ _ _ _ _ _ _
    refine v_aload_n (pc' := 27) 14 0 rfl rfl rfl rfl ?_
    refine v_iconst (v := 0) (pc' := 28) 15 rfl rfl (by decide) ?_
    refine v_iconst (v := 1) (pc' := 29) 16 rfl rfl (by decide) ?_
    refine v_cV (Y2 := Y_X9_number) (As := [.int 0, .int 1]) (b := 436) (pc' := 32) (c1 := 0) (s1 := 0) 17 rfl rfl mf_X9_number rfl rfl ml_X9_241 mi_X9_number se_X9_number (ci := 8) rfl ly_436 (lay_lt ly_436 (by decide)) rfl (Nat.le_of_ble_eq_true rfl) ⟨Nat.le_of_ble_eq_true rfl, Nat.le_of_ble_eq_true rfl⟩ rfl rfl (ok_X9_number (0 : Int32) (1 : Int32) I1975 L1976 h) ?_ ?_
    · intro e9 u9 hx9
      exact hx9.elim
    intro v9 u9 hv9
    obtain ⟨r1977, I1978, L1979, rfl, rfl, h⟩ := hv9
    refine ⟨fun q => absurd q (Nat.lt_irrefl _), ?_⟩
    show V G Y_X9_inputRead 32 _ (.int r1977 :: _) _ _ _ _ _
    refine v_istore_n (ls' := [(1, .int r1977), (0, .ref 436)]) (pc' := 33) 18 rfl rfl rfl (by decide) rfl ?_
    refine v_iconst (v := 0) (pc' := 34) 19 rfl rfl (by decide) ?_
    refine v_istore_n (ls' := [(2, .int 0), (1, .int r1977), (0, .ref 436)]) (pc' := 35) 20 rfl rfl rfl (by decide) rfl ?_
    refine v_iload_n (pc' := 36) 21 1 rfl rfl rfl rfl ?_
    refine v_iconst (v := 1) (pc' := 37) 22 rfl rfl (by decide) ?_
    refine v_icmp_ne (tgt := 51) (pc' := 40) 23 rfl rfl (by decide) (fun hc => ?_) (fun hc => ?_)
    · replace h := h.1 hc
      refine v_lconst (v := 0) (pc' := 52) 29 rfl rfl (by decide) ?_
      refine V.sub [2, 0] rfl ?_
      exact b_X9_inputRead_52 (0 : Int32) (0 : Int64) I1978 L1979 Q h
    replace h := h.2 hc
    refine v_iconst (v := 0) (pc' := 41) 24 rfl rfl (by decide) ?_
    refine v_aload_n (pc' := 42) 25 2 rfl rfl rfl rfl ?_
    refine v_getI (pc' := 45) 26 rfl rfl pf_X9_86 ly_436 (lay_lt ly_436 (by decide)) ?_
    refine v_cS (Y2 := Y_X9_times) (As := [.int 0, .int (I1978 436 7)]) (pc' := 48) (c1 := 0) (s1 := 0) 27 rfl rfl mf_X9_times rfl rfl ml_X9_107 ms_X9_times rfl (Nat.le_of_ble_eq_true rfl) ⟨Nat.le_of_ble_eq_true rfl, Nat.le_of_ble_eq_true rfl⟩ rfl rfl (ok_X9_times (0 : Int32) (I1978 436 7) I1978 L1979 h) ?_ ?_
    · intro e9 u9 hx9
      exact hx9.elim
    intro v9 u9 hv9
    obtain ⟨r1980, rfl, rfl, h⟩ := hv9
    refine ⟨fun q => absurd q (Nat.lt_irrefl _), ?_⟩
    show V G Y_X9_inputRead 48 _ (.long r1980 :: _) _ _ _ _ _
    refine v_goto (tgt := 52) 28 rfl (by decide) ?_
    refine V.sub [2, 0] rfl ?_
    exact b_X9_inputRead_52 (0 : Int32) r1980 I1978 L1979 Q h
  replace h := h.2 hc
  exact v_vret 11 rfl rfl (by decide) (by decide) ⟨_, _, rfl, rfl, h⟩
set_option maxHeartbeats 4000000 in
set_option maxRecDepth 100000 in
theorem ok_X9_inputRead {G : GT} {b d t : Nat} (I : TI) (L : TL)  {Q : TI → TL → Prop} (h : W_X9_inputRead I L Q) : MW G Y_X9_inputRead [.ref 436] (I, L, RT b d t, 457) (fun v9 u9 => ∃ (I9 : TI) (L9 : TL), v9 = none ∧ u9 = (I9, L9, RT b d t, 457) ∧ Q I9 L9) (fun _ _ => False) := by
  unfold W_X9_inputRead at h
  refine MW.intro rfl (by decide) is_X9_inputRead (Nat.le_of_ble_eq_true rfl) ?_
  show V G Y_X9_inputRead 0 [(0, .ref 436)] [] (I, L, RT b d t, 457) 0 0 _ _
  refine v_aload_n (pc' := 1) 0 0 rfl rfl rfl rfl ?_
  refine v_getI (pc' := 4) 1 rfl rfl pf_X9_77 ly_436 (lay_lt ly_436 (by decide)) ?_
  refine v_iconst (v := 4) (pc' := 5) 2 rfl rfl (by decide) ?_
  refine v_icmp_ne (tgt := 14) (pc' := 8) 3 rfl rfl (by decide) (fun hc => ?_) (fun hc => ?_)
  · replace h := h.1 hc
    exact b_X9_inputRead_14 I L Q h
  replace h := h.2 hc
  refine v_aload_n (pc' := 9) 4 0 rfl rfl rfl rfl ?_
  refine v_iconst (v := 3) (pc' := 10) 5 rfl rfl (by decide) ?_
  refine v_cV (Y2 := Y_X9_faults) (As := [.int 3]) (b := 436) (pc' := 13) (c1 := 0) (s1 := 0) 6 rfl rfl mf_X9_faults rfl rfl ml_X9_229 mi_X9_faults se_X9_faults (ci := 8) rfl ly_436 (lay_lt ly_436 (by decide)) rfl (Nat.le_of_ble_eq_true rfl) ⟨Nat.le_of_ble_eq_true rfl, Nat.le_of_ble_eq_true rfl⟩ rfl rfl (ok_X9_faults (3 : Int32) I L h) ?_ ?_
  · intro e9 u9 hx9
    exact hx9.elim
  intro v9 u9 hv9
  obtain ⟨r1981, I1982, rfl, rfl, h⟩ := hv9
  refine ⟨fun q => absurd q (Nat.lt_irrefl _), ?_⟩
  show V G Y_X9_inputRead 13 _ (.int r1981 :: _) _ _ _ _ _
  refine v_pop (pc' := 14) 7 rfl rfl rfl ?_
  exact b_X9_inputRead_14 I1982 L Q h
set_option maxHeartbeats 4000000 in
set_option maxRecDepth 100000 in
theorem ok_X9_kindHere {G : GT} {b d t : Nat} (I : TI) (L : TL)  {Q : Int32 → Prop} (h : W_X9_kindHere I L Q) : MW G Y_X9_kindHere [.ref 436] (I, L, RT b d t, 457) (fun v9 u9 => ∃ (r9 : Int32), v9 = some (.int r9) ∧ u9 = (I, L, RT b d t, 457) ∧ Q r9) (fun _ _ => False) := by
  unfold W_X9_kindHere at h
  refine MW.intro rfl (by decide) is_X9_kindHere (Nat.le_of_ble_eq_true rfl) ?_
  show V G Y_X9_kindHere 0 [(0, .ref 436)] [] (I, L, RT b d t, 457) 0 0 _ _
  refine v_aload_n (pc' := 1) 0 0 rfl rfl rfl rfl ?_
  refine v_ldc2 (v := 1111) (pc' := 4) 1 rfl rfl kl_X9_247 ?_
  refine v_cV (Y2 := Y_X9_isWord) (As := [.long 1111]) (b := 436) (pc' := 7) (c1 := 0) (s1 := 0) 2 rfl rfl mf_X9_isWord rfl rfl ml_X9_222 mi_X9_isWord se_X9_isWord (ci := 8) rfl ly_436 (lay_lt ly_436 (by decide)) rfl (Nat.le_of_ble_eq_true rfl) ⟨Nat.le_of_ble_eq_true rfl, Nat.le_of_ble_eq_true rfl⟩ rfl rfl (ok_X9_isWord (1111 : Int64) I L h) ?_ ?_
  · intro e9 u9 hx9
    exact hx9.elim
  intro v9 u9 hv9
  obtain ⟨r1990, rfl, rfl, h⟩ := hv9
  refine ⟨fun q => absurd q (Nat.lt_irrefl _), ?_⟩
  show V G Y_X9_kindHere 7 _ (.int r1990 :: _) _ _ _ _ _
  refine v_if_eq (tgt := 12) (pc' := 10) 3 rfl rfl (by decide) (fun hc => ?_) (fun hc => ?_)
  · replace h := h.1 hc
    refine v_aload_n (pc' := 13) 6 0 rfl rfl rfl rfl ?_
    refine v_ldc2 (v := 423) (pc' := 16) 7 rfl rfl kl_X9_249 ?_
    refine v_cV (Y2 := Y_X9_isWord) (As := [.long 423]) (b := 436) (pc' := 19) (c1 := 0) (s1 := 0) 8 rfl rfl mf_X9_isWord rfl rfl ml_X9_222 mi_X9_isWord se_X9_isWord (ci := 8) rfl ly_436 (lay_lt ly_436 (by decide)) rfl (Nat.le_of_ble_eq_true rfl) ⟨Nat.le_of_ble_eq_true rfl, Nat.le_of_ble_eq_true rfl⟩ rfl rfl (ok_X9_isWord (423 : Int64) I L h) ?_ ?_
    · intro e9 u9 hx9
      exact hx9.elim
    intro v9 u9 hv9
    obtain ⟨r1991, rfl, rfl, h⟩ := hv9
    refine ⟨fun q => absurd q (Nat.lt_irrefl _), ?_⟩
    show V G Y_X9_kindHere 19 _ (.int r1991 :: _) _ _ _ _ _
    refine v_if_eq (tgt := 24) (pc' := 22) 9 rfl rfl (by decide) (fun hc => ?_) (fun hc => ?_)
    · replace h := h.1 hc
      refine v_aload_n (pc' := 25) 12 0 rfl rfl rfl rfl ?_
      refine v_ldc2 (v := 17919) (pc' := 28) 13 rfl rfl kl_X9_251 ?_
      refine v_cV (Y2 := Y_X9_isWord) (As := [.long 17919]) (b := 436) (pc' := 31) (c1 := 0) (s1 := 0) 14 rfl rfl mf_X9_isWord rfl rfl ml_X9_222 mi_X9_isWord se_X9_isWord (ci := 8) rfl ly_436 (lay_lt ly_436 (by decide)) rfl (Nat.le_of_ble_eq_true rfl) ⟨Nat.le_of_ble_eq_true rfl, Nat.le_of_ble_eq_true rfl⟩ rfl rfl (ok_X9_isWord (17919 : Int64) I L h) ?_ ?_
      · intro e9 u9 hx9
        exact hx9.elim
      intro v9 u9 hv9
      obtain ⟨r1992, rfl, rfl, h⟩ := hv9
      refine ⟨fun q => absurd q (Nat.lt_irrefl _), ?_⟩
      show V G Y_X9_kindHere 31 _ (.int r1992 :: _) _ _ _ _ _
      refine v_if_eq (tgt := 36) (pc' := 34) 15 rfl rfl (by decide) (fun hc => ?_) (fun hc => ?_)
      · replace h := h.1 hc
        refine v_aload_n (pc' := 37) 18 0 rfl rfl rfl rfl ?_
        refine v_ldc2 (v := 276673) (pc' := 40) 19 rfl rfl kl_X9_253 ?_
        refine v_cV (Y2 := Y_X9_isWord) (As := [.long 276673]) (b := 436) (pc' := 43) (c1 := 0) (s1 := 0) 20 rfl rfl mf_X9_isWord rfl rfl ml_X9_222 mi_X9_isWord se_X9_isWord (ci := 8) rfl ly_436 (lay_lt ly_436 (by decide)) rfl (Nat.le_of_ble_eq_true rfl) ⟨Nat.le_of_ble_eq_true rfl, Nat.le_of_ble_eq_true rfl⟩ rfl rfl (ok_X9_isWord (276673 : Int64) I L h) ?_ ?_
        · intro e9 u9 hx9
          exact hx9.elim
        intro v9 u9 hv9
        obtain ⟨r1993, rfl, rfl, h⟩ := hv9
        refine ⟨fun q => absurd q (Nat.lt_irrefl _), ?_⟩
        show V G Y_X9_kindHere 43 _ (.int r1993 :: _) _ _ _ _ _
        refine v_if_eq (tgt := 48) (pc' := 46) 21 rfl rfl (by decide) (fun hc => ?_) (fun hc => ?_)
        · replace h := h.1 hc
          refine v_aload_n (pc' := 49) 24 0 rfl rfl rfl rfl ?_
          refine v_ldc2 (v := 10629) (pc' := 52) 25 rfl rfl kl_X9_255 ?_
          refine v_cV (Y2 := Y_X9_isWord) (As := [.long 10629]) (b := 436) (pc' := 55) (c1 := 0) (s1 := 0) 26 rfl rfl mf_X9_isWord rfl rfl ml_X9_222 mi_X9_isWord se_X9_isWord (ci := 8) rfl ly_436 (lay_lt ly_436 (by decide)) rfl (Nat.le_of_ble_eq_true rfl) ⟨Nat.le_of_ble_eq_true rfl, Nat.le_of_ble_eq_true rfl⟩ rfl rfl (ok_X9_isWord (10629 : Int64) I L h) ?_ ?_
          · intro e9 u9 hx9
            exact hx9.elim
          intro v9 u9 hv9
          obtain ⟨r1994, rfl, rfl, h⟩ := hv9
          refine ⟨fun q => absurd q (Nat.lt_irrefl _), ?_⟩
          show V G Y_X9_kindHere 55 _ (.int r1994 :: _) _ _ _ _ _
          refine v_if_eq (tgt := 60) (pc' := 58) 27 rfl rfl (by decide) (fun hc => ?_) (fun hc => ?_)
          · replace h := h.1 hc
            refine v_aload_n (pc' := 61) 30 0 rfl rfl rfl rfl ?_
            refine v_ldc2 (v := 10631) (pc' := 64) 31 rfl rfl kl_X9_257 ?_
            refine v_cV (Y2 := Y_X9_isWord) (As := [.long 10631]) (b := 436) (pc' := 67) (c1 := 0) (s1 := 0) 32 rfl rfl mf_X9_isWord rfl rfl ml_X9_222 mi_X9_isWord se_X9_isWord (ci := 8) rfl ly_436 (lay_lt ly_436 (by decide)) rfl (Nat.le_of_ble_eq_true rfl) ⟨Nat.le_of_ble_eq_true rfl, Nat.le_of_ble_eq_true rfl⟩ rfl rfl (ok_X9_isWord (10631 : Int64) I L h) ?_ ?_
            · intro e9 u9 hx9
              exact hx9.elim
            intro v9 u9 hv9
            obtain ⟨r1995, rfl, rfl, h⟩ := hv9
            refine ⟨fun q => absurd q (Nat.lt_irrefl _), ?_⟩
            show V G Y_X9_kindHere 67 _ (.int r1995 :: _) _ _ _ _ _
            refine v_if_eq (tgt := 72) (pc' := 70) 33 rfl rfl (by decide) (fun hc => ?_) (fun hc => ?_)
            · replace h := h.1 hc
              refine v_aload_n (pc' := 73) 36 0 rfl rfl rfl rfl ?_
              refine v_ldc2 (v := 375062) (pc' := 76) 37 rfl rfl kl_X9_259 ?_
              refine v_cV (Y2 := Y_X9_isWord) (As := [.long 375062]) (b := 436) (pc' := 79) (c1 := 0) (s1 := 0) 38 rfl rfl mf_X9_isWord rfl rfl ml_X9_222 mi_X9_isWord se_X9_isWord (ci := 8) rfl ly_436 (lay_lt ly_436 (by decide)) rfl (Nat.le_of_ble_eq_true rfl) ⟨Nat.le_of_ble_eq_true rfl, Nat.le_of_ble_eq_true rfl⟩ rfl rfl (ok_X9_isWord (375062 : Int64) I L h) ?_ ?_
              · intro e9 u9 hx9
                exact hx9.elim
              intro v9 u9 hv9
              obtain ⟨r1996, rfl, rfl, h⟩ := hv9
              refine ⟨fun q => absurd q (Nat.lt_irrefl _), ?_⟩
              show V G Y_X9_kindHere 79 _ (.int r1996 :: _) _ _ _ _ _
              refine v_if_eq (tgt := 87) (pc' := 82) 39 rfl rfl (by decide) (fun hc => ?_) (fun hc => ?_)
              · replace h := h.1 hc
                refine v_iconst (v := -1) (pc' := 88) 42 rfl rfl (by decide) ?_
                exact v_iret 43 rfl rfl (by decide) (by decide) ⟨_, rfl, rfl, h⟩
              replace h := h.2 hc
              refine v_bipush (v := 6) (pc' := 84) 40 rfl rfl (by decide) ?_
              refine v_goto (tgt := 88) 41 rfl (by decide) ?_
              exact v_iret 43 rfl rfl (by decide) (by decide) ⟨_, rfl, rfl, h⟩
            replace h := h.2 hc
            refine v_iconst (v := 5) (pc' := 71) 34 rfl rfl (by decide) ?_
            exact v_iret 35 rfl rfl (by decide) (by decide) ⟨_, rfl, rfl, h⟩
          replace h := h.2 hc
          refine v_iconst (v := 4) (pc' := 59) 28 rfl rfl (by decide) ?_
          exact v_iret 29 rfl rfl (by decide) (by decide) ⟨_, rfl, rfl, h⟩
        replace h := h.2 hc
        refine v_iconst (v := 3) (pc' := 47) 22 rfl rfl (by decide) ?_
        exact v_iret 23 rfl rfl (by decide) (by decide) ⟨_, rfl, rfl, h⟩
      replace h := h.2 hc
      refine v_iconst (v := 2) (pc' := 35) 16 rfl rfl (by decide) ?_
      exact v_iret 17 rfl rfl (by decide) (by decide) ⟨_, rfl, rfl, h⟩
    replace h := h.2 hc
    refine v_iconst (v := 1) (pc' := 23) 10 rfl rfl (by decide) ?_
    exact v_iret 11 rfl rfl (by decide) (by decide) ⟨_, rfl, rfl, h⟩
  replace h := h.2 hc
  refine v_iconst (v := 0) (pc' := 11) 4 rfl rfl (by decide) ?_
  exact v_iret 5 rfl rfl (by decide) (by decide) ⟨_, rfl, rfl, h⟩
set_option maxHeartbeats 4000000 in
set_option maxRecDepth 100000 in
theorem d_X9_gateRead_116 {G : GT} {b d t : Nat}  (Q : TI → TL → Prop) (R116 : Int32 → TI → TL → Prop)  (hR116 : ∀ (v2 : Int32) (I : TI) (L : TL), R116 v2 I L → V G Y_X9_gateRead 116 [(0, .ref 436), (2, .int v2)] [] (I, L, RT b d t, 457) 0 0 (fun v9 u9 => ∃ (I9 : TI) (L9 : TL), v9 = none ∧ u9 = (I9, L9, RT b d t, 457) ∧ Q I9 L9) (fun _ _ => False)) (v2 : Int32) (I : TI) (L : TL)  (h : D_X9_gateRead_116 Q R116 v2 I L) : V G Y_X9_gateRead 116 [(0, .ref 436), (2, .int v2)] [] (I, L, RT b d t, 457) 0 0 (fun v9 u9 => ∃ (I9 : TI) (L9 : TL), v9 = none ∧ u9 = (I9, L9, RT b d t, 457) ∧ Q I9 L9) (fun _ _ => False) := by
  unfold D_X9_gateRead_116 at h
  refine v_iload_n (pc' := 117) 67 1 rfl rfl rfl rfl ?_
  refine v_iconst (v := 3) (pc' := 118) 68 rfl rfl (by decide) ?_
  refine v_icmp_ge (tgt := 151) (pc' := 121) 69 rfl rfl (by decide) (fun hc => ?_) (fun hc => ?_)
  · replace h := h.1 hc
    refine v_aload_n (pc' := 152) 88 0 rfl rfl rfl rfl ?_
    refine v_bipush (v := 59) (pc' := 154) 89 rfl rfl (by decide) ?_
    refine v_cV (Y2 := Y_X9_must) (As := [.int 59]) (b := 436) (pc' := 157) (c1 := 0) (s1 := 0) 90 rfl rfl mf_X9_must rfl rfl ml_X9_244 mi_X9_must se_X9_must (ci := 8) rfl ly_436 (lay_lt ly_436 (by decide)) rfl (Nat.le_of_ble_eq_true rfl) ⟨Nat.le_of_ble_eq_true rfl, Nat.le_of_ble_eq_true rfl⟩ rfl rfl (ok_X9_must (59 : Int32) I L h) ?_ ?_
    · intro e9 u9 hx9
      exact hx9.elim
    intro v9 u9 hv9
    obtain ⟨I2077, L2078, rfl, rfl, h⟩ := hv9
    refine ⟨fun q => absurd q (Nat.lt_irrefl _), ?_⟩
    show V G Y_X9_gateRead 157 _ _ _ _ _ _ _
    refine v_aload_n (pc' := 158) 91 0 rfl rfl rfl rfl ?_
    refine v_cV (Y2 := Y_X9_isGood) (As := []) (b := 436) (pc' := 161) (c1 := 0) (s1 := 0) 92 rfl rfl mf_X9_isGood rfl rfl ml_X9_218 mi_X9_isGood se_X9_isGood (ci := 8) rfl ly_436 (lay_lt ly_436 (by decide)) rfl (Nat.le_of_ble_eq_true rfl) ⟨Nat.le_of_ble_eq_true rfl, Nat.le_of_ble_eq_true rfl⟩ rfl rfl (ok_X9_isGood I2077 L2078 h) ?_ ?_
    · intro e9 u9 hx9
      exact hx9.elim
    intro v9 u9 hv9
    obtain ⟨r2079, rfl, rfl, h⟩ := hv9
    refine ⟨fun q => absurd q (Nat.lt_irrefl _), ?_⟩
    show V G Y_X9_gateRead 161 _ (.int r2079 :: _) _ _ _ _ _
    refine v_if_eq (tgt := 174) (pc' := 164) 93 rfl rfl (by decide) (fun hc => ?_) (fun hc => ?_)
    · replace h := h.1 hc
      exact v_vret 100 rfl rfl (by decide) (by decide) ⟨_, _, rfl, rfl, h⟩
    replace h := h.2 hc
    refine v_aload_n (pc' := 165) 94 0 rfl rfl rfl rfl ?_
    refine v_dup (pc' := 166) 95 rfl rfl rfl ?_
    refine v_getI (pc' := 169) 96 rfl rfl pf_X9_83 ly_436 (lay_lt ly_436 (by decide)) ?_
    refine v_iconst (v := 1) (pc' := 170) 97 rfl rfl (by decide) ?_
    refine v_iadd (pc' := 171) 98 rfl rfl ?_
    refine v_putI (pc' := 174) 99 rfl rfl pf_X9_83 (fun q => absurd q (by decide)) ly_436 (lay_lt ly_436 (by decide)) ?_
    exact v_vret 100 rfl rfl (by decide) (by decide) ⟨_, _, rfl, rfl, h⟩
  replace h := h.2 hc
  refine v_aload_n (pc' := 122) 70 0 rfl rfl rfl rfl ?_
  refine v_getR (t := 437) (pc' := 125) 71 rfl rfl pf_X9_7 ly_436 (lay_lt ly_436 (by decide)) rt_436_1 ?_
  refine v_bipush (v := 45) (pc' := 127) 72 rfl rfl (by decide) ?_
  refine v_iconst (v := 3) (pc' := 128) 73 rfl rfl (by decide) ?_
  refine v_aload_n (pc' := 129) 74 0 rfl rfl rfl rfl ?_
  refine v_getI (pc' := 132) 75 rfl rfl pf_X9_83 ly_436 (lay_lt ly_436 (by decide)) ?_
  refine v_imul (pc' := 133) 76 rfl rfl ?_
  refine v_iadd (pc' := 134) 77 rfl rfl ?_
  refine v_iload_n (pc' := 135) 78 1 rfl rfl rfl rfl ?_
  refine v_iadd (pc' := 136) 79 rfl rfl ?_
  refine v_aload_n (pc' := 137) 80 0 rfl rfl rfl rfl ?_
  refine v_iconst (v := 1) (pc' := 138) 81 rfl rfl (by decide) ?_
  refine v_bipush (v := 9) (pc' := 140) 82 rfl rfl (by decide) ?_
  refine v_cV (Y2 := Y_X9_number) (As := [.int 1, .int 9]) (b := 436) (pc' := 143) (c1 := 0) (s1 := 0) 83 rfl rfl mf_X9_number rfl rfl ml_X9_241 mi_X9_number se_X9_number (ci := 8) rfl ly_436 (lay_lt ly_436 (by decide)) rfl (Nat.le_of_ble_eq_true rfl) ⟨Nat.le_of_ble_eq_true rfl, Nat.le_of_ble_eq_true rfl⟩ rfl rfl (ok_X9_number (1 : Int32) (9 : Int32) I L h) ?_ ?_
  · intro e9 u9 hx9
    exact hx9.elim
  intro v9 u9 hv9
  obtain ⟨r2080, I2081, L2082, rfl, rfl, h⟩ := hv9
  refine ⟨fun q => absurd q (Nat.lt_irrefl _), ?_⟩
  show V G Y_X9_gateRead 143 _ (.int r2080 :: _) _ _ _ _ _
  refine v_i2l (pc' := 144) 84 rfl rfl ?_
  obtain ⟨hi2083, h⟩ := h
  refine v_last (i := (((45 : Int32) + ((3 : Int32) * (I 436 11))) + v2)) (j := (((45 : Int32) + ((3 : Int32) * (I 436 11))) + v2).toNatClampNeg) (pc' := 145) 85 rfl rfl ly_437 ln_437 (lay_lt ly_437 (by decide)) hi2083 rfl ?_
  refine nm_N (e := (up2 L2082 437 ((((45 : Int32) + ((3 : Int32) * (I 436 11))) + v2).toNatClampNeg) (r2080.toInt64))) (fun L2084 hL2084 => ?_)
  replace h := h L2084 hL2084
  refine v_iinc (v := (v2 + 1)) (ls' := [(2, .int (v2 + 1)), (0, .ref 436)]) (pc' := 148) 86 1 rfl rfl rfl rfl (by decide) rfl ?_
  refine v_goto (tgt := 116) 87 rfl (by decide) ?_
  refine V.sub [1, 0] rfl ?_
  exact hR116 (v2 + 1) I2081 L2084 h
theorem l_X9_gateRead_116 {G : GT} {b d t : Nat}  (Q : TI → TL → Prop)  : ∀ (n9 : Nat) (v2 : Int32) (I : TI) (L : TL), L_X9_gateRead_116 Q n9 v2 I L → V G Y_X9_gateRead 116 [(0, .ref 436), (2, .int v2)] [] (I, L, RT b d t, 457) 0 0 (fun v9 u9 => ∃ (I9 : TI) (L9 : TL), v9 = none ∧ u9 = (I9, L9, RT b d t, 457) ∧ Q I9 L9) (fun _ _ => False)
  | 0, _, _, _, h => h.elim
  | n9 + 1, v2, I, L, h => d_X9_gateRead_116 Q _ (l_X9_gateRead_116 Q n9) v2 I L h
set_option maxHeartbeats 4000000 in
set_option maxRecDepth 100000 in
theorem b_X9_gateRead_113 {G : GT} {b d t : Nat} (s1 : Int32) (s2 : Int32) (I : TI) (L : TL)  (Q : TI → TL → Prop)  (h : B_X9_gateRead_113 s1 s2 I L Q) : V G Y_X9_gateRead 113 [(0, .ref 436)] [.int s2, .int s1, .ref 443] (I, L, RT b d t, 457) 0 0 (fun v9 u9 => ∃ (I9 : TI) (L9 : TL), v9 = none ∧ u9 = (I9, L9, RT b d t, 457) ∧ Q I9 L9) (fun _ _ => False) := by
  unfold B_X9_gateRead_113 at h
  obtain ⟨hi2085, h⟩ := h
  refine v_iast (i := s1) (j := s1.toNatClampNeg) (pc' := 114) 64 rfl rfl ly_443 ln_443 (lay_lt ly_443 (by decide)) hi2085 rfl ?_
  refine v_iconst (v := 0) (pc' := 115) 65 rfl rfl (by decide) ?_
  refine v_istore_n (ls' := [(2, .int 0), (0, .ref 436)]) (pc' := 116) 66 rfl rfl rfl (by decide) rfl ?_
  refine V.sub [1, 0] rfl ?_
  obtain ⟨n2086, h⟩ := h
  exact l_X9_gateRead_116 Q n2086 (0 : Int32) (up2 I 443 (s1.toNatClampNeg) s2) L h
set_option maxHeartbeats 4000000 in
set_option maxRecDepth 100000 in
theorem b_X9_gateRead_43 {G : GT} {b d t : Nat} (v1 : Int32) (I : TI) (L : TL)  (Q : TI → TL → Prop)  (h : B_X9_gateRead_43 v1 I L Q) : V G Y_X9_gateRead 43 [(0, .ref 436), (1, .int v1)] [] (I, L, RT b d t, 457) 0 0 (fun v9 u9 => ∃ (I9 : TI) (L9 : TL), v9 = none ∧ u9 = (I9, L9, RT b d t, 457) ∧ Q I9 L9) (fun _ _ => False) := by
  unfold B_X9_gateRead_43 at h
  refine v_aload_n (pc' := 44) 24 0 rfl rfl rfl rfl ?_
  refine v_cV (Y2 := Y_X9_isGood) (As := []) (b := 436) (pc' := 47) (c1 := 0) (s1 := 0) 25 rfl rfl mf_X9_isGood rfl rfl ml_X9_218 mi_X9_isGood se_X9_isGood (ci := 8) rfl ly_436 (lay_lt ly_436 (by decide)) rfl (Nat.le_of_ble_eq_true rfl) ⟨Nat.le_of_ble_eq_true rfl, Nat.le_of_ble_eq_true rfl⟩ rfl rfl (ok_X9_isGood I L h) ?_ ?_
  · intro e9 u9 hx9
    exact hx9.elim
  intro v9 u9 hv9
  obtain ⟨r2087, rfl, rfl, h⟩ := hv9
  refine ⟨fun q => absurd q (Nat.lt_irrefl _), ?_⟩
  show V G Y_X9_gateRead 47 _ (.int r2087 :: _) _ _ _ _ _
  refine v_if_ne (tgt := 51) (pc' := 50) 26 rfl rfl (by decide) (fun hc => ?_) (fun hc => ?_)
  · replace h := h.1 hc
    refine v_aload_n (pc' := 52) 28 0 rfl rfl rfl rfl ?_
    refine v_cV (Y2 := Y_X9_next) (As := []) (b := 436) (pc' := 55) (c1 := 0) (s1 := 0) 29 rfl rfl mf_X9_next rfl rfl ml_X9_215 mi_X9_next se_X9_next (ci := 8) rfl ly_436 (lay_lt ly_436 (by decide)) rfl (Nat.le_of_ble_eq_true rfl) ⟨Nat.le_of_ble_eq_true rfl, Nat.le_of_ble_eq_true rfl⟩ rfl rfl (ok_X9_next I L h) ?_ ?_
    · intro e9 u9 hx9
      exact hx9.elim
    intro v9 u9 hv9
    obtain ⟨I2088, L2089, rfl, rfl, h⟩ := hv9
    refine ⟨fun q => absurd q (Nat.lt_irrefl _), ?_⟩
    show V G Y_X9_gateRead 55 _ _ _ _ _ _ _
    refine v_aload_n (pc' := 56) 30 0 rfl rfl rfl rfl ?_
    refine v_getR (t := 441) (pc' := 59) 31 rfl rfl pf_X9_22 ly_436 (lay_lt ly_436 (by decide)) rt_436_12 ?_
    refine v_aload_n (pc' := 60) 32 0 rfl rfl rfl rfl ?_
    refine v_getI (pc' := 63) 33 rfl rfl pf_X9_83 ly_436 (lay_lt ly_436 (by decide)) ?_
    refine v_iload_n (pc' := 64) 34 1 rfl rfl rfl rfl ?_
    obtain ⟨hi2090, h⟩ := h
    refine v_iast (i := (I2088 436 11)) (j := (I2088 436 11).toNatClampNeg) (pc' := 65) 35 rfl rfl ly_441 ln_441 (lay_lt ly_441 (by decide)) hi2090 rfl ?_
    refine v_aload_n (pc' := 66) 36 0 rfl rfl rfl rfl ?_
    refine v_getR (t := 442) (pc' := 69) 37 rfl rfl pf_X9_26 ly_436 (lay_lt ly_436 (by decide)) rt_436_13 ?_
    refine v_aload_n (pc' := 70) 38 0 rfl rfl rfl rfl ?_
    refine v_getI (pc' := 73) 39 rfl rfl pf_X9_83 ly_436 (lay_lt ly_436 (by decide)) ?_
    refine v_aload_n (pc' := 74) 40 0 rfl rfl rfl rfl ?_
    refine v_iconst (v := 0) (pc' := 75) 41 rfl rfl (by decide) ?_
    refine v_aload_n (pc' := 76) 42 0 rfl rfl rfl rfl ?_
    refine v_cV (Y2 := Y_X9_nets) (As := []) (b := 436) (pc' := 79) (c1 := 0) (s1 := 0) 43 rfl rfl mf_X9_nets rfl rfl ml_X9_95 mi_X9_nets se_X9_nets (ci := 8) rfl ly_436 (lay_lt ly_436 (by decide)) rfl (Nat.le_of_ble_eq_true rfl) ⟨Nat.le_of_ble_eq_true rfl, Nat.le_of_ble_eq_true rfl⟩ rfl rfl (ok_X9_nets (up2 I2088 441 ((I2088 436 11).toNatClampNeg) v1) L2089 h) ?_ ?_
    · intro e9 u9 hx9
      exact hx9.elim
    intro v9 u9 hv9
    obtain ⟨r2091, rfl, rfl, h⟩ := hv9
    refine ⟨fun q => absurd q (Nat.lt_irrefl _), ?_⟩
    show V G Y_X9_gateRead 79 _ (.int r2091 :: _) _ _ _ _ _
    refine v_iconst (v := 1) (pc' := 80) 44 rfl rfl (by decide) ?_
    refine v_isub (pc' := 81) 45 rfl rfl ?_
    refine v_cV (Y2 := Y_X9_number) (As := [.int 0, .int (r2091 - 1)]) (b := 436) (pc' := 84) (c1 := 0) (s1 := 0) 46 rfl rfl mf_X9_number rfl rfl ml_X9_241 mi_X9_number se_X9_number (ci := 8) rfl ly_436 (lay_lt ly_436 (by decide)) rfl (Nat.le_of_ble_eq_true rfl) ⟨Nat.le_of_ble_eq_true rfl, Nat.le_of_ble_eq_true rfl⟩ rfl rfl (ok_X9_number (0 : Int32) (r2091 - 1) (up2 I2088 441 ((I2088 436 11).toNatClampNeg) v1) L2089 h) ?_ ?_
    · intro e9 u9 hx9
      exact hx9.elim
    intro v9 u9 hv9
    obtain ⟨r2092, I2093, L2094, rfl, rfl, h⟩ := hv9
    refine ⟨fun q => absurd q (Nat.lt_irrefl _), ?_⟩
    show V G Y_X9_gateRead 84 _ (.int r2092 :: _) _ _ _ _ _
    obtain ⟨hi2095, h⟩ := h
    refine v_iast (i := ((up2 I2088 441 ((I2088 436 11).toNatClampNeg) v1) 436 11)) (j := ((up2 I2088 441 ((I2088 436 11).toNatClampNeg) v1) 436 11).toNatClampNeg) (pc' := 85) 47 rfl rfl ly_442 ln_442 (lay_lt ly_442 (by decide)) hi2095 rfl ?_
    refine nm_M (e := (up2 I2093 442 (((up2 I2088 441 ((I2088 436 11).toNatClampNeg) v1) 436 11).toNatClampNeg) r2092)) (fun I2096 hI2096 => ?_)
    replace h := h I2096 hI2096
    refine v_aload_n (pc' := 86) 48 0 rfl rfl rfl rfl ?_
    refine v_getR (t := 443) (pc' := 89) 49 rfl rfl pf_X9_29 ly_436 (lay_lt ly_436 (by decide)) rt_436_14 ?_
    refine v_aload_n (pc' := 90) 50 0 rfl rfl rfl rfl ?_
    refine v_getI (pc' := 93) 51 rfl rfl pf_X9_83 ly_436 (lay_lt ly_436 (by decide)) ?_
    refine v_iload_n (pc' := 94) 52 1 rfl rfl rfl rfl ?_
    refine v_iconst (v := 5) (pc' := 95) 53 rfl rfl (by decide) ?_
    refine v_icmp_ge (tgt := 112) (pc' := 98) 54 rfl rfl (by decide) (fun hc => ?_) (fun hc => ?_)
    · replace h := h.1 hc
      refine v_iconst (v := -1) (pc' := 113) 63 rfl rfl (by decide) ?_
      refine V.sub [0] rfl ?_
      exact b_X9_gateRead_113 (I2096 436 11) ((-1) : Int32) I2096 L2094 Q h
    replace h := h.2 hc
    refine v_aload_n (pc' := 99) 55 0 rfl rfl rfl rfl ?_
    refine v_iconst (v := 0) (pc' := 100) 56 rfl rfl (by decide) ?_
    refine v_aload_n (pc' := 101) 57 0 rfl rfl rfl rfl ?_
    refine v_cV (Y2 := Y_X9_nets) (As := []) (b := 436) (pc' := 104) (c1 := 0) (s1 := 0) 58 rfl rfl mf_X9_nets rfl rfl ml_X9_95 mi_X9_nets se_X9_nets (ci := 8) rfl ly_436 (lay_lt ly_436 (by decide)) rfl (Nat.le_of_ble_eq_true rfl) ⟨Nat.le_of_ble_eq_true rfl, Nat.le_of_ble_eq_true rfl⟩ rfl rfl (ok_X9_nets I2096 L2094 h) ?_ ?_
    · intro e9 u9 hx9
      exact hx9.elim
    intro v9 u9 hv9
    obtain ⟨r2097, rfl, rfl, h⟩ := hv9
    refine ⟨fun q => absurd q (Nat.lt_irrefl _), ?_⟩
    show V G Y_X9_gateRead 104 _ (.int r2097 :: _) _ _ _ _ _
    refine v_iconst (v := 1) (pc' := 105) 59 rfl rfl (by decide) ?_
    refine v_isub (pc' := 106) 60 rfl rfl ?_
    refine v_cV (Y2 := Y_X9_number) (As := [.int 0, .int (r2097 - 1)]) (b := 436) (pc' := 109) (c1 := 0) (s1 := 0) 61 rfl rfl mf_X9_number rfl rfl ml_X9_241 mi_X9_number se_X9_number (ci := 8) rfl ly_436 (lay_lt ly_436 (by decide)) rfl (Nat.le_of_ble_eq_true rfl) ⟨Nat.le_of_ble_eq_true rfl, Nat.le_of_ble_eq_true rfl⟩ rfl rfl (ok_X9_number (0 : Int32) (r2097 - 1) I2096 L2094 h) ?_ ?_
    · intro e9 u9 hx9
      exact hx9.elim
    intro v9 u9 hv9
    obtain ⟨r2098, I2099, L2100, rfl, rfl, h⟩ := hv9
    refine ⟨fun q => absurd q (Nat.lt_irrefl _), ?_⟩
    show V G Y_X9_gateRead 109 _ (.int r2098 :: _) _ _ _ _ _
    refine v_goto (tgt := 113) 62 rfl (by decide) ?_
    refine V.sub [0] rfl ?_
    exact b_X9_gateRead_113 (I2096 436 11) r2098 I2099 L2100 Q h
  replace h := h.2 hc
  exact v_vret 27 rfl rfl (by decide) (by decide) ⟨_, _, rfl, rfl, h⟩
set_option maxHeartbeats 4000000 in
set_option maxRecDepth 100000 in
theorem b_X9_gateRead_15 {G : GT} {b d t : Nat} (I : TI) (L : TL)  (Q : TI → TL → Prop)  (h : B_X9_gateRead_15 I L Q) : V G Y_X9_gateRead 15 [(0, .ref 436)] [] (I, L, RT b d t, 457) 0 0 (fun v9 u9 => ∃ (I9 : TI) (L9 : TL), v9 = none ∧ u9 = (I9, L9, RT b d t, 457) ∧ Q I9 L9) (fun _ _ => False) := by
  unfold B_X9_gateRead_15 at h
  refine v_aload_n (pc' := 16) 8 0 rfl rfl rfl rfl ?_
  refine v_cV (Y2 := Y_X9_isGood) (As := []) (b := 436) (pc' := 19) (c1 := 0) (s1 := 0) 9 rfl rfl mf_X9_isGood rfl rfl ml_X9_218 mi_X9_isGood se_X9_isGood (ci := 8) rfl ly_436 (lay_lt ly_436 (by decide)) rfl (Nat.le_of_ble_eq_true rfl) ⟨Nat.le_of_ble_eq_true rfl, Nat.le_of_ble_eq_true rfl⟩ rfl rfl (ok_X9_isGood I L h) ?_ ?_
  · intro e9 u9 hx9
    exact hx9.elim
  intro v9 u9 hv9
  obtain ⟨r2101, rfl, rfl, h⟩ := hv9
  refine ⟨fun q => absurd q (Nat.lt_irrefl _), ?_⟩
  show V G Y_X9_gateRead 19 _ (.int r2101 :: _) _ _ _ _ _
  refine v_if_ne (tgt := 23) (pc' := 22) 10 rfl rfl (by decide) (fun hc => ?_) (fun hc => ?_)
  · replace h := h.1 hc
    refine v_aload_n (pc' := 24) 12 0 rfl rfl rfl rfl ?_
    refine v_cV (Y2 := Y_X9_next) (As := []) (b := 436) (pc' := 27) (c1 := 0) (s1 := 0) 13 rfl rfl mf_X9_next rfl rfl ml_X9_215 mi_X9_next se_X9_next (ci := 8) rfl ly_436 (lay_lt ly_436 (by decide)) rfl (Nat.le_of_ble_eq_true rfl) ⟨Nat.le_of_ble_eq_true rfl, Nat.le_of_ble_eq_true rfl⟩ rfl rfl (ok_X9_next I L h) ?_ ?_
    · intro e9 u9 hx9
      exact hx9.elim
    intro v9 u9 hv9
    obtain ⟨I2102, L2103, rfl, rfl, h⟩ := hv9
    refine ⟨fun q => absurd q (Nat.lt_irrefl _), ?_⟩
    show V G Y_X9_gateRead 27 _ _ _ _ _ _ _
    refine v_aload_n (pc' := 28) 14 0 rfl rfl rfl rfl ?_
    refine v_cV (Y2 := Y_X9_kindHere) (As := []) (b := 436) (pc' := 31) (c1 := 0) (s1 := 0) 15 rfl rfl mf_X9_kindHere rfl rfl ml_X9_261 mi_X9_kindHere se_X9_kindHere (ci := 8) rfl ly_436 (lay_lt ly_436 (by decide)) rfl (Nat.le_of_ble_eq_true rfl) ⟨Nat.le_of_ble_eq_true rfl, Nat.le_of_ble_eq_true rfl⟩ rfl rfl (ok_X9_kindHere I2102 L2103 h) ?_ ?_
    · intro e9 u9 hx9
      exact hx9.elim
    intro v9 u9 hv9
    obtain ⟨r2104, rfl, rfl, h⟩ := hv9
    refine ⟨fun q => absurd q (Nat.lt_irrefl _), ?_⟩
    show V G Y_X9_gateRead 31 _ (.int r2104 :: _) _ _ _ _ _
    refine v_istore_n (ls' := [(1, .int r2104), (0, .ref 436)]) (pc' := 32) 16 rfl rfl rfl (by decide) rfl ?_
    refine v_iload_n (pc' := 33) 17 0 rfl rfl rfl rfl ?_
    refine v_iconst (v := -1) (pc' := 34) 18 rfl rfl (by decide) ?_
    refine v_icmp_ne (tgt := 43) (pc' := 37) 19 rfl rfl (by decide) (fun hc => ?_) (fun hc => ?_)
    · replace h := h.1 hc
      refine V.sub [1, 0] rfl ?_
      exact b_X9_gateRead_43 r2104 I2102 L2103 Q h
    replace h := h.2 hc
    refine v_aload_n (pc' := 38) 20 1 rfl rfl rfl rfl ?_
    refine v_iconst (v := 1) (pc' := 39) 21 rfl rfl (by decide) ?_
    refine v_cV (Y2 := Y_X9_faults) (As := [.int 1]) (b := 436) (pc' := 42) (c1 := 0) (s1 := 0) 22 rfl rfl mf_X9_faults rfl rfl ml_X9_229 mi_X9_faults se_X9_faults (ci := 8) rfl ly_436 (lay_lt ly_436 (by decide)) rfl (Nat.le_of_ble_eq_true rfl) ⟨Nat.le_of_ble_eq_true rfl, Nat.le_of_ble_eq_true rfl⟩ rfl rfl (ok_X9_faults (1 : Int32) I2102 L2103 h) ?_ ?_
    · intro e9 u9 hx9
      exact hx9.elim
    intro v9 u9 hv9
    obtain ⟨r2105, I2106, rfl, rfl, h⟩ := hv9
    refine ⟨fun q => absurd q (Nat.lt_irrefl _), ?_⟩
    show V G Y_X9_gateRead 42 _ (.int r2105 :: _) _ _ _ _ _
    refine v_pop (pc' := 43) 23 rfl rfl rfl ?_
    refine V.sub [1, 0] rfl ?_
    exact b_X9_gateRead_43 r2104 I2106 L2103 Q h
  replace h := h.2 hc
  exact v_vret 11 rfl rfl (by decide) (by decide) ⟨_, _, rfl, rfl, h⟩
set_option maxHeartbeats 4000000 in
set_option maxRecDepth 100000 in
theorem ok_X9_gateRead {G : GT} {b d t : Nat} (I : TI) (L : TL)  {Q : TI → TL → Prop} (h : W_X9_gateRead I L Q) : MW G Y_X9_gateRead [.ref 436] (I, L, RT b d t, 457) (fun v9 u9 => ∃ (I9 : TI) (L9 : TL), v9 = none ∧ u9 = (I9, L9, RT b d t, 457) ∧ Q I9 L9) (fun _ _ => False) := by
  unfold W_X9_gateRead at h
  refine MW.intro rfl (by decide) is_X9_gateRead (Nat.le_of_ble_eq_true rfl) ?_
  show V G Y_X9_gateRead 0 [(0, .ref 436)] [] (I, L, RT b d t, 457) 0 0 _ _
  refine v_aload_n (pc' := 1) 0 0 rfl rfl rfl rfl ?_
  refine v_getI (pc' := 4) 1 rfl rfl pf_X9_83 ly_436 (lay_lt ly_436 (by decide)) ?_
  refine v_bipush (v := 12) (pc' := 6) 2 rfl rfl (by decide) ?_
  refine v_icmp_ne (tgt := 15) (pc' := 9) 3 rfl rfl (by decide) (fun hc => ?_) (fun hc => ?_)
  · replace h := h.1 hc
    exact b_X9_gateRead_15 I L Q h
  replace h := h.2 hc
  refine v_aload_n (pc' := 10) 4 0 rfl rfl rfl rfl ?_
  refine v_iconst (v := 3) (pc' := 11) 5 rfl rfl (by decide) ?_
  refine v_cV (Y2 := Y_X9_faults) (As := [.int 3]) (b := 436) (pc' := 14) (c1 := 0) (s1 := 0) 6 rfl rfl mf_X9_faults rfl rfl ml_X9_229 mi_X9_faults se_X9_faults (ci := 8) rfl ly_436 (lay_lt ly_436 (by decide)) rfl (Nat.le_of_ble_eq_true rfl) ⟨Nat.le_of_ble_eq_true rfl, Nat.le_of_ble_eq_true rfl⟩ rfl rfl (ok_X9_faults (3 : Int32) I L h) ?_ ?_
  · intro e9 u9 hx9
    exact hx9.elim
  intro v9 u9 hv9
  obtain ⟨r2107, I2108, rfl, rfl, h⟩ := hv9
  refine ⟨fun q => absurd q (Nat.lt_irrefl _), ?_⟩
  show V G Y_X9_gateRead 14 _ (.int r2107 :: _) _ _ _ _ _
  refine v_pop (pc' := 15) 7 rfl rfl rfl ?_
  exact b_X9_gateRead_15 I2108 L Q h
set_option maxHeartbeats 4000000 in
set_option maxRecDepth 100000 in
theorem b_X9_reads0_107 {G : GT} {b d t : Nat} (I : TI) (L : TL)  (Q : TI → TL → Prop)  (h : B_X9_reads0_107 I L Q) : V G Y_X9_reads0 107 [(0, .ref 436)] [] (I, L, RT b d t, 457) 0 0 (fun v9 u9 => ∃ (I9 : TI) (L9 : TL), v9 = none ∧ u9 = (I9, L9, RT b d t, 457) ∧ Q I9 L9) (fun _ _ => False) := by
  unfold B_X9_reads0_107 at h
  refine v_aload_n (pc' := 108) 52 0 rfl rfl rfl rfl ?_
  refine v_cV (Y2 := Y_X9_isGood) (As := []) (b := 436) (pc' := 111) (c1 := 0) (s1 := 0) 53 rfl rfl mf_X9_isGood rfl rfl ml_X9_218 mi_X9_isGood se_X9_isGood (ci := 8) rfl ly_436 (lay_lt ly_436 (by decide)) rfl (Nat.le_of_ble_eq_true rfl) ⟨Nat.le_of_ble_eq_true rfl, Nat.le_of_ble_eq_true rfl⟩ rfl rfl (ok_X9_isGood I L h) ?_ ?_
  · intro e9 u9 hx9
    exact hx9.elim
  intro v9 u9 hv9
  obtain ⟨r2157, rfl, rfl, h⟩ := hv9
  refine ⟨fun q => absurd q (Nat.lt_irrefl _), ?_⟩
  show V G Y_X9_reads0 111 _ (.int r2157 :: _) _ _ _ _ _
  refine v_if_eq (tgt := 127) (pc' := 114) 54 rfl rfl (by decide) (fun hc => ?_) (fun hc => ?_)
  · replace h := h.1 hc
    exact v_vret 62 rfl rfl (by decide) (by decide) ⟨_, _, rfl, rfl, h⟩
  replace h := h.2 hc
  refine v_aload_n (pc' := 115) 55 0 rfl rfl rfl rfl ?_
  refine v_getI (pc' := 118) 56 rfl rfl pf_X9_196 ly_436 (lay_lt ly_436 (by decide)) ?_
  refine v_if_eq (tgt := 127) (pc' := 121) 57 rfl rfl (by decide) (fun hc => ?_) (fun hc => ?_)
  · replace h := h.1 hc
    exact v_vret 62 rfl rfl (by decide) (by decide) ⟨_, _, rfl, rfl, h⟩
  replace h := h.2 hc
  refine v_aload_n (pc' := 122) 58 0 rfl rfl rfl rfl ?_
  refine v_iconst (v := 1) (pc' := 123) 59 rfl rfl (by decide) ?_
  refine v_cV (Y2 := Y_X9_faults) (As := [.int 1]) (b := 436) (pc' := 126) (c1 := 0) (s1 := 0) 60 rfl rfl mf_X9_faults rfl rfl ml_X9_229 mi_X9_faults se_X9_faults (ci := 8) rfl ly_436 (lay_lt ly_436 (by decide)) rfl (Nat.le_of_ble_eq_true rfl) ⟨Nat.le_of_ble_eq_true rfl, Nat.le_of_ble_eq_true rfl⟩ rfl rfl (ok_X9_faults (1 : Int32) I L h) ?_ ?_
  · intro e9 u9 hx9
    exact hx9.elim
  intro v9 u9 hv9
  obtain ⟨r2158, I2159, rfl, rfl, h⟩ := hv9
  refine ⟨fun q => absurd q (Nat.lt_irrefl _), ?_⟩
  show V G Y_X9_reads0 126 _ (.int r2158 :: _) _ _ _ _ _
  refine v_pop (pc' := 127) 61 rfl rfl rfl ?_
  exact v_vret 62 rfl rfl (by decide) (by decide) ⟨_, _, rfl, rfl, h⟩
set_option maxHeartbeats 4000000 in
set_option maxRecDepth 100000 in
theorem d_X9_reads0_73 {G : GT} {b d t : Nat}  (Q : TI → TL → Prop) (R73 : Int32 → TI → TL → Prop)  (hR73 : ∀ (v1 : Int32) (I : TI) (L : TL), R73 v1 I L → V G Y_X9_reads0 73 [(0, .ref 436), (1, .int v1)] [] (I, L, RT b d t, 457) 0 0 (fun v9 u9 => ∃ (I9 : TI) (L9 : TL), v9 = none ∧ u9 = (I9, L9, RT b d t, 457) ∧ Q I9 L9) (fun _ _ => False)) (v1 : Int32) (I : TI) (L : TL)  (h : D_X9_reads0_73 Q R73 v1 I L) : V G Y_X9_reads0 73 [(0, .ref 436), (1, .int v1)] [] (I, L, RT b d t, 457) 0 0 (fun v9 u9 => ∃ (I9 : TI) (L9 : TL), v9 = none ∧ u9 = (I9, L9, RT b d t, 457) ∧ Q I9 L9) (fun _ _ => False) := by
  unfold D_X9_reads0_73 at h
  refine v_iload_n (pc' := 74) 33 1 rfl rfl rfl rfl ?_
  refine v_iconst (v := 3) (pc' := 75) 34 rfl rfl (by decide) ?_
  refine v_icmp_ge (tgt := 101) (pc' := 78) 35 rfl rfl (by decide) (fun hc => ?_) (fun hc => ?_)
  · replace h := h.1 hc
    refine v_aload_n (pc' := 102) 49 0 rfl rfl rfl rfl ?_
    refine v_bipush (v := 59) (pc' := 104) 50 rfl rfl (by decide) ?_
    refine v_cV (Y2 := Y_X9_must) (As := [.int 59]) (b := 436) (pc' := 107) (c1 := 0) (s1 := 0) 51 rfl rfl mf_X9_must rfl rfl ml_X9_244 mi_X9_must se_X9_must (ci := 8) rfl ly_436 (lay_lt ly_436 (by decide)) rfl (Nat.le_of_ble_eq_true rfl) ⟨Nat.le_of_ble_eq_true rfl, Nat.le_of_ble_eq_true rfl⟩ rfl rfl (ok_X9_must (59 : Int32) I L h) ?_ ?_
    · intro e9 u9 hx9
      exact hx9.elim
    intro v9 u9 hv9
    obtain ⟨I2160, L2161, rfl, rfl, h⟩ := hv9
    refine ⟨fun q => absurd q (Nat.lt_irrefl _), ?_⟩
    show V G Y_X9_reads0 107 _ _ _ _ _ _ _
    refine V.sub [0] rfl ?_
    exact b_X9_reads0_107 I2160 L2161 Q h
  replace h := h.2 hc
  refine v_aload_n (pc' := 79) 36 0 rfl rfl rfl rfl ?_
  refine v_getR (t := 437) (pc' := 82) 37 rfl rfl pf_X9_7 ly_436 (lay_lt ly_436 (by decide)) rt_436_1 ?_
  refine v_iconst (v := 1) (pc' := 83) 38 rfl rfl (by decide) ?_
  refine v_iload_n (pc' := 84) 39 1 rfl rfl rfl rfl ?_
  refine v_iadd (pc' := 85) 40 rfl rfl ?_
  refine v_aload_n (pc' := 86) 41 0 rfl rfl rfl rfl ?_
  refine v_iconst (v := 0) (pc' := 87) 42 rfl rfl (by decide) ?_
  refine v_ldc_w (v := 99999) (pc' := 90) 43 rfl rfl ki_X9_279 ?_
  refine v_cV (Y2 := Y_X9_number) (As := [.int 0, .int 99999]) (b := 436) (pc' := 93) (c1 := 0) (s1 := 0) 44 rfl rfl mf_X9_number rfl rfl ml_X9_241 mi_X9_number se_X9_number (ci := 8) rfl ly_436 (lay_lt ly_436 (by decide)) rfl (Nat.le_of_ble_eq_true rfl) ⟨Nat.le_of_ble_eq_true rfl, Nat.le_of_ble_eq_true rfl⟩ rfl rfl (ok_X9_number (0 : Int32) (99999 : Int32) I L h) ?_ ?_
  · intro e9 u9 hx9
    exact hx9.elim
  intro v9 u9 hv9
  obtain ⟨r2162, I2163, L2164, rfl, rfl, h⟩ := hv9
  refine ⟨fun q => absurd q (Nat.lt_irrefl _), ?_⟩
  show V G Y_X9_reads0 93 _ (.int r2162 :: _) _ _ _ _ _
  refine v_i2l (pc' := 94) 45 rfl rfl ?_
  obtain ⟨hi2165, h⟩ := h
  refine v_last (i := ((1 : Int32) + v1)) (j := ((1 : Int32) + v1).toNatClampNeg) (pc' := 95) 46 rfl rfl ly_437 ln_437 (lay_lt ly_437 (by decide)) hi2165 rfl ?_
  refine nm_N (e := (up2 L2164 437 (((1 : Int32) + v1).toNatClampNeg) (r2162.toInt64))) (fun L2166 hL2166 => ?_)
  replace h := h L2166 hL2166
  refine v_iinc (v := (v1 + 1)) (ls' := [(1, .int (v1 + 1)), (0, .ref 436)]) (pc' := 98) 47 1 rfl rfl rfl rfl (by decide) rfl ?_
  refine v_goto (tgt := 73) 48 rfl (by decide) ?_
  refine V.sub [1, 0] rfl ?_
  exact hR73 (v1 + 1) I2163 L2166 h
theorem l_X9_reads0_73 {G : GT} {b d t : Nat}  (Q : TI → TL → Prop)  : ∀ (n9 : Nat) (v1 : Int32) (I : TI) (L : TL), L_X9_reads0_73 Q n9 v1 I L → V G Y_X9_reads0 73 [(0, .ref 436), (1, .int v1)] [] (I, L, RT b d t, 457) 0 0 (fun v9 u9 => ∃ (I9 : TI) (L9 : TL), v9 = none ∧ u9 = (I9, L9, RT b d t, 457) ∧ Q I9 L9) (fun _ _ => False)
  | 0, _, _, _, h => h.elim
  | n9 + 1, v1, I, L, h => d_X9_reads0_73 Q _ (l_X9_reads0_73 Q n9) v1 I L h
set_option maxHeartbeats 4000000 in
set_option maxRecDepth 100000 in
theorem d_X9_reads0_44 {G : GT} {b d t : Nat}  (Q : TI → TL → Prop) (R44 : TI → TL → Prop)  (hR44 : ∀ (I : TI) (L : TL), R44 I L → V G Y_X9_reads0 44 [(0, .ref 436)] [] (I, L, RT b d t, 457) 0 0 (fun v9 u9 => ∃ (I9 : TI) (L9 : TL), v9 = none ∧ u9 = (I9, L9, RT b d t, 457) ∧ Q I9 L9) (fun _ _ => False)) (I : TI) (L : TL)  (h : D_X9_reads0_44 Q R44 I L) : V G Y_X9_reads0 44 [(0, .ref 436)] [] (I, L, RT b d t, 457) 0 0 (fun v9 u9 => ∃ (I9 : TI) (L9 : TL), v9 = none ∧ u9 = (I9, L9, RT b d t, 457) ∧ Q I9 L9) (fun _ _ => False) := by
  unfold D_X9_reads0_44 at h
  refine v_aload_n (pc' := 45) 20 0 rfl rfl rfl rfl ?_
  refine v_ldc2 (v := 139055) (pc' := 48) 21 rfl rfl kl_X9_272 ?_
  refine v_cV (Y2 := Y_X9_isWord) (As := [.long 139055]) (b := 436) (pc' := 51) (c1 := 0) (s1 := 0) 22 rfl rfl mf_X9_isWord rfl rfl ml_X9_222 mi_X9_isWord se_X9_isWord (ci := 8) rfl ly_436 (lay_lt ly_436 (by decide)) rfl (Nat.le_of_ble_eq_true rfl) ⟨Nat.le_of_ble_eq_true rfl, Nat.le_of_ble_eq_true rfl⟩ rfl rfl (ok_X9_isWord (139055 : Int64) I L h) ?_ ?_
  · intro e9 u9 hx9
    exact hx9.elim
  intro v9 u9 hv9
  obtain ⟨r2167, rfl, rfl, h⟩ := hv9
  refine ⟨fun q => absurd q (Nat.lt_irrefl _), ?_⟩
  show V G Y_X9_reads0 51 _ (.int r2167 :: _) _ _ _ _ _
  refine v_if_eq (tgt := 61) (pc' := 54) 23 rfl rfl (by decide) (fun hc => ?_) (fun hc => ?_)
  · replace h := h.1 hc
    refine v_aload_n (pc' := 62) 27 0 rfl rfl rfl rfl ?_
    refine v_ldc2 (v := 241111072) (pc' := 65) 28 rfl rfl kl_X9_277 ?_
    refine v_cV (Y2 := Y_X9_passes) (As := [.long 241111072]) (b := 436) (pc' := 68) (c1 := 0) (s1 := 0) 29 rfl rfl mf_X9_passes rfl rfl ml_X9_238 mi_X9_passes se_X9_passes (ci := 8) rfl ly_436 (lay_lt ly_436 (by decide)) rfl (Nat.le_of_ble_eq_true rfl) ⟨Nat.le_of_ble_eq_true rfl, Nat.le_of_ble_eq_true rfl⟩ rfl rfl (ok_X9_passes (241111072 : Int64) I L h) ?_ ?_
    · intro e9 u9 hx9
      exact hx9.elim
    intro v9 u9 hv9
    obtain ⟨r2168, I2169, L2170, rfl, rfl, h⟩ := hv9
    refine ⟨fun q => absurd q (Nat.lt_irrefl _), ?_⟩
    show V G Y_X9_reads0 68 _ (.int r2168 :: _) _ _ _ _ _
    refine v_if_eq (tgt := 107) (pc' := 71) 30 rfl rfl (by decide) (fun hc => ?_) (fun hc => ?_)
    · replace h := h.1 hc
      exact b_X9_reads0_107 I2169 L2170 Q h
    replace h := h.2 hc
    refine v_iconst (v := 0) (pc' := 72) 31 rfl rfl (by decide) ?_
    refine v_istore_n (ls' := [(1, .int 0), (0, .ref 436)]) (pc' := 73) 32 rfl rfl rfl (by decide) rfl ?_
    refine V.sub [1, 0] rfl ?_
    obtain ⟨n2171, h⟩ := h
    exact l_X9_reads0_73 Q n2171 (0 : Int32) I2169 L2170 h
  replace h := h.2 hc
  refine v_aload_n (pc' := 55) 24 0 rfl rfl rfl rfl ?_
  refine v_cV (Y2 := Y_X9_gateRead) (As := []) (b := 436) (pc' := 58) (c1 := 0) (s1 := 0) 25 rfl rfl mf_X9_gateRead rfl rfl ml_X9_274 mi_X9_gateRead se_X9_gateRead (ci := 8) rfl ly_436 (lay_lt ly_436 (by decide)) rfl (Nat.le_of_ble_eq_true rfl) ⟨Nat.le_of_ble_eq_true rfl, Nat.le_of_ble_eq_true rfl⟩ rfl rfl (ok_X9_gateRead I L h) ?_ ?_
  · intro e9 u9 hx9
    exact hx9.elim
  intro v9 u9 hv9
  obtain ⟨I2172, L2173, rfl, rfl, h⟩ := hv9
  refine ⟨fun q => absurd q (Nat.lt_irrefl _), ?_⟩
  show V G Y_X9_reads0 58 _ _ _ _ _ _ _
  refine v_goto (tgt := 44) 26 rfl (by decide) ?_
  exact hR44 I2172 L2173 h
theorem l_X9_reads0_44 {G : GT} {b d t : Nat}  (Q : TI → TL → Prop)  : ∀ (n9 : Nat) (I : TI) (L : TL), L_X9_reads0_44 Q n9 I L → V G Y_X9_reads0 44 [(0, .ref 436)] [] (I, L, RT b d t, 457) 0 0 (fun v9 u9 => ∃ (I9 : TI) (L9 : TL), v9 = none ∧ u9 = (I9, L9, RT b d t, 457) ∧ Q I9 L9) (fun _ _ => False)
  | 0, _, _, h => h.elim
  | n9 + 1, I, L, h => d_X9_reads0_44 Q _ (l_X9_reads0_44 Q n9) I L h
set_option maxHeartbeats 4000000 in
set_option maxRecDepth 100000 in
theorem d_X9_reads0_27 {G : GT} {b d t : Nat}  (Q : TI → TL → Prop) (R27 : TI → TL → Prop)  (hR27 : ∀ (I : TI) (L : TL), R27 I L → V G Y_X9_reads0 27 [(0, .ref 436)] [] (I, L, RT b d t, 457) 0 0 (fun v9 u9 => ∃ (I9 : TI) (L9 : TL), v9 = none ∧ u9 = (I9, L9, RT b d t, 457) ∧ Q I9 L9) (fun _ _ => False)) (I : TI) (L : TL)  (h : D_X9_reads0_27 Q R27 I L) : V G Y_X9_reads0 27 [(0, .ref 436)] [] (I, L, RT b d t, 457) 0 0 (fun v9 u9 => ∃ (I9 : TI) (L9 : TL), v9 = none ∧ u9 = (I9, L9, RT b d t, 457) ∧ Q I9 L9) (fun _ _ => False) := by
  unfold D_X9_reads0_27 at h
  refine v_aload_n (pc' := 28) 13 0 rfl rfl rfl rfl ?_
  refine v_ldc2 (v := 5070782) (pc' := 31) 14 rfl rfl kl_X9_267 ?_
  refine v_cV (Y2 := Y_X9_isWord) (As := [.long 5070782]) (b := 436) (pc' := 34) (c1 := 0) (s1 := 0) 15 rfl rfl mf_X9_isWord rfl rfl ml_X9_222 mi_X9_isWord se_X9_isWord (ci := 8) rfl ly_436 (lay_lt ly_436 (by decide)) rfl (Nat.le_of_ble_eq_true rfl) ⟨Nat.le_of_ble_eq_true rfl, Nat.le_of_ble_eq_true rfl⟩ rfl rfl (ok_X9_isWord (5070782 : Int64) I L h) ?_ ?_
  · intro e9 u9 hx9
    exact hx9.elim
  intro v9 u9 hv9
  obtain ⟨r2174, rfl, rfl, h⟩ := hv9
  refine ⟨fun q => absurd q (Nat.lt_irrefl _), ?_⟩
  show V G Y_X9_reads0 34 _ (.int r2174 :: _) _ _ _ _ _
  refine v_if_eq (tgt := 44) (pc' := 37) 16 rfl rfl (by decide) (fun hc => ?_) (fun hc => ?_)
  · replace h := h.1 hc
    obtain ⟨n2175, h⟩ := h
    exact l_X9_reads0_44 Q n2175 I L h
  replace h := h.2 hc
  refine v_aload_n (pc' := 38) 17 0 rfl rfl rfl rfl ?_
  refine v_cV (Y2 := Y_X9_inputRead) (As := []) (b := 436) (pc' := 41) (c1 := 0) (s1 := 0) 18 rfl rfl mf_X9_inputRead rfl rfl ml_X9_269 mi_X9_inputRead se_X9_inputRead (ci := 8) rfl ly_436 (lay_lt ly_436 (by decide)) rfl (Nat.le_of_ble_eq_true rfl) ⟨Nat.le_of_ble_eq_true rfl, Nat.le_of_ble_eq_true rfl⟩ rfl rfl (ok_X9_inputRead I L h) ?_ ?_
  · intro e9 u9 hx9
    exact hx9.elim
  intro v9 u9 hv9
  obtain ⟨I2176, L2177, rfl, rfl, h⟩ := hv9
  refine ⟨fun q => absurd q (Nat.lt_irrefl _), ?_⟩
  show V G Y_X9_reads0 41 _ _ _ _ _ _ _
  refine v_goto (tgt := 27) 19 rfl (by decide) ?_
  exact hR27 I2176 L2177 h
theorem l_X9_reads0_27 {G : GT} {b d t : Nat}  (Q : TI → TL → Prop)  : ∀ (n9 : Nat) (I : TI) (L : TL), L_X9_reads0_27 Q n9 I L → V G Y_X9_reads0 27 [(0, .ref 436)] [] (I, L, RT b d t, 457) 0 0 (fun v9 u9 => ∃ (I9 : TI) (L9 : TL), v9 = none ∧ u9 = (I9, L9, RT b d t, 457) ∧ Q I9 L9) (fun _ _ => False)
  | 0, _, _, h => h.elim
  | n9 + 1, I, L, h => d_X9_reads0_27 Q _ (l_X9_reads0_27 Q n9) I L h
set_option maxHeartbeats 4000000 in
set_option maxRecDepth 100000 in
theorem ok_X9_reads0 {G : GT} {b d t : Nat} (I : TI) (L : TL)  {Q : TI → TL → Prop} (h : W_X9_reads0 I L Q) : MW G Y_X9_reads0 [.ref 436] (I, L, RT b d t, 457) (fun v9 u9 => ∃ (I9 : TI) (L9 : TL), v9 = none ∧ u9 = (I9, L9, RT b d t, 457) ∧ Q I9 L9) (fun _ _ => False) := by
  unfold W_X9_reads0 at h
  refine MW.intro rfl (by decide) is_X9_reads0 (Nat.le_of_ble_eq_true rfl) ?_
  show V G Y_X9_reads0 0 [(0, .ref 436)] [] (I, L, RT b d t, 457) 0 0 _ _
  refine v_aload_n (pc' := 1) 0 0 rfl rfl rfl rfl ?_
  refine v_cV (Y2 := Y_X9_headRead) (As := []) (b := 436) (pc' := 4) (c1 := 0) (s1 := 0) 1 rfl rfl mf_X9_headRead rfl rfl ml_X9_264 mi_X9_headRead se_X9_headRead (ci := 8) rfl ly_436 (lay_lt ly_436 (by decide)) rfl (Nat.le_of_ble_eq_true rfl) ⟨Nat.le_of_ble_eq_true rfl, Nat.le_of_ble_eq_true rfl⟩ rfl rfl (ok_X9_headRead I L h) ?_ ?_
  · intro e9 u9 hx9
    exact hx9.elim
  intro v9 u9 hv9
  obtain ⟨I2178, L2179, rfl, rfl, h⟩ := hv9
  refine ⟨fun q => absurd q (Nat.lt_irrefl _), ?_⟩
  show V G Y_X9_reads0 4 _ _ _ _ _ _ _
  refine v_aload_n (pc' := 5) 2 0 rfl rfl rfl rfl ?_
  refine v_cV (Y2 := Y_X9_isGood) (As := []) (b := 436) (pc' := 8) (c1 := 0) (s1 := 0) 3 rfl rfl mf_X9_isGood rfl rfl ml_X9_218 mi_X9_isGood se_X9_isGood (ci := 8) rfl ly_436 (lay_lt ly_436 (by decide)) rfl (Nat.le_of_ble_eq_true rfl) ⟨Nat.le_of_ble_eq_true rfl, Nat.le_of_ble_eq_true rfl⟩ rfl rfl (ok_X9_isGood I2178 L2179 h) ?_ ?_
  · intro e9 u9 hx9
    exact hx9.elim
  intro v9 u9 hv9
  obtain ⟨r2180, rfl, rfl, h⟩ := hv9
  refine ⟨fun q => absurd q (Nat.lt_irrefl _), ?_⟩
  show V G Y_X9_reads0 8 _ (.int r2180 :: _) _ _ _ _ _
  refine v_if_eq (tgt := 27) (pc' := 11) 4 rfl rfl (by decide) (fun hc => ?_) (fun hc => ?_)
  · replace h := h.1 hc
    obtain ⟨n2181, h⟩ := h
    exact l_X9_reads0_27 Q n2181 I2178 L2179 h
  replace h := h.2 hc
  refine v_aload_n (pc' := 12) 5 0 rfl rfl rfl rfl ?_
  refine v_ldc2 (v := 5070782) (pc' := 15) 6 rfl rfl kl_X9_267 ?_
  refine v_cV (Y2 := Y_X9_isWord) (As := [.long 5070782]) (b := 436) (pc' := 18) (c1 := 0) (s1 := 0) 7 rfl rfl mf_X9_isWord rfl rfl ml_X9_222 mi_X9_isWord se_X9_isWord (ci := 8) rfl ly_436 (lay_lt ly_436 (by decide)) rfl (Nat.le_of_ble_eq_true rfl) ⟨Nat.le_of_ble_eq_true rfl, Nat.le_of_ble_eq_true rfl⟩ rfl rfl (ok_X9_isWord (5070782 : Int64) I2178 L2179 h) ?_ ?_
  · intro e9 u9 hx9
    exact hx9.elim
  intro v9 u9 hv9
  obtain ⟨r2182, rfl, rfl, h⟩ := hv9
  refine ⟨fun q => absurd q (Nat.lt_irrefl _), ?_⟩
  show V G Y_X9_reads0 18 _ (.int r2182 :: _) _ _ _ _ _
  refine v_if_ne (tgt := 27) (pc' := 21) 8 rfl rfl (by decide) (fun hc => ?_) (fun hc => ?_)
  · replace h := h.1 hc
    obtain ⟨n2183, h⟩ := h
    exact l_X9_reads0_27 Q n2183 I2178 L2179 h
  replace h := h.2 hc
  refine v_aload_n (pc' := 22) 9 0 rfl rfl rfl rfl ?_
  refine v_iconst (v := 1) (pc' := 23) 10 rfl rfl (by decide) ?_
  refine v_cV (Y2 := Y_X9_faults) (As := [.int 1]) (b := 436) (pc' := 26) (c1 := 0) (s1 := 0) 11 rfl rfl mf_X9_faults rfl rfl ml_X9_229 mi_X9_faults se_X9_faults (ci := 8) rfl ly_436 (lay_lt ly_436 (by decide)) rfl (Nat.le_of_ble_eq_true rfl) ⟨Nat.le_of_ble_eq_true rfl, Nat.le_of_ble_eq_true rfl⟩ rfl rfl (ok_X9_faults (1 : Int32) I2178 L2179 h) ?_ ?_
  · intro e9 u9 hx9
    exact hx9.elim
  intro v9 u9 hv9
  obtain ⟨r2184, I2185, rfl, rfl, h⟩ := hv9
  refine ⟨fun q => absurd q (Nat.lt_irrefl _), ?_⟩
  show V G Y_X9_reads0 26 _ (.int r2184 :: _) _ _ _ _ _
  refine v_pop (pc' := 27) 12 rfl rfl rfl ?_
  obtain ⟨n2186, h⟩ := h
  exact l_X9_reads0_27 Q n2186 I2185 L2179 h
set_option maxHeartbeats 4000000 in
set_option maxRecDepth 100000 in
theorem d_X9_load_196 {G : GT} {b d t : Nat} (v2 : Int32) (v3 : Int32) (v4 : Int32) (v5 : Int32) (v6 : Int32) (L : TL)  (Q : Int32 → TI → TL → Prop) (R196 : Int32 → TI → Prop)  (hR196 : ∀ (v7 : Int32) (I : TI), R196 v7 I → V G Y_X9_load 196 [(0, .ref 436), (2, .int v2), (3, .int v3), (4, .int v4), (5, .int v5), (6, .int v6), (7, .int v7)] [] (I, L, RT b d t, 457) 0 0 (fun v9 u9 => ∃ (r9 : Int32) (I9 : TI) (L9 : TL), v9 = some (.int r9) ∧ u9 = (I9, L9, RT b d t, 457) ∧ Q r9 I9 L9) (fun _ _ => False)) (v7 : Int32) (I : TI)  (h : D_X9_load_196 v2 v3 v4 v5 v6 L Q R196 v7 I) : V G Y_X9_load 196 [(0, .ref 436), (2, .int v2), (3, .int v3), (4, .int v4), (5, .int v5), (6, .int v6), (7, .int v7)] [] (I, L, RT b d t, 457) 0 0 (fun v9 u9 => ∃ (r9 : Int32) (I9 : TI) (L9 : TL), v9 = some (.int r9) ∧ u9 = (I9, L9, RT b d t, 457) ∧ Q r9 I9 L9) (fun _ _ => False) := by
  unfold D_X9_load_196 at h
  refine v_iload (pc' := 198) 111 6 rfl rfl rfl ?_
  refine v_bipush (v := 12) (pc' := 200) 112 rfl rfl (by decide) ?_
  refine v_icmp_ge (tgt := 251) (pc' := 203) 113 rfl rfl (by decide) (fun hc => ?_) (fun hc => ?_)
  · replace h := h.1 hc
    refine v_aload_n (pc' := 252) 140 0 rfl rfl rfl rfl ?_
    refine v_iload_n (pc' := 253) 141 1 rfl rfl rfl rfl ?_
    refine v_putI (pc' := 256) 142 rfl rfl pf_X9_86 (fun q => absurd q (by decide)) ly_436 (lay_lt ly_436 (by decide)) ?_
    refine v_aload_n (pc' := 257) 143 0 rfl rfl rfl rfl ?_
    refine v_iload_n (pc' := 258) 144 2 rfl rfl rfl rfl ?_
    refine v_putI (pc' := 261) 145 rfl rfl pf_X9_89 (fun q => absurd q (by decide)) ly_436 (lay_lt ly_436 (by decide)) ?_
    refine v_aload_n (pc' := 262) 146 0 rfl rfl rfl rfl ?_
    refine v_iload (pc' := 264) 147 3 rfl rfl rfl ?_
    refine v_putI (pc' := 267) 148 rfl rfl pf_X9_92 (fun q => absurd q (by decide)) ly_436 (lay_lt ly_436 (by decide)) ?_
    refine v_aload_n (pc' := 268) 149 0 rfl rfl rfl rfl ?_
    refine v_iload (pc' := 270) 150 4 rfl rfl rfl ?_
    refine v_putI (pc' := 273) 151 rfl rfl pf_X9_77 (fun q => absurd q (by decide)) ly_436 (lay_lt ly_436 (by decide)) ?_
    refine nm_M (e := (up2 (up2 (up2 (up2 I 436 7 v2) 436 8 v3) 436 9 v4) 436 10 v5)) (fun I2253 hI2253 => ?_)
    replace h := h I2253 hI2253
    refine v_aload_n (pc' := 274) 152 0 rfl rfl rfl rfl ?_
    refine v_iload (pc' := 276) 153 5 rfl rfl rfl ?_
    refine v_putI (pc' := 279) 154 rfl rfl pf_X9_83 (fun q => absurd q (by decide)) ly_436 (lay_lt ly_436 (by decide)) ?_
    refine v_bipush (v := -10) (pc' := 281) 155 rfl rfl (by decide) ?_
    refine v_aload_n (pc' := 282) 156 0 rfl rfl rfl rfl ?_
    refine v_getI (pc' := 285) 157 rfl rfl pf_X9_212 ly_436 (lay_lt ly_436 (by decide)) ?_
    refine v_isub (pc' := 286) 158 rfl rfl ?_
    exact v_iret 159 rfl rfl (by decide) (by decide) ⟨_, _, _, rfl, rfl, h⟩
  replace h := h.2 hc
  refine v_aload_n (pc' := 204) 114 0 rfl rfl rfl rfl ?_
  refine v_getR (t := 441) (pc' := 207) 115 rfl rfl pf_X9_22 ly_436 (lay_lt ly_436 (by decide)) rt_436_12 ?_
  refine v_iload (pc' := 209) 116 6 rfl rfl rfl ?_
  refine v_aload_n (pc' := 210) 117 0 rfl rfl rfl rfl ?_
  refine v_getR (t := 448) (pc' := 213) 118 rfl rfl pf_X9_48 ly_436 (lay_lt ly_436 (by decide)) rt_436_31 ?_
  refine v_iload (pc' := 215) 119 6 rfl rfl rfl ?_
  obtain ⟨hi2254, h⟩ := h
  refine v_iald (i := v7) (j := v7.toNatClampNeg) (pc' := 216) 120 rfl rfl ly_448 ln_448 (lay_lt ly_448 (by decide)) hi2254 rfl ?_
  obtain ⟨hi2255, h⟩ := h
  refine v_iast (i := v7) (j := v7.toNatClampNeg) (pc' := 217) 121 rfl rfl ly_441 ln_441 (lay_lt ly_441 (by decide)) hi2255 rfl ?_
  refine v_aload_n (pc' := 218) 122 0 rfl rfl rfl rfl ?_
  refine v_getR (t := 442) (pc' := 221) 123 rfl rfl pf_X9_26 ly_436 (lay_lt ly_436 (by decide)) rt_436_13 ?_
  refine v_iload (pc' := 223) 124 6 rfl rfl rfl ?_
  refine v_aload_n (pc' := 224) 125 0 rfl rfl rfl rfl ?_
  refine v_getR (t := 449) (pc' := 227) 126 rfl rfl pf_X9_51 ly_436 (lay_lt ly_436 (by decide)) rt_436_32 ?_
  refine v_iload (pc' := 229) 127 6 rfl rfl rfl ?_
  obtain ⟨hi2256, h⟩ := h
  refine v_iald (i := v7) (j := v7.toNatClampNeg) (pc' := 230) 128 rfl rfl ly_449 ln_449 (lay_lt ly_449 (by decide)) hi2256 rfl ?_
  obtain ⟨hi2257, h⟩ := h
  refine v_iast (i := v7) (j := v7.toNatClampNeg) (pc' := 231) 129 rfl rfl ly_442 ln_442 (lay_lt ly_442 (by decide)) hi2257 rfl ?_
  refine nm_M (e := (up2 (up2 I 441 (v7.toNatClampNeg) (I 448 (v7.toNatClampNeg))) 442 (v7.toNatClampNeg) ((up2 I 441 (v7.toNatClampNeg) (I 448 (v7.toNatClampNeg))) 449 (v7.toNatClampNeg)))) (fun I2258 hI2258 => ?_)
  replace h := h I2258 hI2258
  refine v_aload_n (pc' := 232) 130 0 rfl rfl rfl rfl ?_
  refine v_getR (t := 443) (pc' := 235) 131 rfl rfl pf_X9_29 ly_436 (lay_lt ly_436 (by decide)) rt_436_14 ?_
  refine v_iload (pc' := 237) 132 6 rfl rfl rfl ?_
  refine v_aload_n (pc' := 238) 133 0 rfl rfl rfl rfl ?_
  refine v_getR (t := 450) (pc' := 241) 134 rfl rfl pf_X9_54 ly_436 (lay_lt ly_436 (by decide)) rt_436_33 ?_
  refine v_iload (pc' := 243) 135 6 rfl rfl rfl ?_
  obtain ⟨hi2259, h⟩ := h
  refine v_iald (i := v7) (j := v7.toNatClampNeg) (pc' := 244) 136 rfl rfl ly_450 ln_450 (lay_lt ly_450 (by decide)) hi2259 rfl ?_
  obtain ⟨hi2260, h⟩ := h
  refine v_iast (i := v7) (j := v7.toNatClampNeg) (pc' := 245) 137 rfl rfl ly_443 ln_443 (lay_lt ly_443 (by decide)) hi2260 rfl ?_
  refine nm_M (e := (up2 I2258 443 (v7.toNatClampNeg) (I2258 450 (v7.toNatClampNeg)))) (fun I2261 hI2261 => ?_)
  replace h := h I2261 hI2261
  refine v_iinc (v := (v7 + 1)) (ls' := [(7, .int (v7 + 1)), (0, .ref 436), (2, .int v2), (3, .int v3), (4, .int v4), (5, .int v5), (6, .int v6)]) (pc' := 248) 138 6 rfl rfl rfl rfl (by decide) rfl ?_
  refine v_goto (tgt := 196) 139 rfl (by decide) ?_
  refine V.sub [1, 2, 3, 4, 5, 6, 0] rfl ?_
  exact hR196 (v7 + 1) I2261 h
theorem l_X9_load_196 {G : GT} {b d t : Nat} (v2 : Int32) (v3 : Int32) (v4 : Int32) (v5 : Int32) (v6 : Int32) (L : TL)  (Q : Int32 → TI → TL → Prop)  : ∀ (n9 : Nat) (v7 : Int32) (I : TI), L_X9_load_196 v2 v3 v4 v5 v6 L Q n9 v7 I → V G Y_X9_load 196 [(0, .ref 436), (2, .int v2), (3, .int v3), (4, .int v4), (5, .int v5), (6, .int v6), (7, .int v7)] [] (I, L, RT b d t, 457) 0 0 (fun v9 u9 => ∃ (r9 : Int32) (I9 : TI) (L9 : TL), v9 = some (.int r9) ∧ u9 = (I9, L9, RT b d t, 457) ∧ Q r9 I9 L9) (fun _ _ => False)
  | 0, _, _, h => h.elim
  | n9 + 1, v7, I, h => d_X9_load_196 v2 v3 v4 v5 v6 L Q _ (l_X9_load_196 v2 v3 v4 v5 v6 L Q n9) v7 I h
set_option maxHeartbeats 4000000 in
set_option maxRecDepth 100000 in
theorem d_X9_load_165 {G : GT} {b d t : Nat} (v2 : Int32) (v3 : Int32) (v4 : Int32) (v5 : Int32) (v6 : Int32) (I : TI)  (Q : Int32 → TI → TL → Prop) (R165 : Int32 → TL → Prop)  (hR165 : ∀ (v7 : Int32) (L : TL), R165 v7 L → V G Y_X9_load 165 [(0, .ref 436), (2, .int v2), (3, .int v3), (4, .int v4), (5, .int v5), (6, .int v6), (7, .int v7)] [] (I, L, RT b d t, 457) 0 0 (fun v9 u9 => ∃ (r9 : Int32) (I9 : TI) (L9 : TL), v9 = some (.int r9) ∧ u9 = (I9, L9, RT b d t, 457) ∧ Q r9 I9 L9) (fun _ _ => False)) (v7 : Int32) (L : TL)  (h : D_X9_load_165 v2 v3 v4 v5 v6 I Q R165 v7 L) : V G Y_X9_load 165 [(0, .ref 436), (2, .int v2), (3, .int v3), (4, .int v4), (5, .int v5), (6, .int v6), (7, .int v7)] [] (I, L, RT b d t, 457) 0 0 (fun v9 u9 => ∃ (r9 : Int32) (I9 : TI) (L9 : TL), v9 = some (.int r9) ∧ u9 = (I9, L9, RT b d t, 457) ∧ Q r9 I9 L9) (fun _ _ => False) := by
  unfold D_X9_load_165 at h
  refine v_iload (pc' := 167) 96 6 rfl rfl rfl ?_
  refine v_sipush (v := 241) (pc' := 170) 97 rfl rfl (by decide) ?_
  refine v_icmp_ge (tgt := 193) (pc' := 173) 98 rfl rfl (by decide) (fun hc => ?_) (fun hc => ?_)
  · replace h := h.1 hc
    refine v_iconst (v := 0) (pc' := 194) 109 rfl rfl (by decide) ?_
    refine v_istore (ls' := [(7, .int 0), (0, .ref 436), (2, .int v2), (3, .int v3), (4, .int v4), (5, .int v5), (6, .int v6)]) (pc' := 196) 110 rfl rfl (by decide) rfl ?_
    refine V.sub [1, 2, 3, 4, 5, 6, 0] rfl ?_
    obtain ⟨n2262, h⟩ := h
    exact l_X9_load_196 v2 v3 v4 v5 v6 L Q n2262 (0 : Int32) I h
  replace h := h.2 hc
  refine v_aload_n (pc' := 174) 99 0 rfl rfl rfl rfl ?_
  refine v_getR (t := 437) (pc' := 177) 100 rfl rfl pf_X9_7 ly_436 (lay_lt ly_436 (by decide)) rt_436_1 ?_
  refine v_iload (pc' := 179) 101 6 rfl rfl rfl ?_
  refine v_aload_n (pc' := 180) 102 0 rfl rfl rfl rfl ?_
  refine v_getR (t := 438) (pc' := 183) 103 rfl rfl pf_X9_13 ly_436 (lay_lt ly_436 (by decide)) rt_436_2 ?_
  refine v_iload (pc' := 185) 104 6 rfl rfl rfl ?_
  obtain ⟨hi2263, h⟩ := h
  refine v_lald (i := v7) (j := v7.toNatClampNeg) (pc' := 186) 105 rfl rfl ly_438 ln_438 (lay_lt ly_438 (by decide)) hi2263 rfl ?_
  obtain ⟨hi2264, h⟩ := h
  refine v_last (i := v7) (j := v7.toNatClampNeg) (pc' := 187) 106 rfl rfl ly_437 ln_437 (lay_lt ly_437 (by decide)) hi2264 rfl ?_
  refine v_iinc (v := (v7 + 1)) (ls' := [(7, .int (v7 + 1)), (0, .ref 436), (2, .int v2), (3, .int v3), (4, .int v4), (5, .int v5), (6, .int v6)]) (pc' := 190) 107 6 rfl rfl rfl rfl (by decide) rfl ?_
  refine v_goto (tgt := 165) 108 rfl (by decide) ?_
  refine V.sub [1, 2, 3, 4, 5, 6, 0] rfl ?_
  exact hR165 (v7 + 1) (up2 L 437 (v7.toNatClampNeg) (L 438 (v7.toNatClampNeg))) h
theorem l_X9_load_165 {G : GT} {b d t : Nat} (v2 : Int32) (v3 : Int32) (v4 : Int32) (v5 : Int32) (v6 : Int32) (I : TI)  (Q : Int32 → TI → TL → Prop)  : ∀ (n9 : Nat) (v7 : Int32) (L : TL), L_X9_load_165 v2 v3 v4 v5 v6 I Q n9 v7 L → V G Y_X9_load 165 [(0, .ref 436), (2, .int v2), (3, .int v3), (4, .int v4), (5, .int v5), (6, .int v6), (7, .int v7)] [] (I, L, RT b d t, 457) 0 0 (fun v9 u9 => ∃ (r9 : Int32) (I9 : TI) (L9 : TL), v9 = some (.int r9) ∧ u9 = (I9, L9, RT b d t, 457) ∧ Q r9 I9 L9) (fun _ _ => False)
  | 0, _, _, h => h.elim
  | n9 + 1, v7, L, h => d_X9_load_165 v2 v3 v4 v5 v6 I Q _ (l_X9_load_165 v2 v3 v4 v5 v6 I Q n9) v7 L h
set_option maxHeartbeats 4000000 in
set_option maxRecDepth 100000 in
theorem d_X9_load_55 {G : GT} {b d t : Nat} (v1 : Int32) (L : TL)  (Q : Int32 → TI → TL → Prop) (R55 : Int32 → TI → Prop)  (hR55 : ∀ (v2 : Int32) (I : TI), R55 v2 I → V G Y_X9_load 55 [(0, .ref 436), (1, .int v1), (2, .int v2)] [] (I, L, RT b d t, 457) 0 0 (fun v9 u9 => ∃ (r9 : Int32) (I9 : TI) (L9 : TL), v9 = some (.int r9) ∧ u9 = (I9, L9, RT b d t, 457) ∧ Q r9 I9 L9) (fun _ _ => False)) (v2 : Int32) (I : TI)  (h : D_X9_load_55 v1 L Q R55 v2 I) : V G Y_X9_load 55 [(0, .ref 436), (1, .int v1), (2, .int v2)] [] (I, L, RT b d t, 457) 0 0 (fun v9 u9 => ∃ (r9 : Int32) (I9 : TI) (L9 : TL), v9 = some (.int r9) ∧ u9 = (I9, L9, RT b d t, 457) ∧ Q r9 I9 L9) (fun _ _ => False) := by
  unfold D_X9_load_55 at h
  refine v_iload_n (pc' := 56) 33 2 rfl rfl rfl rfl ?_
  refine v_bipush (v := 12) (pc' := 58) 34 rfl rfl (by decide) ?_
  refine v_icmp_ge (tgt := 103) (pc' := 61) 35 rfl rfl (by decide) (fun hc => ?_) (fun hc => ?_)
  · replace h := h.1 hc
    refine v_aload_n (pc' := 104) 62 0 rfl rfl rfl rfl ?_
    refine v_getI (pc' := 107) 63 rfl rfl pf_X9_86 ly_436 (lay_lt ly_436 (by decide)) ?_
    refine v_istore_n (ls' := [(2, .int (I 436 7)), (0, .ref 436), (1, .int v1)]) (pc' := 108) 64 rfl rfl rfl (by decide) rfl ?_
    refine v_aload_n (pc' := 109) 65 1 rfl rfl rfl rfl ?_
    refine v_getI (pc' := 112) 66 rfl rfl pf_X9_89 ly_436 (lay_lt ly_436 (by decide)) ?_
    refine v_istore_n (ls' := [(3, .int (I 436 8)), (2, .int (I 436 7)), (0, .ref 436), (1, .int v1)]) (pc' := 113) 67 rfl rfl rfl (by decide) rfl ?_
    refine v_aload_n (pc' := 114) 68 2 rfl rfl rfl rfl ?_
    refine v_getI (pc' := 117) 69 rfl rfl pf_X9_92 ly_436 (lay_lt ly_436 (by decide)) ?_
    refine v_istore (ls' := [(4, .int (I 436 9)), (3, .int (I 436 8)), (2, .int (I 436 7)), (0, .ref 436), (1, .int v1)]) (pc' := 119) 70 rfl rfl (by decide) rfl ?_
    refine v_aload_n (pc' := 120) 71 3 rfl rfl rfl rfl ?_
    refine v_getI (pc' := 123) 72 rfl rfl pf_X9_77 ly_436 (lay_lt ly_436 (by decide)) ?_
    refine v_istore (ls' := [(5, .int (I 436 10)), (4, .int (I 436 9)), (3, .int (I 436 8)), (2, .int (I 436 7)), (0, .ref 436), (1, .int v1)]) (pc' := 125) 73 rfl rfl (by decide) rfl ?_
    refine v_aload_n (pc' := 126) 74 4 rfl rfl rfl rfl ?_
    refine v_getI (pc' := 129) 75 rfl rfl pf_X9_83 ly_436 (lay_lt ly_436 (by decide)) ?_
    refine v_istore (ls' := [(6, .int (I 436 11)), (5, .int (I 436 10)), (4, .int (I 436 9)), (3, .int (I 436 8)), (2, .int (I 436 7)), (0, .ref 436), (1, .int v1)]) (pc' := 131) 76 rfl rfl (by decide) rfl ?_
    refine v_aload_n (pc' := 132) 77 5 rfl rfl rfl rfl ?_
    refine v_iload_n (pc' := 133) 78 6 rfl rfl rfl rfl ?_
    refine v_cV (Y2 := Y_X9_starts) (As := [.int v1]) (b := 436) (pc' := 136) (c1 := 0) (s1 := 0) 79 rfl rfl mf_X9_starts rfl rfl ml_X9_284 mi_X9_starts se_X9_starts (ci := 8) rfl ly_436 (lay_lt ly_436 (by decide)) rfl (Nat.le_of_ble_eq_true rfl) ⟨Nat.le_of_ble_eq_true rfl, Nat.le_of_ble_eq_true rfl⟩ rfl rfl (ok_X9_starts v1 I L h) ?_ ?_
    · intro e9 u9 hx9
      exact hx9.elim
    intro v9 u9 hv9
    obtain ⟨I2265, L2266, rfl, rfl, h⟩ := hv9
    refine ⟨fun q => absurd q (Nat.lt_irrefl _), ?_⟩
    show V G Y_X9_load 136 _ _ _ _ _ _ _
    refine v_aload_n (pc' := 137) 80 5 rfl rfl rfl rfl ?_
    refine v_cV (Y2 := Y_X9_reads0) (As := []) (b := 436) (pc' := 140) (c1 := 0) (s1 := 0) 81 rfl rfl mf_X9_reads0 rfl rfl ml_X9_287 mi_X9_reads0 se_X9_reads0 (ci := 8) rfl ly_436 (lay_lt ly_436 (by decide)) rfl (Nat.le_of_ble_eq_true rfl) ⟨Nat.le_of_ble_eq_true rfl, Nat.le_of_ble_eq_true rfl⟩ rfl rfl (ok_X9_reads0 I2265 L2266 h) ?_ ?_
    · intro e9 u9 hx9
      exact hx9.elim
    intro v9 u9 hv9
    obtain ⟨I2267, L2268, rfl, rfl, h⟩ := hv9
    refine ⟨fun q => absurd q (Nat.lt_irrefl _), ?_⟩
    show V G Y_X9_load 140 _ _ _ _ _ _ _
    refine v_aload_n (pc' := 141) 82 5 rfl rfl rfl rfl ?_
    refine v_cV (Y2 := Y_X9_isGood) (As := []) (b := 436) (pc' := 144) (c1 := 0) (s1 := 0) 83 rfl rfl mf_X9_isGood rfl rfl ml_X9_218 mi_X9_isGood se_X9_isGood (ci := 8) rfl ly_436 (lay_lt ly_436 (by decide)) rfl (Nat.le_of_ble_eq_true rfl) ⟨Nat.le_of_ble_eq_true rfl, Nat.le_of_ble_eq_true rfl⟩ rfl rfl (ok_X9_isGood I2267 L2268 h) ?_ ?_
    · intro e9 u9 hx9
      exact hx9.elim
    intro v9 u9 hv9
    obtain ⟨r2269, rfl, rfl, h⟩ := hv9
    refine ⟨fun q => absurd q (Nat.lt_irrefl _), ?_⟩
    show V G Y_X9_load 144 _ (.int r2269 :: _) _ _ _ _ _
    refine v_if_eq (tgt := 162) (pc' := 147) 84 rfl rfl (by decide) (fun hc => ?_) (fun hc => ?_)
    · replace h := h.1 hc
      refine v_iconst (v := 0) (pc' := 163) 94 rfl rfl (by decide) ?_
      refine v_istore (ls' := [(7, .int 0), (6, .int (I 436 11)), (5, .int (I 436 10)), (4, .int (I 436 9)), (3, .int (I 436 8)), (2, .int (I 436 7)), (0, .ref 436), (1, .int v1)]) (pc' := 165) 95 rfl rfl (by decide) rfl ?_
      refine V.sub [6, 5, 4, 3, 2, 1, 0] rfl ?_
      obtain ⟨n2270, h⟩ := h
      exact l_X9_load_165 (I 436 7) (I 436 8) (I 436 9) (I 436 10) (I 436 11) I2267 Q n2270 (0 : Int32) L2268 h
    replace h := h.2 hc
    refine v_aload_n (pc' := 148) 85 5 rfl rfl rfl rfl ?_
    refine v_iconst (v := 0) (pc' := 149) 86 rfl rfl (by decide) ?_
    refine v_putI (pc' := 152) 87 rfl rfl pf_X9_290 (fun q => absurd q (by decide)) ly_436 (lay_lt ly_436 (by decide)) ?_
    refine v_aload_n (pc' := 153) 88 5 rfl rfl rfl rfl ?_
    refine v_iconst (v := 0) (pc' := 154) 89 rfl rfl (by decide) ?_
    refine v_putZ (pc' := 157) 90 rfl rfl pf_X9_293 (fun q => absurd q (by decide)) ly_436 (lay_lt ly_436 (by decide)) (by decide) ?_
    refine v_aload_n (pc' := 158) 91 5 rfl rfl rfl rfl ?_
    refine v_cV (Y2 := Y_X9_nets) (As := []) (b := 436) (pc' := 161) (c1 := 0) (s1 := 0) 92 rfl rfl mf_X9_nets rfl rfl ml_X9_95 mi_X9_nets se_X9_nets (ci := 8) rfl ly_436 (lay_lt ly_436 (by decide)) rfl (Nat.le_of_ble_eq_true rfl) ⟨Nat.le_of_ble_eq_true rfl, Nat.le_of_ble_eq_true rfl⟩ rfl rfl (ok_X9_nets (up2 (up2 I2267 436 6 0) 436 5 0) L2268 h) ?_ ?_
    · intro e9 u9 hx9
      exact hx9.elim
    intro v9 u9 hv9
    obtain ⟨r2271, rfl, rfl, h⟩ := hv9
    refine ⟨fun q => absurd q (Nat.lt_irrefl _), ?_⟩
    show V G Y_X9_load 161 _ (.int r2271 :: _) _ _ _ _ _
    exact v_iret 93 rfl rfl (by decide) (by decide) ⟨_, _, _, rfl, rfl, h⟩
  replace h := h.2 hc
  refine v_aload_n (pc' := 62) 36 0 rfl rfl rfl rfl ?_
  refine v_getR (t := 448) (pc' := 65) 37 rfl rfl pf_X9_48 ly_436 (lay_lt ly_436 (by decide)) rt_436_31 ?_
  refine v_iload_n (pc' := 66) 38 2 rfl rfl rfl rfl ?_
  refine v_aload_n (pc' := 67) 39 0 rfl rfl rfl rfl ?_
  refine v_getR (t := 441) (pc' := 70) 40 rfl rfl pf_X9_22 ly_436 (lay_lt ly_436 (by decide)) rt_436_12 ?_
  refine v_iload_n (pc' := 71) 41 2 rfl rfl rfl rfl ?_
  obtain ⟨hi2272, h⟩ := h
  refine v_iald (i := v2) (j := v2.toNatClampNeg) (pc' := 72) 42 rfl rfl ly_441 ln_441 (lay_lt ly_441 (by decide)) hi2272 rfl ?_
  obtain ⟨hi2273, h⟩ := h
  refine v_iast (i := v2) (j := v2.toNatClampNeg) (pc' := 73) 43 rfl rfl ly_448 ln_448 (lay_lt ly_448 (by decide)) hi2273 rfl ?_
  refine v_aload_n (pc' := 74) 44 0 rfl rfl rfl rfl ?_
  refine v_getR (t := 449) (pc' := 77) 45 rfl rfl pf_X9_51 ly_436 (lay_lt ly_436 (by decide)) rt_436_32 ?_
  refine v_iload_n (pc' := 78) 46 2 rfl rfl rfl rfl ?_
  refine v_aload_n (pc' := 79) 47 0 rfl rfl rfl rfl ?_
  refine v_getR (t := 442) (pc' := 82) 48 rfl rfl pf_X9_26 ly_436 (lay_lt ly_436 (by decide)) rt_436_13 ?_
  refine v_iload_n (pc' := 83) 49 2 rfl rfl rfl rfl ?_
  obtain ⟨hi2274, h⟩ := h
  refine v_iald (i := v2) (j := v2.toNatClampNeg) (pc' := 84) 50 rfl rfl ly_442 ln_442 (lay_lt ly_442 (by decide)) hi2274 rfl ?_
  obtain ⟨hi2275, h⟩ := h
  refine v_iast (i := v2) (j := v2.toNatClampNeg) (pc' := 85) 51 rfl rfl ly_449 ln_449 (lay_lt ly_449 (by decide)) hi2275 rfl ?_
  refine nm_M (e := (up2 (up2 I 448 (v2.toNatClampNeg) (I 441 (v2.toNatClampNeg))) 449 (v2.toNatClampNeg) ((up2 I 448 (v2.toNatClampNeg) (I 441 (v2.toNatClampNeg))) 442 (v2.toNatClampNeg)))) (fun I2276 hI2276 => ?_)
  replace h := h I2276 hI2276
  refine v_aload_n (pc' := 86) 52 0 rfl rfl rfl rfl ?_
  refine v_getR (t := 450) (pc' := 89) 53 rfl rfl pf_X9_54 ly_436 (lay_lt ly_436 (by decide)) rt_436_33 ?_
  refine v_iload_n (pc' := 90) 54 2 rfl rfl rfl rfl ?_
  refine v_aload_n (pc' := 91) 55 0 rfl rfl rfl rfl ?_
  refine v_getR (t := 443) (pc' := 94) 56 rfl rfl pf_X9_29 ly_436 (lay_lt ly_436 (by decide)) rt_436_14 ?_
  refine v_iload_n (pc' := 95) 57 2 rfl rfl rfl rfl ?_
  obtain ⟨hi2277, h⟩ := h
  refine v_iald (i := v2) (j := v2.toNatClampNeg) (pc' := 96) 58 rfl rfl ly_443 ln_443 (lay_lt ly_443 (by decide)) hi2277 rfl ?_
  obtain ⟨hi2278, h⟩ := h
  refine v_iast (i := v2) (j := v2.toNatClampNeg) (pc' := 97) 59 rfl rfl ly_450 ln_450 (lay_lt ly_450 (by decide)) hi2278 rfl ?_
  refine nm_M (e := (up2 I2276 450 (v2.toNatClampNeg) (I2276 443 (v2.toNatClampNeg)))) (fun I2279 hI2279 => ?_)
  replace h := h I2279 hI2279
  refine v_iinc (v := (v2 + 1)) (ls' := [(2, .int (v2 + 1)), (0, .ref 436), (1, .int v1)]) (pc' := 100) 60 2 rfl rfl rfl rfl (by decide) rfl ?_
  refine v_goto (tgt := 55) 61 rfl (by decide) ?_
  refine V.sub [1, 2, 0] rfl ?_
  exact hR55 (v2 + 1) I2279 h
theorem l_X9_load_55 {G : GT} {b d t : Nat} (v1 : Int32) (L : TL)  (Q : Int32 → TI → TL → Prop)  : ∀ (n9 : Nat) (v2 : Int32) (I : TI), L_X9_load_55 v1 L Q n9 v2 I → V G Y_X9_load 55 [(0, .ref 436), (1, .int v1), (2, .int v2)] [] (I, L, RT b d t, 457) 0 0 (fun v9 u9 => ∃ (r9 : Int32) (I9 : TI) (L9 : TL), v9 = some (.int r9) ∧ u9 = (I9, L9, RT b d t, 457) ∧ Q r9 I9 L9) (fun _ _ => False)
  | 0, _, _, h => h.elim
  | n9 + 1, v2, I, h => d_X9_load_55 v1 L Q _ (l_X9_load_55 v1 L Q n9) v2 I h
set_option maxHeartbeats 4000000 in
set_option maxRecDepth 100000 in
theorem d_X9_load_28 {G : GT} {b d t : Nat} (v1 : Int32) (I : TI)  (Q : Int32 → TI → TL → Prop) (R28 : Int32 → TL → Prop)  (hR28 : ∀ (v2 : Int32) (L : TL), R28 v2 L → V G Y_X9_load 28 [(0, .ref 436), (1, .int v1), (2, .int v2)] [] (I, L, RT b d t, 457) 0 0 (fun v9 u9 => ∃ (r9 : Int32) (I9 : TI) (L9 : TL), v9 = some (.int r9) ∧ u9 = (I9, L9, RT b d t, 457) ∧ Q r9 I9 L9) (fun _ _ => False)) (v2 : Int32) (L : TL)  (h : D_X9_load_28 v1 I Q R28 v2 L) : V G Y_X9_load 28 [(0, .ref 436), (1, .int v1), (2, .int v2)] [] (I, L, RT b d t, 457) 0 0 (fun v9 u9 => ∃ (r9 : Int32) (I9 : TI) (L9 : TL), v9 = some (.int r9) ∧ u9 = (I9, L9, RT b d t, 457) ∧ Q r9 I9 L9) (fun _ _ => False) := by
  unfold D_X9_load_28 at h
  refine v_iload_n (pc' := 29) 18 2 rfl rfl rfl rfl ?_
  refine v_sipush (v := 241) (pc' := 32) 19 rfl rfl (by decide) ?_
  refine v_icmp_ge (tgt := 53) (pc' := 35) 20 rfl rfl (by decide) (fun hc => ?_) (fun hc => ?_)
  · replace h := h.1 hc
    refine v_iconst (v := 0) (pc' := 54) 31 rfl rfl (by decide) ?_
    refine v_istore_n (ls' := [(2, .int 0), (0, .ref 436), (1, .int v1)]) (pc' := 55) 32 rfl rfl rfl (by decide) rfl ?_
    refine V.sub [1, 2, 0] rfl ?_
    obtain ⟨n2280, h⟩ := h
    exact l_X9_load_55 v1 L Q n2280 (0 : Int32) I h
  replace h := h.2 hc
  refine v_aload_n (pc' := 36) 21 0 rfl rfl rfl rfl ?_
  refine v_getR (t := 438) (pc' := 39) 22 rfl rfl pf_X9_13 ly_436 (lay_lt ly_436 (by decide)) rt_436_2 ?_
  refine v_iload_n (pc' := 40) 23 2 rfl rfl rfl rfl ?_
  refine v_aload_n (pc' := 41) 24 0 rfl rfl rfl rfl ?_
  refine v_getR (t := 437) (pc' := 44) 25 rfl rfl pf_X9_7 ly_436 (lay_lt ly_436 (by decide)) rt_436_1 ?_
  refine v_iload_n (pc' := 45) 26 2 rfl rfl rfl rfl ?_
  obtain ⟨hi2281, h⟩ := h
  refine v_lald (i := v2) (j := v2.toNatClampNeg) (pc' := 46) 27 rfl rfl ly_437 ln_437 (lay_lt ly_437 (by decide)) hi2281 rfl ?_
  obtain ⟨hi2282, h⟩ := h
  refine v_last (i := v2) (j := v2.toNatClampNeg) (pc' := 47) 28 rfl rfl ly_438 ln_438 (lay_lt ly_438 (by decide)) hi2282 rfl ?_
  refine v_iinc (v := (v2 + 1)) (ls' := [(2, .int (v2 + 1)), (0, .ref 436), (1, .int v1)]) (pc' := 50) 29 2 rfl rfl rfl rfl (by decide) rfl ?_
  refine v_goto (tgt := 28) 30 rfl (by decide) ?_
  refine V.sub [1, 2, 0] rfl ?_
  exact hR28 (v2 + 1) (up2 L 438 (v2.toNatClampNeg) (L 437 (v2.toNatClampNeg))) h
theorem l_X9_load_28 {G : GT} {b d t : Nat} (v1 : Int32) (I : TI)  (Q : Int32 → TI → TL → Prop)  : ∀ (n9 : Nat) (v2 : Int32) (L : TL), L_X9_load_28 v1 I Q n9 v2 L → V G Y_X9_load 28 [(0, .ref 436), (1, .int v1), (2, .int v2)] [] (I, L, RT b d t, 457) 0 0 (fun v9 u9 => ∃ (r9 : Int32) (I9 : TI) (L9 : TL), v9 = some (.int r9) ∧ u9 = (I9, L9, RT b d t, 457) ∧ Q r9 I9 L9) (fun _ _ => False)
  | 0, _, _, h => h.elim
  | n9 + 1, v2, L, h => d_X9_load_28 v1 I Q _ (l_X9_load_28 v1 I Q n9) v2 L h
set_option maxHeartbeats 4000000 in
set_option maxRecDepth 100000 in
theorem ok_X9_load {G : GT} {b d t : Nat} (p1 : Int32) (I : TI) (L : TL)  {Q : Int32 → TI → TL → Prop} (h : W_X9_load p1 I L Q) : MW G Y_X9_load [.ref 436, .int p1] (I, L, RT b d t, 457) (fun v9 u9 => ∃ (r9 : Int32) (I9 : TI) (L9 : TL), v9 = some (.int r9) ∧ u9 = (I9, L9, RT b d t, 457) ∧ Q r9 I9 L9) (fun _ _ => False) := by
  unfold W_X9_load at h
  refine MW.intro rfl (by decide) is_X9_load (Nat.le_of_ble_eq_true rfl) ?_
  show V G Y_X9_load 0 [(0, .ref 436), (1, .int p1)] [] (I, L, RT b d t, 457) 0 0 _ _
  refine v_aload_n (pc' := 1) 0 0 rfl rfl rfl rfl ?_
  refine v_iconst (v := 0) (pc' := 2) 1 rfl rfl (by decide) ?_
  refine v_putI (pc' := 5) 2 rfl rfl pf_X9_80 (fun q => absurd q (by decide)) ly_436 (lay_lt ly_436 (by decide)) ?_
  refine v_aload_n (pc' := 6) 3 0 rfl rfl rfl rfl ?_
  refine v_iload_n (pc' := 7) 4 1 rfl rfl rfl rfl ?_
  refine v_i2l (pc' := 8) 5 rfl rfl ?_
  refine v_lconst (v := 0) (pc' := 9) 6 rfl rfl (by decide) ?_
  refine v_aload_n (pc' := 10) 7 0 rfl rfl rfl rfl ?_
  refine v_getI (pc' := 13) 8 rfl rfl pf_X9_164 ly_436 (lay_lt ly_436 (by decide)) ?_
  refine v_i2l (pc' := 14) 9 rfl rfl ?_
  refine v_cS (Y2 := Y_X9_in) (As := [.long (p1.toInt64), .long 0, .long (((up2 I 436 0 0) 436 22).toInt64)]) (pc' := 17) (c1 := 0) (s1 := 0) 10 rfl rfl mf_X9_in rfl rfl ml_X9_232 ms_X9_in rfl (Nat.le_of_ble_eq_true rfl) ⟨Nat.le_of_ble_eq_true rfl, Nat.le_of_ble_eq_true rfl⟩ rfl rfl (ok_X9_in (p1.toInt64) (0 : Int64) (((up2 I 436 0 0) 436 22).toInt64) (up2 I 436 0 0) L h) ?_ ?_
  · intro e9 u9 hx9
    exact hx9.elim
  intro v9 u9 hv9
  obtain ⟨r2283, rfl, rfl, h⟩ := hv9
  refine ⟨fun q => absurd q (Nat.lt_irrefl _), ?_⟩
  show V G Y_X9_load 17 _ (.int r2283 :: _) _ _ _ _ _
  refine v_iconst (v := 1) (pc' := 18) 11 rfl rfl (by decide) ?_
  refine v_cV (Y2 := Y_X9_fails) (As := [.int r2283, .int 1]) (b := 436) (pc' := 21) (c1 := 0) (s1 := 0) 12 rfl rfl mf_X9_fails rfl rfl ml_X9_280 mi_X9_fails se_X9_fails (ci := 8) rfl ly_436 (lay_lt ly_436 (by decide)) rfl (Nat.le_of_ble_eq_true rfl) ⟨Nat.le_of_ble_eq_true rfl, Nat.le_of_ble_eq_true rfl⟩ rfl rfl (ok_X9_fails r2283 (1 : Int32) (up2 I 436 0 0) L h) ?_ ?_
  · intro e9 u9 hx9
    exact hx9.elim
  intro v9 u9 hv9
  obtain ⟨r2284, I2285, rfl, rfl, h⟩ := hv9
  refine ⟨fun q => absurd q (Nat.lt_irrefl _), ?_⟩
  show V G Y_X9_load 21 _ (.int r2284 :: _) _ _ _ _ _
  refine v_if_eq (tgt := 26) (pc' := 24) 13 rfl rfl (by decide) (fun hc => ?_) (fun hc => ?_)
  · replace h := h.1 hc
    refine v_iconst (v := 0) (pc' := 27) 16 rfl rfl (by decide) ?_
    refine v_istore_n (ls' := [(2, .int 0), (0, .ref 436), (1, .int p1)]) (pc' := 28) 17 rfl rfl rfl (by decide) rfl ?_
    refine V.sub [1, 2, 0] rfl ?_
    obtain ⟨n2286, h⟩ := h
    exact l_X9_load_28 p1 I2285 Q n2286 (0 : Int32) L h
  replace h := h.2 hc
  refine v_iconst (v := 0) (pc' := 25) 14 rfl rfl (by decide) ?_
  exact v_iret 15 rfl rfl (by decide) (by decide) ⟨_, _, _, rfl, rfl, h⟩
set_option maxHeartbeats 4000000 in
set_option maxRecDepth 100000 in
theorem ok_X9_noNet {G : GT} {b d t : Nat} (p1 : Int32) (I : TI) (L : TL)  {Q : Int32 → TI → Prop} (h : W_X9_noNet p1 I L Q) : MW G Y_X9_noNet [.ref 436, .int p1] (I, L, RT b d t, 457) (fun v9 u9 => ∃ (r9 : Int32) (I9 : TI), v9 = some (.int r9) ∧ u9 = (I9, L, RT b d t, 457) ∧ Q r9 I9) (fun _ _ => False) := by
  unfold W_X9_noNet at h
  refine MW.intro rfl (by decide) is_X9_noNet (Nat.le_of_ble_eq_true rfl) ?_
  show V G Y_X9_noNet 0 [(0, .ref 436), (1, .int p1)] [] (I, L, RT b d t, 457) 0 0 _ _
  refine v_aload_n (pc' := 1) 0 0 rfl rfl rfl rfl ?_
  refine v_iconst (v := 0) (pc' := 2) 1 rfl rfl (by decide) ?_
  refine v_putI (pc' := 5) 2 rfl rfl pf_X9_80 (fun q => absurd q (by decide)) ly_436 (lay_lt ly_436 (by decide)) ?_
  refine v_aload_n (pc' := 6) 3 0 rfl rfl rfl rfl ?_
  refine v_iload_n (pc' := 7) 4 1 rfl rfl rfl rfl ?_
  refine v_i2l (pc' := 8) 5 rfl rfl ?_
  refine v_lconst (v := 0) (pc' := 9) 6 rfl rfl (by decide) ?_
  refine v_aload_n (pc' := 10) 7 0 rfl rfl rfl rfl ?_
  refine v_cV (Y2 := Y_X9_nets) (As := []) (b := 436) (pc' := 13) (c1 := 0) (s1 := 0) 8 rfl rfl mf_X9_nets rfl rfl ml_X9_95 mi_X9_nets se_X9_nets (ci := 8) rfl ly_436 (lay_lt ly_436 (by decide)) rfl (Nat.le_of_ble_eq_true rfl) ⟨Nat.le_of_ble_eq_true rfl, Nat.le_of_ble_eq_true rfl⟩ rfl rfl (ok_X9_nets (up2 I 436 0 0) L h) ?_ ?_
  · intro e9 u9 hx9
    exact hx9.elim
  intro v9 u9 hv9
  obtain ⟨r2292, rfl, rfl, h⟩ := hv9
  refine ⟨fun q => absurd q (Nat.lt_irrefl _), ?_⟩
  show V G Y_X9_noNet 13 _ (.int r2292 :: _) _ _ _ _ _
  refine v_iconst (v := 1) (pc' := 14) 9 rfl rfl (by decide) ?_
  refine v_isub (pc' := 15) 10 rfl rfl ?_
  refine v_i2l (pc' := 16) 11 rfl rfl ?_
  refine v_cS (Y2 := Y_X9_in) (As := [.long (p1.toInt64), .long 0, .long ((r2292 - 1).toInt64)]) (pc' := 19) (c1 := 0) (s1 := 0) 12 rfl rfl mf_X9_in rfl rfl ml_X9_232 ms_X9_in rfl (Nat.le_of_ble_eq_true rfl) ⟨Nat.le_of_ble_eq_true rfl, Nat.le_of_ble_eq_true rfl⟩ rfl rfl (ok_X9_in (p1.toInt64) (0 : Int64) ((r2292 - 1).toInt64) (up2 I 436 0 0) L h) ?_ ?_
  · intro e9 u9 hx9
    exact hx9.elim
  intro v9 u9 hv9
  obtain ⟨r2293, rfl, rfl, h⟩ := hv9
  refine ⟨fun q => absurd q (Nat.lt_irrefl _), ?_⟩
  show V G Y_X9_noNet 19 _ (.int r2293 :: _) _ _ _ _ _
  refine v_iconst (v := 1) (pc' := 20) 13 rfl rfl (by decide) ?_
  refine v_cV (Y2 := Y_X9_fails) (As := [.int r2293, .int 1]) (b := 436) (pc' := 23) (c1 := 0) (s1 := 0) 14 rfl rfl mf_X9_fails rfl rfl ml_X9_280 mi_X9_fails se_X9_fails (ci := 8) rfl ly_436 (lay_lt ly_436 (by decide)) rfl (Nat.le_of_ble_eq_true rfl) ⟨Nat.le_of_ble_eq_true rfl, Nat.le_of_ble_eq_true rfl⟩ rfl rfl (ok_X9_fails r2293 (1 : Int32) (up2 I 436 0 0) L h) ?_ ?_
  · intro e9 u9 hx9
    exact hx9.elim
  intro v9 u9 hv9
  obtain ⟨r2294, I2295, rfl, rfl, h⟩ := hv9
  refine ⟨fun q => absurd q (Nat.lt_irrefl _), ?_⟩
  show V G Y_X9_noNet 23 _ (.int r2294 :: _) _ _ _ _ _
  obtain ⟨hz2296, h⟩ := h
  exact v_bret 15 rfl rfl hz2296 (by decide) (by decide) ⟨_, _, rfl, rfl, h⟩
set_option maxHeartbeats 4000000 in
set_option maxRecDepth 100000 in
theorem ok_X9_noGate {G : GT} {b d t : Nat} (p1 : Int32) (I : TI) (L : TL)  {Q : Int32 → TI → Prop} (h : W_X9_noGate p1 I L Q) : MW G Y_X9_noGate [.ref 436, .int p1] (I, L, RT b d t, 457) (fun v9 u9 => ∃ (r9 : Int32) (I9 : TI), v9 = some (.int r9) ∧ u9 = (I9, L, RT b d t, 457) ∧ Q r9 I9) (fun _ _ => False) := by
  unfold W_X9_noGate at h
  refine MW.intro rfl (by decide) is_X9_noGate (Nat.le_of_ble_eq_true rfl) ?_
  show V G Y_X9_noGate 0 [(0, .ref 436), (1, .int p1)] [] (I, L, RT b d t, 457) 0 0 _ _
  refine v_aload_n (pc' := 1) 0 0 rfl rfl rfl rfl ?_
  refine v_iconst (v := 0) (pc' := 2) 1 rfl rfl (by decide) ?_
  refine v_putI (pc' := 5) 2 rfl rfl pf_X9_80 (fun q => absurd q (by decide)) ly_436 (lay_lt ly_436 (by decide)) ?_
  refine v_aload_n (pc' := 6) 3 0 rfl rfl rfl rfl ?_
  refine v_iload_n (pc' := 7) 4 1 rfl rfl rfl rfl ?_
  refine v_i2l (pc' := 8) 5 rfl rfl ?_
  refine v_aload_n (pc' := 9) 6 0 rfl rfl rfl rfl ?_
  refine v_getI (pc' := 12) 7 rfl rfl pf_X9_77 ly_436 (lay_lt ly_436 (by decide)) ?_
  refine v_i2l (pc' := 13) 8 rfl rfl ?_
  refine v_aload_n (pc' := 14) 9 0 rfl rfl rfl rfl ?_
  refine v_cV (Y2 := Y_X9_nets) (As := []) (b := 436) (pc' := 17) (c1 := 0) (s1 := 0) 10 rfl rfl mf_X9_nets rfl rfl ml_X9_95 mi_X9_nets se_X9_nets (ci := 8) rfl ly_436 (lay_lt ly_436 (by decide)) rfl (Nat.le_of_ble_eq_true rfl) ⟨Nat.le_of_ble_eq_true rfl, Nat.le_of_ble_eq_true rfl⟩ rfl rfl (ok_X9_nets (up2 I 436 0 0) L h) ?_ ?_
  · intro e9 u9 hx9
    exact hx9.elim
  intro v9 u9 hv9
  obtain ⟨r2302, rfl, rfl, h⟩ := hv9
  refine ⟨fun q => absurd q (Nat.lt_irrefl _), ?_⟩
  show V G Y_X9_noGate 17 _ (.int r2302 :: _) _ _ _ _ _
  refine v_iconst (v := 1) (pc' := 18) 11 rfl rfl (by decide) ?_
  refine v_isub (pc' := 19) 12 rfl rfl ?_
  refine v_i2l (pc' := 20) 13 rfl rfl ?_
  refine v_cS (Y2 := Y_X9_in) (As := [.long (p1.toInt64), .long (((up2 I 436 0 0) 436 10).toInt64), .long ((r2302 - 1).toInt64)]) (pc' := 23) (c1 := 0) (s1 := 0) 14 rfl rfl mf_X9_in rfl rfl ml_X9_232 ms_X9_in rfl (Nat.le_of_ble_eq_true rfl) ⟨Nat.le_of_ble_eq_true rfl, Nat.le_of_ble_eq_true rfl⟩ rfl rfl (ok_X9_in (p1.toInt64) (((up2 I 436 0 0) 436 10).toInt64) ((r2302 - 1).toInt64) (up2 I 436 0 0) L h) ?_ ?_
  · intro e9 u9 hx9
    exact hx9.elim
  intro v9 u9 hv9
  obtain ⟨r2303, rfl, rfl, h⟩ := hv9
  refine ⟨fun q => absurd q (Nat.lt_irrefl _), ?_⟩
  show V G Y_X9_noGate 23 _ (.int r2303 :: _) _ _ _ _ _
  refine v_iconst (v := 1) (pc' := 24) 15 rfl rfl (by decide) ?_
  refine v_cV (Y2 := Y_X9_fails) (As := [.int r2303, .int 1]) (b := 436) (pc' := 27) (c1 := 0) (s1 := 0) 16 rfl rfl mf_X9_fails rfl rfl ml_X9_280 mi_X9_fails se_X9_fails (ci := 8) rfl ly_436 (lay_lt ly_436 (by decide)) rfl (Nat.le_of_ble_eq_true rfl) ⟨Nat.le_of_ble_eq_true rfl, Nat.le_of_ble_eq_true rfl⟩ rfl rfl (ok_X9_fails r2303 (1 : Int32) (up2 I 436 0 0) L h) ?_ ?_
  · intro e9 u9 hx9
    exact hx9.elim
  intro v9 u9 hv9
  obtain ⟨r2304, I2305, rfl, rfl, h⟩ := hv9
  refine ⟨fun q => absurd q (Nat.lt_irrefl _), ?_⟩
  show V G Y_X9_noGate 27 _ (.int r2304 :: _) _ _ _ _ _
  obtain ⟨hz2306, h⟩ := h
  exact v_bret 17 rfl rfl hz2306 (by decide) (by decide) ⟨_, _, rfl, rfl, h⟩
set_option maxHeartbeats 4000000 in
set_option maxRecDepth 100000 in
theorem ok_X9_noWave {G : GT} {b d t : Nat} (p1 : Int32) (p2 : Int32) (I : TI) (L : TL)  {Q : Int32 → TI → TL → Prop} (h : W_X9_noWave p1 p2 I L Q) : MW G Y_X9_noWave [.ref 436, .int p1, .int p2] (I, L, RT b d t, 457) (fun v9 u9 => ∃ (r9 : Int32) (I9 : TI) (L9 : TL), v9 = some (.int r9) ∧ u9 = (I9, L9, RT b d t, 457) ∧ Q r9 I9 L9) (fun _ _ => False) := by
  unfold W_X9_noWave at h
  refine MW.intro rfl (by decide) is_X9_noWave (Nat.le_of_ble_eq_true rfl) ?_
  show V G Y_X9_noWave 0 [(0, .ref 436), (1, .int p1), (2, .int p2)] [] (I, L, RT b d t, 457) 0 0 _ _
  refine v_aload_n (pc' := 1) 0 0 rfl rfl rfl rfl ?_
  refine v_iload_n (pc' := 2) 1 1 rfl rfl rfl rfl ?_
  refine v_cV (Y2 := Y_X9_noNet) (As := [.int p1]) (b := 436) (pc' := 5) (c1 := 0) (s1 := 0) 2 rfl rfl mf_X9_noNet rfl rfl ml_X9_297 mi_X9_noNet se_X9_noNet (ci := 8) rfl ly_436 (lay_lt ly_436 (by decide)) rfl (Nat.le_of_ble_eq_true rfl) ⟨Nat.le_of_ble_eq_true rfl, Nat.le_of_ble_eq_true rfl⟩ rfl rfl (ok_X9_noNet p1 I L h) ?_ ?_
  · intro e9 u9 hx9
    exact hx9.elim
  intro v9 u9 hv9
  obtain ⟨r2313, I2314, rfl, rfl, h⟩ := hv9
  refine ⟨fun q => absurd q (Nat.lt_irrefl _), ?_⟩
  show V G Y_X9_noWave 5 _ (.int r2313 :: _) _ _ _ _ _
  refine v_if_ne (tgt := 25) (pc' := 8) 3 rfl rfl (by decide) (fun hc => ?_) (fun hc => ?_)
  · replace h := h.1 hc
    refine v_iconst (v := 1) (pc' := 26) 13 rfl rfl (by decide) ?_
    exact v_bret 14 rfl rfl (by decide) (by decide) (by decide) ⟨_, _, _, rfl, rfl, h⟩
  replace h := h.2 hc
  refine v_aload_n (pc' := 9) 4 0 rfl rfl rfl rfl ?_
  refine v_iload_n (pc' := 10) 5 2 rfl rfl rfl rfl ?_
  refine v_i2l (pc' := 11) 6 rfl rfl ?_
  refine v_lconst (v := 0) (pc' := 12) 7 rfl rfl (by decide) ?_
  refine v_ldc2 (v := 2) (pc' := 15) 8 rfl rfl kl_X9_300 ?_
  refine v_cS (Y2 := Y_X9_in) (As := [.long (p2.toInt64), .long 0, .long 2]) (pc' := 18) (c1 := 0) (s1 := 0) 9 rfl rfl mf_X9_in rfl rfl ml_X9_232 ms_X9_in rfl (Nat.le_of_ble_eq_true rfl) ⟨Nat.le_of_ble_eq_true rfl, Nat.le_of_ble_eq_true rfl⟩ rfl rfl (ok_X9_in (p2.toInt64) (0 : Int64) (2 : Int64) I2314 L h) ?_ ?_
  · intro e9 u9 hx9
    exact hx9.elim
  intro v9 u9 hv9
  obtain ⟨r2315, rfl, rfl, h⟩ := hv9
  refine ⟨fun q => absurd q (Nat.lt_irrefl _), ?_⟩
  show V G Y_X9_noWave 18 _ (.int r2315 :: _) _ _ _ _ _
  refine v_iconst (v := 1) (pc' := 19) 10 rfl rfl (by decide) ?_
  refine v_cV (Y2 := Y_X9_fails) (As := [.int r2315, .int 1]) (b := 436) (pc' := 22) (c1 := 0) (s1 := 0) 11 rfl rfl mf_X9_fails rfl rfl ml_X9_280 mi_X9_fails se_X9_fails (ci := 8) rfl ly_436 (lay_lt ly_436 (by decide)) rfl (Nat.le_of_ble_eq_true rfl) ⟨Nat.le_of_ble_eq_true rfl, Nat.le_of_ble_eq_true rfl⟩ rfl rfl (ok_X9_fails r2315 (1 : Int32) I2314 L h) ?_ ?_
  · intro e9 u9 hx9
    exact hx9.elim
  intro v9 u9 hv9
  obtain ⟨r2316, I2317, rfl, rfl, h⟩ := hv9
  refine ⟨fun q => absurd q (Nat.lt_irrefl _), ?_⟩
  show V G Y_X9_noWave 22 _ (.int r2316 :: _) _ _ _ _ _
  refine v_if_eq (tgt := 27) (pc' := 25) 12 rfl rfl (by decide) (fun hc => ?_) (fun hc => ?_)
  · replace h := h.1 hc
    refine v_aload_n (pc' := 28) 15 0 rfl rfl rfl rfl ?_
    refine v_cV (Y2 := Y_X9_waves) (As := []) (b := 436) (pc' := 31) (c1 := 0) (s1 := 0) 16 rfl rfl mf_X9_waves rfl rfl ml_X9_302 mi_X9_waves se_X9_waves (ci := 8) rfl ly_436 (lay_lt ly_436 (by decide)) rfl (Nat.le_of_ble_eq_true rfl) ⟨Nat.le_of_ble_eq_true rfl, Nat.le_of_ble_eq_true rfl⟩ rfl rfl (ok_X9_waves I2317 L h) ?_ ?_
    · intro e9 u9 hx9
      exact hx9.elim
    intro v9 u9 hv9
    obtain ⟨L2318, rfl, rfl, h⟩ := hv9
    refine ⟨fun q => absurd q (Nat.lt_irrefl _), ?_⟩
    show V G Y_X9_noWave 31 _ _ _ _ _ _ _
    refine v_iconst (v := 0) (pc' := 32) 17 rfl rfl (by decide) ?_
    exact v_bret 18 rfl rfl (by decide) (by decide) (by decide) ⟨_, _, _, rfl, rfl, h⟩
  replace h := h.2 hc
  refine v_iconst (v := 1) (pc' := 26) 13 rfl rfl (by decide) ?_
  exact v_bret 14 rfl rfl (by decide) (by decide) (by decide) ⟨_, _, _, rfl, rfl, h⟩
set_option maxHeartbeats 4000000 in
set_option maxRecDepth 100000 in
theorem ok_X9_size {G : GT} {b d t : Nat} (p1 : Int32) (I : TI) (L : TL)  {Q : Int32 → TI → Prop} (h : W_X9_size p1 I L Q) : MW G Y_X9_size [.ref 436, .int p1] (I, L, RT b d t, 457) (fun v9 u9 => ∃ (r9 : Int32) (I9 : TI), v9 = some (.int r9) ∧ u9 = (I9, L, RT b d t, 457) ∧ Q r9 I9) (fun _ _ => False) := by
  unfold W_X9_size at h
  refine MW.intro rfl (by decide) is_X9_size (Nat.le_of_ble_eq_true rfl) ?_
  show V G Y_X9_size 0 [(0, .ref 436), (1, .int p1)] [] (I, L, RT b d t, 457) 0 0 _ _
  refine v_aload_n (pc' := 1) 0 0 rfl rfl rfl rfl ?_
  refine v_iconst (v := 0) (pc' := 2) 1 rfl rfl (by decide) ?_
  refine v_putI (pc' := 5) 2 rfl rfl pf_X9_80 (fun q => absurd q (by decide)) ly_436 (lay_lt ly_436 (by decide)) ?_
  refine v_aload_n (pc' := 6) 3 0 rfl rfl rfl rfl ?_
  refine v_iload_n (pc' := 7) 4 1 rfl rfl rfl rfl ?_
  refine v_i2l (pc' := 8) 5 rfl rfl ?_
  refine v_lconst (v := 0) (pc' := 9) 6 rfl rfl (by decide) ?_
  refine v_ldc2 (v := 9) (pc' := 12) 7 rfl rfl kl_X9_305 ?_
  refine v_cS (Y2 := Y_X9_in) (As := [.long (p1.toInt64), .long 0, .long 9]) (pc' := 15) (c1 := 0) (s1 := 0) 8 rfl rfl mf_X9_in rfl rfl ml_X9_232 ms_X9_in rfl (Nat.le_of_ble_eq_true rfl) ⟨Nat.le_of_ble_eq_true rfl, Nat.le_of_ble_eq_true rfl⟩ rfl rfl (ok_X9_in (p1.toInt64) (0 : Int64) (9 : Int64) (up2 I 436 0 0) L h) ?_ ?_
  · intro e9 u9 hx9
    exact hx9.elim
  intro v9 u9 hv9
  obtain ⟨r2323, rfl, rfl, h⟩ := hv9
  refine ⟨fun q => absurd q (Nat.lt_irrefl _), ?_⟩
  show V G Y_X9_size 15 _ (.int r2323 :: _) _ _ _ _ _
  refine v_iconst (v := 1) (pc' := 16) 9 rfl rfl (by decide) ?_
  refine v_cV (Y2 := Y_X9_fails) (As := [.int r2323, .int 1]) (b := 436) (pc' := 19) (c1 := 0) (s1 := 0) 10 rfl rfl mf_X9_fails rfl rfl ml_X9_280 mi_X9_fails se_X9_fails (ci := 8) rfl ly_436 (lay_lt ly_436 (by decide)) rfl (Nat.le_of_ble_eq_true rfl) ⟨Nat.le_of_ble_eq_true rfl, Nat.le_of_ble_eq_true rfl⟩ rfl rfl (ok_X9_fails r2323 (1 : Int32) (up2 I 436 0 0) L h) ?_ ?_
  · intro e9 u9 hx9
    exact hx9.elim
  intro v9 u9 hv9
  obtain ⟨r2324, I2325, rfl, rfl, h⟩ := hv9
  refine ⟨fun q => absurd q (Nat.lt_irrefl _), ?_⟩
  show V G Y_X9_size 19 _ (.int r2324 :: _) _ _ _ _ _
  refine v_if_eq (tgt := 24) (pc' := 22) 11 rfl rfl (by decide) (fun hc => ?_) (fun hc => ?_)
  · replace h := h.1 hc
    refine v_iload_n (pc' := 25) 14 1 rfl rfl rfl rfl ?_
    refine v_ts (clo := 0) (chi := 6) (dt := 109) 15 7 [68, 73, 78, 83, 91, 96, 101] rfl (by decide) (by decide) (by decide) (by decide) (by decide) ?_ (fun hc => ?_)
    · intro j9 t9 ht9 hj9 hx9
      match j9, ht9, hj9, hx9 with
      | 0, ht9, hj9, hx9 =>
        cases ht9
        replace hx9 := hx9.trans (show Int32.ofInt _ = (0 : Int32) by decide)
        replace h := h.1 hx9
        refine v_aload_n (pc' := 69) 16 0 rfl rfl rfl rfl ?_
        refine v_getI (pc' := 72) 17 rfl rfl pf_X9_77 ly_436 (lay_lt ly_436 (by decide)) ?_
        exact v_iret 18 rfl rfl (by decide) (by decide) ⟨_, _, rfl, rfl, h⟩
      | 1, ht9, hj9, hx9 =>
        cases ht9
        replace hx9 := hx9.trans (show Int32.ofInt _ = (1 : Int32) by decide)
        replace h := h.2.1 hx9
        refine v_aload_n (pc' := 74) 19 0 rfl rfl rfl rfl ?_
        refine v_getI (pc' := 77) 20 rfl rfl pf_X9_83 ly_436 (lay_lt ly_436 (by decide)) ?_
        exact v_iret 21 rfl rfl (by decide) (by decide) ⟨_, _, rfl, rfl, h⟩
      | 2, ht9, hj9, hx9 =>
        cases ht9
        replace hx9 := hx9.trans (show Int32.ofInt _ = (2 : Int32) by decide)
        replace h := h.2.2.1 hx9
        refine v_aload_n (pc' := 79) 22 0 rfl rfl rfl rfl ?_
        refine v_getI (pc' := 82) 23 rfl rfl pf_X9_86 ly_436 (lay_lt ly_436 (by decide)) ?_
        exact v_iret 24 rfl rfl (by decide) (by decide) ⟨_, _, rfl, rfl, h⟩
      | 3, ht9, hj9, hx9 =>
        cases ht9
        replace hx9 := hx9.trans (show Int32.ofInt _ = (3 : Int32) by decide)
        replace h := h.2.2.2.1 hx9
        refine v_aload_n (pc' := 84) 25 0 rfl rfl rfl rfl ?_
        refine v_getR (t := 437) (pc' := 87) 26 rfl rfl pf_X9_7 ly_436 (lay_lt ly_436 (by decide)) rt_436_1 ?_
        refine v_iconst (v := 0) (pc' := 88) 27 rfl rfl (by decide) ?_
        refine v_lald (i := 0) (j := 0) (pc' := 89) 28 rfl rfl ly_437 ln_437 (lay_lt ly_437 (by decide)) (vp_lit (by decide)) (by decide) ?_
        refine v_l2i (pc' := 90) 29 rfl rfl ?_
        exact v_iret 30 rfl rfl (by decide) (by decide) ⟨_, _, rfl, rfl, h⟩
      | 4, ht9, hj9, hx9 =>
        cases ht9
        replace hx9 := hx9.trans (show Int32.ofInt _ = (4 : Int32) by decide)
        replace h := h.2.2.2.2.1 hx9
        refine v_aload_n (pc' := 92) 31 0 rfl rfl rfl rfl ?_
        refine v_getI (pc' := 95) 32 rfl rfl pf_X9_89 ly_436 (lay_lt ly_436 (by decide)) ?_
        exact v_iret 33 rfl rfl (by decide) (by decide) ⟨_, _, rfl, rfl, h⟩
      | 5, ht9, hj9, hx9 =>
        cases ht9
        replace hx9 := hx9.trans (show Int32.ofInt _ = (5 : Int32) by decide)
        replace h := h.2.2.2.2.2.1 hx9
        refine v_aload_n (pc' := 97) 34 0 rfl rfl rfl rfl ?_
        refine v_getI (pc' := 100) 35 rfl rfl pf_X9_92 ly_436 (lay_lt ly_436 (by decide)) ?_
        exact v_iret 36 rfl rfl (by decide) (by decide) ⟨_, _, rfl, rfl, h⟩
      | 6, ht9, hj9, hx9 =>
        cases ht9
        replace hx9 := hx9.trans (show Int32.ofInt _ = (6 : Int32) by decide)
        replace h := h.2.2.2.2.2.2.1 hx9
        refine v_aload_n (pc' := 102) 37 0 rfl rfl rfl rfl ?_
        refine v_getR (t := 437) (pc' := 105) 38 rfl rfl pf_X9_7 ly_436 (lay_lt ly_436 (by decide)) rt_436_1 ?_
        refine v_iconst (v := 4) (pc' := 106) 39 rfl rfl (by decide) ?_
        refine v_lald (i := 4) (j := 4) (pc' := 107) 40 rfl rfl ly_437 ln_437 (lay_lt ly_437 (by decide)) (vp_lit (by decide)) (by decide) ?_
        refine v_l2i (pc' := 108) 41 rfl rfl ?_
        exact v_iret 42 rfl rfl (by decide) (by decide) ⟨_, _, rfl, rfl, h⟩
      | q9 + 7, ht9, hj9, hx9 => exact absurd hj9 (by omega)
    replace h := h.2.2.2.2.2.2.2 hc
    refine v_aload_n (pc' := 110) 43 0 rfl rfl rfl rfl ?_
    refine v_getR (t := 437) (pc' := 113) 44 rfl rfl pf_X9_7 ly_436 (lay_lt ly_436 (by decide)) rt_436_1 ?_
    refine v_iconst (v := 1) (pc' := 114) 45 rfl rfl (by decide) ?_
    refine v_iload_n (pc' := 115) 46 1 rfl rfl rfl rfl ?_
    refine v_iadd (pc' := 116) 47 rfl rfl ?_
    refine v_bipush (v := 7) (pc' := 118) 48 rfl rfl (by decide) ?_
    refine v_isub (pc' := 119) 49 rfl rfl ?_
    obtain ⟨hi2326, h⟩ := h
    refine v_lald (i := (((1 : Int32) + p1) - 7)) (j := (((1 : Int32) + p1) - 7).toNatClampNeg) (pc' := 120) 50 rfl rfl ly_437 ln_437 (lay_lt ly_437 (by decide)) hi2326 rfl ?_
    refine v_l2i (pc' := 121) 51 rfl rfl ?_
    exact v_iret 52 rfl rfl (by decide) (by decide) ⟨_, _, rfl, rfl, h⟩
  replace h := h.2 hc
  refine v_iconst (v := 0) (pc' := 23) 12 rfl rfl (by decide) ?_
  exact v_iret 13 rfl rfl (by decide) (by decide) ⟨_, _, rfl, rfl, h⟩
set_option maxHeartbeats 4000000 in
set_option maxRecDepth 100000 in
theorem b_X9_gate_168 {G : GT} {b d t : Nat} (v1 : Int32) (v2 : Int32) (I : TI) (L : TL)  (Q : Int32 → TI → TL → Prop)  (h : B_X9_gate_168 v1 v2 I L Q) : V G Y_X9_gate 168 [(0, .ref 436), (1, .int v1), (2, .int v2)] [] (I, L, RT b d t, 457) 0 0 (fun v9 u9 => ∃ (r9 : Int32) (I9 : TI) (L9 : TL), v9 = some (.int r9) ∧ u9 = (I9, L9, RT b d t, 457) ∧ Q r9 I9 L9) (fun _ _ => False) := by
  unfold B_X9_gate_168 at h
  refine v_aload_n (pc' := 169) 73 0 rfl rfl rfl rfl ?_
  refine v_iload_n (pc' := 170) 74 1 rfl rfl rfl rfl ?_
  refine v_iload_n (pc' := 171) 75 2 rfl rfl rfl rfl ?_
  refine v_iconst (v := 3) (pc' := 172) 76 rfl rfl (by decide) ?_
  refine v_isub (pc' := 173) 77 rfl rfl ?_
  refine v_cV (Y2 := Y_X9_delayOf) (As := [.int v1, .int (v2 - 3)]) (b := 436) (pc' := 176) (c1 := 0) (s1 := 0) 78 rfl rfl mf_X9_delayOf rfl rfl ml_X9_160 mi_X9_delayOf se_X9_delayOf (ci := 8) rfl ly_436 (lay_lt ly_436 (by decide)) rfl (Nat.le_of_ble_eq_true rfl) ⟨Nat.le_of_ble_eq_true rfl, Nat.le_of_ble_eq_true rfl⟩ rfl rfl (ok_X9_delayOf v1 (v2 - 3) I L h) ?_ ?_
  · intro e9 u9 hx9
    exact hx9.elim
  intro v9 u9 hv9
  obtain ⟨r2365, rfl, rfl, h⟩ := hv9
  refine ⟨fun q => absurd q (Nat.lt_irrefl _), ?_⟩
  show V G Y_X9_gate 176 _ (.int r2365 :: _) _ _ _ _ _
  exact v_iret 79 rfl rfl (by decide) (by decide) ⟨_, _, _, rfl, rfl, h⟩
set_option maxHeartbeats 4000000 in
set_option maxRecDepth 100000 in
theorem ok_X9_gate {G : GT} {b d t : Nat} (p1 : Int32) (p2 : Int32) (I : TI) (L : TL)  {Q : Int32 → TI → TL → Prop} (h : W_X9_gate p1 p2 I L Q) : MW G Y_X9_gate [.ref 436, .int p1, .int p2] (I, L, RT b d t, 457) (fun v9 u9 => ∃ (r9 : Int32) (I9 : TI) (L9 : TL), v9 = some (.int r9) ∧ u9 = (I9, L9, RT b d t, 457) ∧ Q r9 I9 L9) (fun _ _ => False) := by
  unfold W_X9_gate at h
  refine MW.intro rfl (by decide) is_X9_gate (Nat.le_of_ble_eq_true rfl) ?_
  show V G Y_X9_gate 0 [(0, .ref 436), (1, .int p1), (2, .int p2)] [] (I, L, RT b d t, 457) 0 0 _ _
  refine v_aload_n (pc' := 1) 0 0 rfl rfl rfl rfl ?_
  refine v_iload_n (pc' := 2) 1 1 rfl rfl rfl rfl ?_
  refine v_cV (Y2 := Y_X9_noGate) (As := [.int p1]) (b := 436) (pc' := 5) (c1 := 0) (s1 := 0) 2 rfl rfl mf_X9_noGate rfl rfl ml_X9_307 mi_X9_noGate se_X9_noGate (ci := 8) rfl ly_436 (lay_lt ly_436 (by decide)) rfl (Nat.le_of_ble_eq_true rfl) ⟨Nat.le_of_ble_eq_true rfl, Nat.le_of_ble_eq_true rfl⟩ rfl rfl (ok_X9_noGate p1 I L h) ?_ ?_
  · intro e9 u9 hx9
    exact hx9.elim
  intro v9 u9 hv9
  obtain ⟨r2366, I2367, rfl, rfl, h⟩ := hv9
  refine ⟨fun q => absurd q (Nat.lt_irrefl _), ?_⟩
  show V G Y_X9_gate 5 _ (.int r2366 :: _) _ _ _ _ _
  refine v_if_ne (tgt := 25) (pc' := 8) 3 rfl rfl (by decide) (fun hc => ?_) (fun hc => ?_)
  · replace h := h.1 hc
    refine v_iconst (v := 0) (pc' := 26) 13 rfl rfl (by decide) ?_
    exact v_iret 14 rfl rfl (by decide) (by decide) ⟨_, _, _, rfl, rfl, h⟩
  replace h := h.2 hc
  refine v_aload_n (pc' := 9) 4 0 rfl rfl rfl rfl ?_
  refine v_iload_n (pc' := 10) 5 2 rfl rfl rfl rfl ?_
  refine v_i2l (pc' := 11) 6 rfl rfl ?_
  refine v_lconst (v := 0) (pc' := 12) 7 rfl rfl (by decide) ?_
  refine v_ldc2 (v := 9) (pc' := 15) 8 rfl rfl kl_X9_305 ?_
  refine v_cS (Y2 := Y_X9_in) (As := [.long (p2.toInt64), .long 0, .long 9]) (pc' := 18) (c1 := 0) (s1 := 0) 9 rfl rfl mf_X9_in rfl rfl ml_X9_232 ms_X9_in rfl (Nat.le_of_ble_eq_true rfl) ⟨Nat.le_of_ble_eq_true rfl, Nat.le_of_ble_eq_true rfl⟩ rfl rfl (ok_X9_in (p2.toInt64) (0 : Int64) (9 : Int64) I2367 L h) ?_ ?_
  · intro e9 u9 hx9
    exact hx9.elim
  intro v9 u9 hv9
  obtain ⟨r2368, rfl, rfl, h⟩ := hv9
  refine ⟨fun q => absurd q (Nat.lt_irrefl _), ?_⟩
  show V G Y_X9_gate 18 _ (.int r2368 :: _) _ _ _ _ _
  refine v_iconst (v := 1) (pc' := 19) 10 rfl rfl (by decide) ?_
  refine v_cV (Y2 := Y_X9_fails) (As := [.int r2368, .int 1]) (b := 436) (pc' := 22) (c1 := 0) (s1 := 0) 11 rfl rfl mf_X9_fails rfl rfl ml_X9_280 mi_X9_fails se_X9_fails (ci := 8) rfl ly_436 (lay_lt ly_436 (by decide)) rfl (Nat.le_of_ble_eq_true rfl) ⟨Nat.le_of_ble_eq_true rfl, Nat.le_of_ble_eq_true rfl⟩ rfl rfl (ok_X9_fails r2368 (1 : Int32) I2367 L h) ?_ ?_
  · intro e9 u9 hx9
    exact hx9.elim
  intro v9 u9 hv9
  obtain ⟨r2369, I2370, rfl, rfl, h⟩ := hv9
  refine ⟨fun q => absurd q (Nat.lt_irrefl _), ?_⟩
  show V G Y_X9_gate 22 _ (.int r2369 :: _) _ _ _ _ _
  refine v_if_eq (tgt := 27) (pc' := 25) 12 rfl rfl (by decide) (fun hc => ?_) (fun hc => ?_)
  · replace h := h.1 hc
    refine v_iload_n (pc' := 28) 15 1 rfl rfl rfl rfl ?_
    refine v_aload_n (pc' := 29) 16 0 rfl rfl rfl rfl ?_
    refine v_getI (pc' := 32) 17 rfl rfl pf_X9_77 ly_436 (lay_lt ly_436 (by decide)) ?_
    refine v_isub (pc' := 33) 18 rfl rfl ?_
    refine v_istore_n (ls' := [(3, .int (p1 - (I2370 436 10))), (0, .ref 436), (1, .int p1), (2, .int p2)]) (pc' := 34) 19 rfl rfl rfl (by decide) rfl ?_
    refine v_aload_n (pc' := 35) 20 1 rfl rfl rfl rfl ?_
    refine v_cV (Y2 := Y_X9_waves) (As := []) (b := 436) (pc' := 38) (c1 := 0) (s1 := 0) 21 rfl rfl mf_X9_waves rfl rfl ml_X9_302 mi_X9_waves se_X9_waves (ci := 8) rfl ly_436 (lay_lt ly_436 (by decide)) rfl (Nat.le_of_ble_eq_true rfl) ⟨Nat.le_of_ble_eq_true rfl, Nat.le_of_ble_eq_true rfl⟩ rfl rfl (ok_X9_waves I2370 L h) ?_ ?_
    · intro e9 u9 hx9
      exact hx9.elim
    intro v9 u9 hv9
    obtain ⟨L2371, rfl, rfl, h⟩ := hv9
    refine ⟨fun q => absurd q (Nat.lt_irrefl _), ?_⟩
    show V G Y_X9_gate 38 _ _ _ _ _ _ _
    refine v_iload_n (pc' := 39) 22 3 rfl rfl rfl rfl ?_
    refine v_ts (clo := 0) (chi := 9) (dt := 168) 23 10 [92, 99, 106, 168, 168, 168, 113, 122, 135, 162] rfl (by decide) (by decide) (by decide) (by decide) (by decide) ?_ (fun hc => ?_)
    · intro j9 t9 ht9 hj9 hx9
      match j9, ht9, hj9, hx9 with
      | 0, ht9, hj9, hx9 =>
        cases ht9
        replace hx9 := hx9.trans (show Int32.ofInt _ = (0 : Int32) by decide)
        replace h := h.1 hx9
        refine v_aload_n (pc' := 93) 24 1 rfl rfl rfl rfl ?_
        refine v_getR (t := 441) (pc' := 96) 25 rfl rfl pf_X9_22 ly_436 (lay_lt ly_436 (by decide)) rt_436_12 ?_
        refine v_iload_n (pc' := 97) 26 0 rfl rfl rfl rfl ?_
        obtain ⟨hi2372, h⟩ := h
        refine v_iald (i := (p1 - (I2370 436 10))) (j := (p1 - (I2370 436 10)).toNatClampNeg) (pc' := 98) 27 rfl rfl ly_441 ln_441 (lay_lt ly_441 (by decide)) hi2372 rfl ?_
        exact v_iret 28 rfl rfl (by decide) (by decide) ⟨_, _, _, rfl, rfl, h⟩
      | 1, ht9, hj9, hx9 =>
        cases ht9
        replace hx9 := hx9.trans (show Int32.ofInt _ = (1 : Int32) by decide)
        replace h := h.2.1 hx9
        refine v_aload_n (pc' := 100) 29 1 rfl rfl rfl rfl ?_
        refine v_getR (t := 442) (pc' := 103) 30 rfl rfl pf_X9_26 ly_436 (lay_lt ly_436 (by decide)) rt_436_13 ?_
        refine v_iload_n (pc' := 104) 31 0 rfl rfl rfl rfl ?_
        obtain ⟨hi2373, h⟩ := h
        refine v_iald (i := (p1 - (I2370 436 10))) (j := (p1 - (I2370 436 10)).toNatClampNeg) (pc' := 105) 32 rfl rfl ly_442 ln_442 (lay_lt ly_442 (by decide)) hi2373 rfl ?_
        exact v_iret 33 rfl rfl (by decide) (by decide) ⟨_, _, _, rfl, rfl, h⟩
      | 2, ht9, hj9, hx9 =>
        cases ht9
        replace hx9 := hx9.trans (show Int32.ofInt _ = (2 : Int32) by decide)
        replace h := h.2.2.1 hx9
        refine v_aload_n (pc' := 107) 34 1 rfl rfl rfl rfl ?_
        refine v_getR (t := 443) (pc' := 110) 35 rfl rfl pf_X9_29 ly_436 (lay_lt ly_436 (by decide)) rt_436_14 ?_
        refine v_iload_n (pc' := 111) 36 0 rfl rfl rfl rfl ?_
        obtain ⟨hi2374, h⟩ := h
        refine v_iald (i := (p1 - (I2370 436 10))) (j := (p1 - (I2370 436 10)).toNatClampNeg) (pc' := 112) 37 rfl rfl ly_443 ln_443 (lay_lt ly_443 (by decide)) hi2374 rfl ?_
        exact v_iret 38 rfl rfl (by decide) (by decide) ⟨_, _, _, rfl, rfl, h⟩
      | 3, ht9, hj9, hx9 =>
        cases ht9
        replace hx9 := hx9.trans (show Int32.ofInt _ = (3 : Int32) by decide)
        replace h := h.2.2.2.1 hx9
        refine V.sub [1, 2, 3] rfl ?_
        exact b_X9_gate_168 p1 p2 I2370 L2371 Q h
      | 4, ht9, hj9, hx9 =>
        cases ht9
        replace hx9 := hx9.trans (show Int32.ofInt _ = (4 : Int32) by decide)
        replace h := h.2.2.2.2.1 hx9
        refine V.sub [1, 2, 3] rfl ?_
        exact b_X9_gate_168 p1 p2 I2370 L2371 Q h
      | 5, ht9, hj9, hx9 =>
        cases ht9
        replace hx9 := hx9.trans (show Int32.ofInt _ = (5 : Int32) by decide)
        replace h := h.2.2.2.2.2.1 hx9
        refine V.sub [1, 2, 3] rfl ?_
        exact b_X9_gate_168 p1 p2 I2370 L2371 Q h
      | 6, ht9, hj9, hx9 =>
        cases ht9
        replace hx9 := hx9.trans (show Int32.ofInt _ = (6 : Int32) by decide)
        replace h := h.2.2.2.2.2.2.1 hx9
        refine v_aload_n (pc' := 114) 39 1 rfl rfl rfl rfl ?_
        refine v_iload_n (pc' := 115) 40 2 rfl rfl rfl rfl ?_
        refine v_cV (Y2 := Y_X9_dependence) (As := [.int p1]) (b := 436) (pc' := 118) (c1 := 0) (s1 := 0) 41 rfl rfl mf_X9_dependence rfl rfl ml_X9_99 mi_X9_dependence se_X9_dependence (ci := 8) rfl ly_436 (lay_lt ly_436 (by decide)) rfl (Nat.le_of_ble_eq_true rfl) ⟨Nat.le_of_ble_eq_true rfl, Nat.le_of_ble_eq_true rfl⟩ rfl rfl (ok_X9_dependence p1 I2370 L2371 h) ?_ ?_
        · intro e9 u9 hx9
          exact hx9.elim
        intro v9 u9 hv9
        obtain ⟨r2375, rfl, rfl, h⟩ := hv9
        refine ⟨fun q => absurd q (Nat.lt_irrefl _), ?_⟩
        show V G Y_X9_gate 118 _ (.long r2375 :: _) _ _ _ _ _
        refine v_cS (Y2 := Y_X9_ones) (As := [.long r2375]) (pc' := 121) (c1 := 0) (s1 := 0) 42 rfl rfl mf_X9_ones rfl rfl ml_X9_137 ms_X9_ones rfl (Nat.le_of_ble_eq_true rfl) ⟨Nat.le_of_ble_eq_true rfl, Nat.le_of_ble_eq_true rfl⟩ rfl rfl (ok_X9_ones r2375 I2370 L2371 h) ?_ ?_
        · intro e9 u9 hx9
          exact hx9.elim
        intro v9 u9 hv9
        obtain ⟨r2376, rfl, rfl, h⟩ := hv9
        refine ⟨fun q => absurd q (Nat.lt_irrefl _), ?_⟩
        show V G Y_X9_gate 121 _ (.int r2376 :: _) _ _ _ _ _
        exact v_iret 43 rfl rfl (by decide) (by decide) ⟨_, _, _, rfl, rfl, h⟩
      | 7, ht9, hj9, hx9 =>
        cases ht9
        replace hx9 := hx9.trans (show Int32.ofInt _ = (7 : Int32) by decide)
        replace h := h.2.2.2.2.2.2.2.1 hx9
        refine v_aload_n (pc' := 123) 44 1 rfl rfl rfl rfl ?_
        refine v_getR (t := 437) (pc' := 126) 45 rfl rfl pf_X9_7 ly_436 (lay_lt ly_436 (by decide)) rt_436_1 ?_
        refine v_bipush (v := 9) (pc' := 128) 46 rfl rfl (by decide) ?_
        refine v_iload_n (pc' := 129) 47 0 rfl rfl rfl rfl ?_
        refine v_iadd (pc' := 130) 48 rfl rfl ?_
        obtain ⟨hi2377, h⟩ := h
        refine v_lald (i := ((9 : Int32) + (p1 - (I2370 436 10)))) (j := ((9 : Int32) + (p1 - (I2370 436 10))).toNatClampNeg) (pc' := 131) 49 rfl rfl ly_437 ln_437 (lay_lt ly_437 (by decide)) hi2377 rfl ?_
        refine v_cS (Y2 := Y_X9_ones) (As := [.long (L2371 437 (((9 : Int32) + (p1 - (I2370 436 10))).toNatClampNeg))]) (pc' := 134) (c1 := 0) (s1 := 0) 50 rfl rfl mf_X9_ones rfl rfl ml_X9_137 ms_X9_ones rfl (Nat.le_of_ble_eq_true rfl) ⟨Nat.le_of_ble_eq_true rfl, Nat.le_of_ble_eq_true rfl⟩ rfl rfl (ok_X9_ones (L2371 437 (((9 : Int32) + (p1 - (I2370 436 10))).toNatClampNeg)) I2370 L2371 h) ?_ ?_
        · intro e9 u9 hx9
          exact hx9.elim
        intro v9 u9 hv9
        obtain ⟨r2378, rfl, rfl, h⟩ := hv9
        refine ⟨fun q => absurd q (Nat.lt_irrefl _), ?_⟩
        show V G Y_X9_gate 134 _ (.int r2378 :: _) _ _ _ _ _
        exact v_iret 51 rfl rfl (by decide) (by decide) ⟨_, _, _, rfl, rfl, h⟩
      | 8, ht9, hj9, hx9 =>
        cases ht9
        replace hx9 := hx9.trans (show Int32.ofInt _ = (8 : Int32) by decide)
        replace h := h.2.2.2.2.2.2.2.2.1 hx9
        refine v_aload_n (pc' := 136) 52 1 rfl rfl rfl rfl ?_
        refine v_getR (t := 437) (pc' := 139) 53 rfl rfl pf_X9_7 ly_436 (lay_lt ly_436 (by decide)) rt_436_1 ?_
        refine v_bipush (v := 21) (pc' := 141) 54 rfl rfl (by decide) ?_
        refine v_iload_n (pc' := 142) 55 0 rfl rfl rfl rfl ?_
        refine v_iadd (pc' := 143) 56 rfl rfl ?_
        obtain ⟨hi2379, h⟩ := h
        refine v_lald (i := ((21 : Int32) + (p1 - (I2370 436 10)))) (j := ((21 : Int32) + (p1 - (I2370 436 10))).toNatClampNeg) (pc' := 144) 57 rfl rfl ly_437 ln_437 (lay_lt ly_437 (by decide)) hi2379 rfl ?_
        refine v_aload_n (pc' := 145) 58 1 rfl rfl rfl rfl ?_
        refine v_getR (t := 437) (pc' := 148) 59 rfl rfl pf_X9_7 ly_436 (lay_lt ly_436 (by decide)) rt_436_1 ?_
        refine v_bipush (v := 9) (pc' := 150) 60 rfl rfl (by decide) ?_
        refine v_iload_n (pc' := 151) 61 0 rfl rfl rfl rfl ?_
        refine v_iadd (pc' := 152) 62 rfl rfl ?_
        obtain ⟨hi2380, h⟩ := h
        refine v_lald (i := ((9 : Int32) + (p1 - (I2370 436 10)))) (j := ((9 : Int32) + (p1 - (I2370 436 10))).toNatClampNeg) (pc' := 153) 63 rfl rfl ly_437 ln_437 (lay_lt ly_437 (by decide)) hi2380 rfl ?_
        refine v_ldc2 (v := -1) (pc' := 156) 64 rfl rfl kl_X9_111 ?_
        refine v_lxor (pc' := 157) 65 rfl rfl ?_
        refine v_land (pc' := 158) 66 rfl rfl ?_
        refine v_cS (Y2 := Y_X9_ones) (As := [.long ((L2371 437 (((21 : Int32) + (p1 - (I2370 436 10))).toNatClampNeg)) &&& ((L2371 437 (((9 : Int32) + (p1 - (I2370 436 10))).toNatClampNeg)) ^^^ (-1)))]) (pc' := 161) (c1 := 0) (s1 := 0) 67 rfl rfl mf_X9_ones rfl rfl ml_X9_137 ms_X9_ones rfl (Nat.le_of_ble_eq_true rfl) ⟨Nat.le_of_ble_eq_true rfl, Nat.le_of_ble_eq_true rfl⟩ rfl rfl (ok_X9_ones ((L2371 437 (((21 : Int32) + (p1 - (I2370 436 10))).toNatClampNeg)) &&& ((L2371 437 (((9 : Int32) + (p1 - (I2370 436 10))).toNatClampNeg)) ^^^ (-1))) I2370 L2371 h) ?_ ?_
        · intro e9 u9 hx9
          exact hx9.elim
        intro v9 u9 hv9
        obtain ⟨r2381, rfl, rfl, h⟩ := hv9
        refine ⟨fun q => absurd q (Nat.lt_irrefl _), ?_⟩
        show V G Y_X9_gate 161 _ (.int r2381 :: _) _ _ _ _ _
        exact v_iret 68 rfl rfl (by decide) (by decide) ⟨_, _, _, rfl, rfl, h⟩
      | 9, ht9, hj9, hx9 =>
        cases ht9
        replace hx9 := hx9.trans (show Int32.ofInt _ = (9 : Int32) by decide)
        replace h := h.2.2.2.2.2.2.2.2.2.1 hx9
        refine v_aload_n (pc' := 163) 69 1 rfl rfl rfl rfl ?_
        refine v_iload_n (pc' := 164) 70 2 rfl rfl rfl rfl ?_
        refine v_cV (Y2 := Y_X9_pulsesOf) (As := [.int p1]) (b := 436) (pc' := 167) (c1 := 0) (s1 := 0) 71 rfl rfl mf_X9_pulsesOf rfl rfl ml_X9_310 mi_X9_pulsesOf se_X9_pulsesOf (ci := 8) rfl ly_436 (lay_lt ly_436 (by decide)) rfl (Nat.le_of_ble_eq_true rfl) ⟨Nat.le_of_ble_eq_true rfl, Nat.le_of_ble_eq_true rfl⟩ rfl rfl (ok_X9_pulsesOf p1 I2370 L2371 h) ?_ ?_
        · intro e9 u9 hx9
          exact hx9.elim
        intro v9 u9 hv9
        obtain ⟨r2382, I2383, rfl, rfl, h⟩ := hv9
        refine ⟨fun q => absurd q (Nat.lt_irrefl _), ?_⟩
        show V G Y_X9_gate 167 _ (.int r2382 :: _) _ _ _ _ _
        exact v_iret 72 rfl rfl (by decide) (by decide) ⟨_, _, _, rfl, rfl, h⟩
      | q9 + 10, ht9, hj9, hx9 => exact absurd hj9 (by omega)
    replace h := h.2.2.2.2.2.2.2.2.2.2 hc
    refine V.sub [1, 2, 3] rfl ?_
    exact b_X9_gate_168 p1 p2 I2370 L2371 Q h
  replace h := h.2 hc
  refine v_iconst (v := 0) (pc' := 26) 13 rfl rfl (by decide) ?_
  exact v_iret 14 rfl rfl (by decide) (by decide) ⟨_, _, _, rfl, rfl, h⟩
