def Y_L_writes : MT := (⟨"GlitchCourtLaw", "writes", "(Ljava/lang/String;)V"⟩, method_2_code, 3, none, { frames := 5, cells := 0, slots := 0, locals := 106 }, [(0, .iconst 0, 1), (1, .istore_n 2, 1), (2, .iload_n 2, 1), (3, .aload_n 1, 1), (4, .invokevirtual 13, 3), (7, .if_icmp .ge 33, 3), (10, .aload_n 0, 1), (11, .getfield 7, 3), (14, .aload_n 0, 1), (15, .getfield 19, 3), (18, .aload_n 1, 1), (19, .iload_n 2, 1), (20, .invokevirtual 23, 3), (23, .iastore, 1), (24, .aload_n 0, 1), (25, .dup, 1), (26, .getfield 19, 3), (29, .iconst 1, 1), (30, .iadd, 1), (31, .putfield 19, 3), (34, .iinc 2 1, 3), (37, .goto (-35), 3), (40, .return_, 1)], [])
theorem is_L_writes : (yP Y_L_writes).all (okI (yB Y_L_writes)) = true := by decide +kernel
theorem mf_L_writes : MF Y_L_writes 1 := ⟨gw_in 407 (by decide +kernel) (by decide +kernel), gw_in 28 (by decide +kernel) (by decide +kernel), by decide, by decide +kernel⟩
theorem ml_L_13 : Cond.methodLink "GlitchCourtLaw" 13 (⟨"java/lang/String", "length", "()I"⟩ : MethodName) ∈ GW := gw_in 408 (by decide +kernel) (by decide +kernel)
theorem ml_L_23 : Cond.methodLink "GlitchCourtLaw" 23 (⟨"java/lang/String", "charAt", "(I)C"⟩ : MethodName) ∈ GW := gw_in 418 (by decide +kernel) (by decide +kernel)
def Y_L_feeds : MT := (⟨"GlitchCourtLaw", "feeds", "(LGlitchCourt;)I"⟩, method_5_code, 5, (Option.some FieldType.int), { frames := 2, cells := 19, slots := 95, locals := 47 }, [(0, .iconst 0, 1), (1, .istore_n 2, 1), (2, .iload_n 2, 1), (3, .aload_n 0, 1), (4, .getfield 19, 3), (7, .if_icmp .ge 90, 3), (10, .iconst 5, 1), (11, .newarray .int, 2), (13, .astore_n 3, 1), (14, .iconst 0, 1), (15, .istore 4, 2), (17, .iload 4, 2), (19, .bipush 20, 2), (21, .if_icmp .ge 50, 3), (24, .aload_n 3, 1), (25, .iload 4, 2), (27, .iconst 4, 1), (28, .idiv, 1), (29, .aload_n 3, 1), (30, .iload 4, 2), (32, .iconst 4, 1), (33, .idiv, 1), (34, .iaload, 1), (35, .bipush 8, 2), (37, .ishl, 1), (38, .iload_n 2, 1), (39, .iload 4, 2), (41, .iadd, 1), (42, .aload_n 0, 1), (43, .getfield 19, 3), (46, .if_icmp .ge 15, 3), (49, .aload_n 0, 1), (50, .getfield 7, 3), (53, .iload_n 2, 1), (54, .iload 4, 2), (56, .iadd, 1), (57, .iaload, 1), (58, .goto 5, 3), (61, .bipush 32, 2), (63, .ior, 1), (64, .iastore, 1), (65, .iinc 4 1, 3), (68, .goto (-51), 3), (71, .aload_n 1, 1), (72, .aload_n 3, 1), (73, .iconst 0, 1), (74, .iaload, 1), (75, .aload_n 3, 1), (76, .iconst 1, 1), (77, .iaload, 1), (78, .aload_n 3, 1), (79, .iconst 2, 1), (80, .iaload, 1), (81, .aload_n 3, 1), (82, .iconst 3, 1), (83, .iaload, 1), (84, .aload_n 3, 1), (85, .iconst 4, 1), (86, .iaload, 1), (87, .invokevirtual 34, 3), (90, .pop, 1), (91, .iinc 2 20, 3), (94, .goto (-92), 3), (97, .aload_n 0, 1), (98, .getfield 19, 3), (101, .istore_n 2, 1), (102, .aload_n 0, 1), (103, .iconst 0, 1), (104, .putfield 19, 3), (107, .iload_n 2, 1), (108, .ireturn, 1)], [])
theorem is_L_feeds : (yP Y_L_feeds).all (okI (yB Y_L_feeds)) = true := by decide +kernel
theorem mf_L_feeds : MF Y_L_feeds 1 := ⟨gw_in 482 (by decide +kernel) (by decide +kernel), gw_in 28 (by decide +kernel) (by decide +kernel), by decide, by decide +kernel⟩
theorem ml_L_34 : Cond.methodLink "GlitchCourtLaw" 34 (⟨"GlitchCourt", "feed", "(IIIII)I"⟩ : MethodName) ∈ GW := gw_in 483 (by decide +kernel) (by decide +kernel)
theorem mi_X8_feed : Cond.instanceMethod (⟨"GlitchCourt", "feed", "(IIIII)I"⟩ : MethodName) ∈ GW := gw_in 484 (by decide +kernel) (by decide +kernel)
theorem se_X8_feed : Cond.selects "GlitchCourt" (⟨"GlitchCourt", "feed", "(IIIII)I"⟩ : MethodName) (⟨"GlitchCourt", "feed", "(IIIII)I"⟩ : MethodName) ∈ GW := gw_in 485 (by decide +kernel) (by decide +kernel)
/-! the law writes a text of constants -/
set_option maxHeartbeats 4000000 in
set_option maxRecDepth 100000 in
theorem ok_L_writes {G : GT} {b d t : Nat} {nx : Nat} (hnx : 436 ≤ nx) (p1 : Nat) (I : TI) (L : TL) {Q : TI → Prop} (h : W_L_writes p1 I L Q) : MW G Y_L_writes [.ref 436, .ref p1] (I, L, RT b d t, nx) (fun v9 u9 => ∃ (I9 : TI), v9 = none ∧ u9 = (I9, L, RT b d t, nx) ∧ Q I9) (fun _ _ => False) := by
  obtain ⟨pl, sz, rfl, hpl, hsz, hb, h⟩ := h
  obtain ⟨a1, a2, a3⟩ := s_all pl hpl
  refine MW.intro rfl (by decide) is_L_writes (Nat.le_of_ble_eq_true rfl) ?_
  show V G Y_L_writes 0 [(0, .ref 436), (1, .ref (458 + pl))] [] (I, L, RT b d t, nx) 0 0 _ _
  refine v_iconst (v := 0) (pc' := 1) 0 rfl rfl (by decide) ?_
  refine v_istore_n (ls' := [(2, .int 0), (0, .ref 436), (1, .ref (458 + pl))]) (pc' := 2) 1 rfl rfl rfl (by decide) rfl ?_
  have loop : ∀ (n j : Nat) (J : TI), j + n = lenJS.getD pl 0 → (∀ a, a ≠ 436 → a ≠ 437 → J a = I a) → (∀ i, i ≠ 1 → J 436 i = I 436 i) → J 436 1 = nI (sz + j) → (∀ i, i < sz → J 437 i = I 437 i) → (∀ i, i < j → J 437 (sz + i) = sch pl i) → V G Y_L_writes 2 [(2, .int (nI j)), (0, .ref 436), (1, .ref (458 + pl))] [] (J, L, RT b d t, nx) 0 0 (fun v9 u9 => ∃ (I9 : TI), v9 = none ∧ u9 = (I9, L, RT b d t, nx) ∧ Q I9) (fun _ _ => False) := by
    intro n
    induction n with
    | zero =>
      intro j J hj j1 j2 j3 j4 j5
      refine v_iload_n (pc' := 3) 2 0 rfl rfl rfl rfl ?_
      refine v_aload_n (pc' := 4) 3 2 rfl rfl rfl rfl ?_
      refine v_cVS (Y2 := Y_J0_length_8abf5) (As := []) (pl := pl) (pc' := 7) (c1 := 0) (s1 := 0) 4 rfl rfl mf_J0_length_8abf5 rfl rfl ml_L_13 mi_J0_length_8abf5 se_J0_length_8abf5 rfl hpl rfl (Nat.le_of_ble_eq_true rfl) ⟨Nat.le_of_ble_eq_true rfl, Nat.le_of_ble_eq_true rfl⟩ rfl rfl (Q1 := fun v9 u9 => v9 = some (.int (nI (lenJS.getD pl 0))) ∧ u9 = (J, L, RT b d t, nx)) (ok_slength hpl ⟨rfl, rfl⟩) (fun _ _ q => q.elim) ?_
      intro v9 u9 hv9
      obtain ⟨rfl, rfl⟩ := hv9
      refine ⟨fun _ => rfl, ?_⟩
      show V G Y_L_writes 7 _ (.int (nI (lenJS.getD pl 0)) :: _) _ _ _ _ _
      have ej : j = lenJS.getD pl 0 := by omega
      subst ej
      refine v_icmp_ge (tgt := 40) (pc' := 10) 5 rfl rfl (by decide) (fun hc => ?_) (fun hc => absurd (nI_le (Nat.le_refl _) (by omega)) hc)
      exact v_vret 22 rfl rfl (by decide) (by decide) ⟨_, rfl, rfl, h J j1 j2 j3 j4 j5⟩
    | succ n ih =>
      intro j J hj j1 j2 j3 j4 j5
      have hlt : j < lenJS.getD pl 0 := by omega
      refine v_iload_n (pc' := 3) 2 0 rfl rfl rfl rfl ?_
      refine v_aload_n (pc' := 4) 3 2 rfl rfl rfl rfl ?_
      refine v_cVS (Y2 := Y_J0_length_8abf5) (As := []) (pl := pl) (pc' := 7) (c1 := 0) (s1 := 0) 4 rfl rfl mf_J0_length_8abf5 rfl rfl ml_L_13 mi_J0_length_8abf5 se_J0_length_8abf5 rfl hpl rfl (Nat.le_of_ble_eq_true rfl) ⟨Nat.le_of_ble_eq_true rfl, Nat.le_of_ble_eq_true rfl⟩ rfl rfl (Q1 := fun v9 u9 => v9 = some (.int (nI (lenJS.getD pl 0))) ∧ u9 = (J, L, RT b d t, nx)) (ok_slength hpl ⟨rfl, rfl⟩) (fun _ _ q => q.elim) ?_
      intro v9 u9 hv9
      obtain ⟨rfl, rfl⟩ := hv9
      refine ⟨fun _ => rfl, ?_⟩
      show V G Y_L_writes 7 _ (.int (nI (lenJS.getD pl 0)) :: _) _ _ _ _ _
      refine v_icmp_ge (tgt := 40) (pc' := 10) 5 rfl rfl (by decide) (fun hc => absurd ((nI_leI (by omega) (by omega)).mp hc) (by omega)) (fun hc => ?_)
      refine v_aload_n (pc' := 11) 6 1 rfl rfl rfl rfl ?_
      refine v_getR (t := 437) (pc' := 14) 7 rfl rfl pf_L_7 ly_436 (lay_n ly_436 (by decide) hnx) rt_436_0 ?_
      refine v_aload_n (pc' := 15) 8 1 rfl rfl rfl rfl ?_
      refine v_getI (pc' := 18) 9 rfl rfl pf_L_19 ly_436 (lay_n ly_436 (by decide) hnx) ?_
      refine v_aload_n (pc' := 19) 10 2 rfl rfl rfl rfl ?_
      refine v_iload_n (pc' := 20) 11 0 rfl rfl rfl rfl ?_
      refine v_cVS (Y2 := Y_J0_charAt_5068e) (As := [.int (nI j)]) (pl := pl) (pc' := 23) (c1 := 0) (s1 := 0) 12 rfl rfl mf_J0_charAt_5068e rfl rfl ml_L_23 mi_J0_charAt_5068e se_J0_charAt_5068e rfl hpl rfl (Nat.le_of_ble_eq_true rfl) ⟨Nat.le_of_ble_eq_true rfl, Nat.le_of_ble_eq_true rfl⟩ rfl rfl (Q1 := fun v9 u9 => v9 = some (.int (sch pl j)) ∧ u9 = (J, L, RT b d t, nx)) (ok_charAt hpl (pk_in j _ (by omega) rfl) ⟨by rw [nI_clamp (by omega)], rfl⟩) (fun _ _ q => q.elim) ?_
      intro v9 u9 hv9
      obtain ⟨rfl, rfl⟩ := hv9
      refine ⟨fun _ => rfl, ?_⟩
      show V G Y_L_writes 23 _ (.int (sch pl j) :: .int (J 436 1) :: .ref 437 :: _) _ _ _ _ _
      refine v_iast (i := J 436 1) (j := sz + j) (pc' := 24) 13 rfl rfl ly_437 ln_437 (lay_n ly_437 (by decide) hnx) (by rw [j3]; exact pk_in (sz + j) 600 (by omega) rfl) (by rw [j3]; exact pk_cl (sz + j) rfl (by omega)) ?_
      refine v_aload_n (pc' := 25) 14 1 rfl rfl rfl rfl ?_
      refine v_dup (pc' := 26) 15 rfl rfl rfl ?_
      refine v_getI (pc' := 29) 16 rfl rfl pf_L_19 ly_436 (lay_n ly_436 (by decide) hnx) ?_
      refine v_iconst (v := 1) (pc' := 30) 17 rfl rfl (by decide) ?_
      refine v_iadd (pc' := 31) 18 rfl rfl ?_
      refine v_putI (pc' := 34) 19 rfl rfl pf_L_19 (fun q => absurd q (by decide)) ly_436 (lay_n ly_436 (by decide) hnx) ?_
      refine v_iinc (v := (nI j + 1)) (ls' := [(2, .int (nI j + 1)), (0, .ref 436), (1, .ref (458 + pl))]) (pc' := 37) 20 0 rfl rfl rfl rfl (by decide) rfl ?_
      refine v_goto (tgt := 2) 21 rfl (by decide) ?_
      rw [nI_1]
      have e1 : (up2 J 437 (sz + j) (sch pl j)) 436 1 = nI (sz + j) := by rw [up2_row (by decide), j3]
      rw [e1, nI_1]
      refine ih (j + 1) _ (by omega) (fun a q1 q2 => ?_) (fun i hi => ?_) up2_s (fun i hi => ?_) (fun i hi => ?_)
      · rw [up2_row q1, up2_row q2, j1 a q1 q2]
      · rw [up2_n (Or.inr hi), up2_row (by decide), j2 i hi]
      · rw [up2_row (by decide), up2_n (Or.inr (by omega)), j4 i hi]
      · rw [up2_row (by decide)]
        by_cases q : i = j
        · subst q
          rw [up2_s]
        · rw [up2_n (Or.inr (by omega)), j5 i (by omega)]
  exact loop _ 0 I (Nat.zero_add _) (fun _ _ _ => rfl) (fun _ _ => rfl) hsz (fun _ _ => rfl) (fun i hi => absurd hi (Nat.not_lt_zero _))
theorem gar_int : Cond.arrayClass .int ∈ GW := gw_in 122 (by decide +kernel) (by decide +kernel)
/-! the law feeds what it has written -/
theorem rt_w {b d t n : Nat} (h1 : 438 ≤ n) : clr (RT b d t) n none = RT b d t := by
  funext k j
  unfold clr
  by_cases e : k = n
  · subst e
    rw [if_pos rfl]
    have h27 : LAY k = 27 ∨ LAY k = 99 := by
      rcases Nat.lt_or_ge k 457 with q | q
      · exact Or.inl (lay_w k q h1)
      · right
        simp [LAY, List.getD_eq_getElem?_getD, List.getElem?_eq_none (show lay.length ≤ k by rw [lay_len]; exact q)]
    unfold RT
    split
    · omega
    · omega
    · unfold RS
      rcases h27 with q | q <;> (rw [q]; try rfl)
  · rw [if_neg e]
theorem ln_w : ∀ k, k < 457 → 438 ≤ k → LEN k = 5 := by
  intro k h1 h2
  have h : ∀ j, j < 19 → LEN (438 + j) = 5 := by decide +kernel
  have := h (k - 438) (by omega)
  rwa [show 438 + (k - 438) = k by omega] at this
theorem st_w {j n : Nat} (h : 438 + j < n + 2) (hn : n ≤ 455) : ST (438 + j) n := by
  unfold ST PO sc
  rw [if_neg (by omega), if_neg (by omega), if_pos (by omega)]
  exact h
/-- the bytes packed so far -/
def pkW (I : TI) (sz k : Nat) : Nat → Int32
  | 0 => 0
  | n + 1 => pkW I sz k n <<< 8 ||| fdB I sz (k + n)
theorem pkW4 (I : TI) (sz k : Nat) : pkW I sz k 4 = fdW I sz k := rfl
/-- the row of five numbers behind i bytes -/
def pkR (I : TI) (sz k i : Nat) (q : Nat) : Int32 := if 4 * q < i then pkW I sz (k + 4 * q) (min 4 (i - 4 * q)) else 0
theorem pkR_0 (I : TI) (sz k : Nat) (q : Nat) : pkR I sz k 0 q = 0 := if_neg (Nat.not_lt_zero _)
theorem pkR_s (I : TI) (sz k i : Nat) : pkR I sz k (i + 1) (i / 4) = pkR I sz k i (i / 4) <<< 8 ||| fdB I sz (k + i) := by
  unfold pkR
  rw [if_pos (by omega), Nat.min_eq_right (show i + 1 - 4 * (i / 4) ≤ 4 by omega)]
  obtain ⟨w, hw⟩ : ∃ w, w = i - 4 * (i / 4) := ⟨_, rfl⟩
  rw [show i + 1 - 4 * (i / 4) = w + 1 by omega]
  show pkW I sz (k + 4 * (i / 4)) w <<< 8 ||| fdB I sz (k + 4 * (i / 4) + w) = _
  rw [show k + 4 * (i / 4) + w = k + i by omega]
  by_cases z : 4 * (i / 4) < i
  · rw [if_pos z, Nat.min_eq_right (show i - 4 * (i / 4) ≤ 4 by omega), ← hw]
  · rw [if_neg z, show w = 0 by omega]
    rfl
theorem pkR_n (I : TI) (sz k i q : Nat) (h : q ≠ i / 4) : pkR I sz k (i + 1) q = pkR I sz k i q := by
  unfold pkR
  by_cases z : 4 * q < i
  · rw [if_pos z, if_pos (by omega), show min 4 (i + 1 - 4 * q) = min 4 (i - 4 * q) by omega]
  · rw [if_neg z, if_neg (by omega)]
theorem pkR_20 (I : TI) (sz k q : Nat) (h : q < 5) : pkR I sz k 20 q = fdW I sz (k + 4 * q) := by
  unfold pkR
  rw [if_pos (by omega), show min 4 (20 - 4 * q) = 4 by omega]
  rfl
theorem fdB_cg {I J : TI} (h : J 437 = I 437) (sz i : Nat) : fdB J sz i = fdB I sz i := by
  unfold fdB
  rw [h]
theorem nI_d4 {i : Nat} (h : i < 2 ^ 31) : nI i / 4 = nI (i / 4) := pk_div (a := i) (d := 4) h (by omega) (by omega)
set_option maxHeartbeats 8000000 in
set_option maxRecDepth 100000 in
theorem feeds_in {G : GT} {b d t j sz : Nat} {J : TI} {M : TL} {Q : Int32 → TI → TL → Prop} {c0 s0 : Nat} (hj : 20 * j < sz) (hsz : sz ≤ 380) (h1 : J 436 1 = nI sz)
    (kk : ∀ I1 : TI, (∀ a, a ≠ 438 + j → I1 a = J a) → (∀ q, q < 5 → I1 (438 + j) q = fdW J sz (20 * j + 4 * q)) → V G Y_L_feeds 71 [(4, .int (nI 20)), (3, .ref (438 + j)), (2, .int (nI (20 * j))), (0, .ref 436), (1, .ref 0)] [] (I1, M, RT b d t, 437 + j) c0 s0 (fun v9 u9 => ∃ (r9 : Int32) (I9 : TI) (L9 : TL), v9 = some (.int r9) ∧ u9 = (I9, L9, RT b d t, 457) ∧ Q r9 I9 L9) (fun _ _ => False)) :
    ∀ (n i : Nat) (I1 : TI), i + n = 20 → (∀ a, a ≠ 438 + j → I1 a = J a) → (∀ q, q < 5 → I1 (438 + j) q = pkR J sz (20 * j) i q) → V G Y_L_feeds 17 [(4, .int (nI i)), (3, .ref (438 + j)), (2, .int (nI (20 * j))), (0, .ref 436), (1, .ref 0)] [] (I1, M, RT b d t, 437 + j) c0 s0 (fun v9 u9 => ∃ (r9 : Int32) (I9 : TI) (L9 : TL), v9 = some (.int r9) ∧ u9 = (I9, L9, RT b d t, 457) ∧ Q r9 I9 L9) (fun _ _ => False) := by
  have hlw : LAY (438 + j) = 27 := lay_w _ (by omega) (by omega)
  have hnw : LEN (438 + j) = 5 := ln_w _ (by omega) (by omega)
  have hsw : ST (438 + j) (437 + j) := st_w (by omega) (by omega)
  have hn4 : 436 ≤ 437 + j := by omega
  intro n
  induction n with
  | zero =>
    intro i I1 hi k1 k2
    have ei : i = 20 := by omega
    subst ei
    refine v_iload (pc' := 19) 11 0 rfl rfl rfl ?_
    refine v_bipush (v := 20) (pc' := 21) 12 rfl rfl (by decide) ?_
    refine v_icmp_ge (tgt := 71) (pc' := 24) 13 rfl rfl (by decide) (fun _ => ?_) (fun hc => absurd (nI_le (a := 20) (b := 20) (by omega) (by omega)) hc)
    exact kk I1 k1 (fun q hq => by rw [k2 q hq, pkR_20 J sz _ q hq])
  | succ n ih =>
    intro i I1 hi k1 k2
    have i20 : i < 20 := by omega
    refine v_iload (pc' := 19) 11 0 rfl rfl rfl ?_
    refine v_bipush (v := 20) (pc' := 21) 12 rfl rfl (by decide) ?_
    refine v_icmp_ge (tgt := 71) (pc' := 24) 13 rfl rfl (by decide) (fun hc => absurd ((nI_leI (a := 20) (b := i) (by omega) (by omega)).mp hc) (by omega)) (fun _ => ?_)
    refine v_aload_n (pc' := 25) 14 1 rfl rfl rfl rfl ?_
    refine v_iload (pc' := 27) 15 0 rfl rfl rfl ?_
    refine v_iconst (v := 4) (pc' := 28) 16 rfl rfl (by decide) ?_
    refine v_idiv (pc' := 29) 17 rfl rfl (by decide) ?_
    refine v_aload_n (pc' := 30) 18 1 rfl rfl rfl rfl ?_
    refine v_iload (pc' := 32) 19 0 rfl rfl rfl ?_
    refine v_iconst (v := 4) (pc' := 33) 20 rfl rfl (by decide) ?_
    refine v_idiv (pc' := 34) 21 rfl rfl (by decide) ?_
    have ed : nI i / 4 = nI (i / 4) := nI_d4 (by omega)
    refine v_iald7 (i := nI i / 4) (j := i / 4) (pc' := 35) 22 rfl rfl hlw hnw hsw (pk_in (i / 4) 5 (by omega) ed) (pk_cl (i / 4) ed (by omega)) ?_
    refine v_bipush (v := 8) (pc' := 37) 23 rfl rfl (by decide) ?_
    refine v_ishl (pc' := 38) 24 rfl rfl ?_
    refine v_iload_n (pc' := 39) 25 2 rfl rfl rfl rfl ?_
    refine v_iload (pc' := 41) 26 0 rfl rfl rfl ?_
    refine v_iadd (pc' := 42) 27 rfl rfl ?_
    refine v_aload_n (pc' := 43) 28 3 rfl rfl rfl rfl ?_
    refine v_getI (pc' := 46) 29 rfl rfl pf_L_19 ly_436 (lay_n ly_436 (by decide) hn4) ?_
    have e436 : I1 436 1 = nI sz := by rw [k1 436 (by omega), h1]
    have ea : nI (20 * j) + nI i = nI (20 * j + i) := nI_add _ _
    rw [e436, ea, k2 (i / 4) (by omega)]
    have fin : ∀ v : Int32, v = fdB J sz (20 * j + i) → V G Y_L_feeds 63 [(4, .int (nI i)), (3, .ref (438 + j)), (2, .int (nI (20 * j))), (0, .ref 436), (1, .ref 0)] [.int v, .int (pkR J sz (20 * j) i (i / 4) <<< ((8 : Int32) &&& 31)), .int (nI i / 4), .ref (438 + j)] (I1, M, RT b d t, 437 + j) c0 s0 (fun v9 u9 => ∃ (r9 : Int32) (I9 : TI) (L9 : TL), v9 = some (.int r9) ∧ u9 = (I9, L9, RT b d t, 457) ∧ Q r9 I9 L9) (fun _ _ => False) := by
      rintro _ rfl
      refine v_ior (pc' := 64) 39 rfl rfl ?_
      refine v_iast7 (i := nI i / 4) (j := i / 4) (pc' := 65) 40 rfl rfl hlw hnw hsw (pk_in (i / 4) 5 (by omega) ed) (pk_cl (i / 4) ed (by omega)) ?_
      refine v_iinc (v := (nI i + 1)) (ls' := [(4, .int (nI i + 1)), (3, .ref (438 + j)), (2, .int (nI (20 * j))), (0, .ref 436), (1, .ref 0)]) (pc' := 68) 41 0 rfl rfl rfl rfl (by decide) rfl ?_
      refine v_goto (tgt := 17) 42 rfl (by decide) ?_
      rw [nI_1]
      refine ih (i + 1) _ (by omega) (fun a ha => ?_) (fun q hq => ?_)
      · rw [up2_row ha, k1 a ha]
      · by_cases z : q = i / 4
        · subst z
          rw [up2_s, pkR_s, show ((8 : Int32) &&& 31) = 8 by decide]
        · rw [up2_n (Or.inr z), pkR_n _ _ _ _ _ z, k2 q hq]
    refine v_icmp_ge (tgt := 61) (pc' := 49) 30 rfl rfl (by decide) (fun hc => ?_) (fun hc => ?_)
    · have hc := (nI_leI (by omega) (by omega)).mp hc
      refine v_bipush (v := 32) (pc' := 63) 38 rfl rfl (by decide) ?_
      refine fin 32 ?_
      unfold fdB
      rw [if_neg (by omega)]
    · have hc2 : 20 * j + i < sz := by
        rcases Nat.lt_or_ge (20 * j + i) sz with q | q
        · exact q
        · exact absurd (nI_le q (by omega)) hc
      refine v_aload_n (pc' := 50) 31 3 rfl rfl rfl rfl ?_
      refine v_getR (t := 437) (pc' := 53) 32 rfl rfl pf_L_7 ly_436 (lay_n ly_436 (by decide) hn4) rt_436_0 ?_
      refine v_iload_n (pc' := 54) 33 2 rfl rfl rfl rfl ?_
      refine v_iload (pc' := 56) 34 0 rfl rfl rfl ?_
      refine v_iadd (pc' := 57) 35 rfl rfl ?_
      refine v_iald (i := nI (20 * j) + nI i) (j := 20 * j + i) (pc' := 58) 36 rfl rfl ly_437 ln_437 (lay_n ly_437 (by decide) hn4) (pk_in (20 * j + i) 600 (by omega) ea) (pk_cl (20 * j + i) ea (by omega)) ?_
      refine v_goto (tgt := 63) 37 rfl (by decide) ?_
      refine fin _ ?_
      unfold fdB
      rw [if_pos hc2, k1 437 (by omega)]
set_option maxHeartbeats 8000000 in
set_option maxRecDepth 100000 in
theorem feeds_out {G : GT} {b d t sz : Nat} {Q : Int32 → TI → TL → Prop} (hsz : sz ≤ 380) : ∀ (n j : Nat) (J : TI) (M : TL), 20 * j < sz + 20 → J 436 1 = nI sz → fdL Q sz n j J M → V G Y_L_feeds 2 [(2, .int (nI (20 * j))), (0, .ref 436), (1, .ref 0)] [] (J, M, RT b d t, 436 + j) j (5 * j) (fun v9 u9 => ∃ (r9 : Int32) (I9 : TI) (L9 : TL), v9 = some (.int r9) ∧ u9 = (I9, L9, RT b d t, 457) ∧ Q r9 I9 L9) (fun _ _ => False) := by
  intro n
  induction n with
  | zero => intro j J M _ _ h; exact h.elim
  | succ n ih =>
    intro j J M hj h1 h
    have hn4 : 436 ≤ 436 + j := by omega
    refine v_iload_n (pc' := 3) 2 0 rfl rfl rfl rfl ?_
    refine v_aload_n (pc' := 4) 3 1 rfl rfl rfl rfl ?_
    refine v_getI (pc' := 7) 4 rfl rfl pf_L_19 ly_436 (lay_n ly_436 (by decide) hn4) ?_
    rw [h1]
    refine v_icmp_ge (tgt := 97) (pc' := 10) 5 rfl rfl (by decide) (fun hc => ?_) (fun hc => ?_)
    · have hc := (nI_leI (by omega) (by omega)).mp hc
      refine v_forget (n := 436 + j) hn4 ?_
      refine v_aload_n (pc' := 98) 63 1 rfl rfl rfl rfl ?_
      refine v_getI (pc' := 101) 64 rfl rfl pf_L_19 ly_436 (lay_lt ly_436 (by decide)) ?_
      rw [h1]
      refine v_istore_n (ls' := [(2, .int (nI sz)), (0, .ref 436), (1, .ref 0)]) (pc' := 102) 65 rfl rfl rfl (by decide) rfl ?_
      refine v_aload_n (pc' := 103) 66 1 rfl rfl rfl rfl ?_
      refine v_iconst (v := 0) (pc' := 104) 67 rfl rfl (by decide) ?_
      refine v_putI (pc' := 107) 68 rfl rfl pf_L_19 (fun q => absurd q (by decide)) ly_436 (lay_lt ly_436 (by decide)) ?_
      refine v_iload_n (pc' := 108) 69 0 rfl rfl rfl rfl ?_
      exact v_iret 70 rfl rfl (show j ≤ 19 by omega) (show 5 * j ≤ 95 by omega) ⟨_, _, _, rfl, rfl, h.1 hc⟩
    · have hc2 : 20 * j < sz := by
        rcases Nat.lt_or_ge (20 * j) sz with q | q
        · exact q
        · exact absurd (nI_le q (by omega)) hc
      have h2 := h.2 hc2
      refine v_iconst (v := 5) (pc' := 11) 6 rfl rfl (by decide) ?_
      refine v_newa7 (N := 5) (pc' := 13) 7 rfl rfl gar_int rfl (by omega) (lay_w _ (by omega) (by omega)) (ln_w _ (by omega) (by omega)) (by omega) (by omega) (show j + 1 ≤ 19 by omega) (show 5 * j + 5 ≤ 95 by omega) ?_
      unfold nwv
      rw [rt_w (by omega), show 436 + j + 2 = 438 + j by omega, show 436 + j + 1 = 437 + j by omega]
      refine v_astore_n (ls' := [(3, .ref (438 + j)), (2, .int (nI (20 * j))), (0, .ref 436), (1, .ref 0)]) (pc' := 14) 8 rfl rfl rfl (by decide) rfl ?_
      refine v_iconst (v := 0) (pc' := 15) 9 rfl rfl (by decide) ?_
      refine v_istore (ls' := [(4, .int 0), (3, .ref (438 + j)), (2, .int (nI (20 * j))), (0, .ref 436), (1, .ref 0)]) (pc' := 17) 10 rfl rfl (by decide) rfl ?_
      refine feeds_in hc2 hsz h1 (fun I1 k1 k2 => ?_) 20 0 _ rfl (fun a ha => clr_n ha) (fun q hq => by rw [clr_s, pkR_0])
      have hlw : LAY (438 + j) = 27 := lay_w _ (by omega) (by omega)
      have hnw : LEN (438 + j) = 5 := ln_w _ (by omega) (by omega)
      have hsw : ST (438 + j) (437 + j) := st_w (by omega) (by omega)
      refine v_aload_n (pc' := 72) 43 4 rfl rfl rfl rfl ?_
      refine v_aload_n (pc' := 73) 44 1 rfl rfl rfl rfl ?_
      refine v_iconst (v := 0) (pc' := 74) 45 rfl rfl (by decide) ?_
      refine v_iald7 (i := 0) (j := 0) (pc' := 75) 46 rfl rfl hlw hnw hsw (vp_lit (by decide)) (by decide) ?_
      refine v_aload_n (pc' := 76) 47 1 rfl rfl rfl rfl ?_
      refine v_iconst (v := 1) (pc' := 77) 48 rfl rfl (by decide) ?_
      refine v_iald7 (i := 1) (j := 1) (pc' := 78) 49 rfl rfl hlw hnw hsw (vp_lit (by decide)) (by decide) ?_
      refine v_aload_n (pc' := 79) 50 1 rfl rfl rfl rfl ?_
      refine v_iconst (v := 2) (pc' := 80) 51 rfl rfl (by decide) ?_
      refine v_iald7 (i := 2) (j := 2) (pc' := 81) 52 rfl rfl hlw hnw hsw (vp_lit (by decide)) (by decide) ?_
      refine v_aload_n (pc' := 82) 53 1 rfl rfl rfl rfl ?_
      refine v_iconst (v := 3) (pc' := 83) 54 rfl rfl (by decide) ?_
      refine v_iald7 (i := 3) (j := 3) (pc' := 84) 55 rfl rfl hlw hnw hsw (vp_lit (by decide)) (by decide) ?_
      refine v_aload_n (pc' := 85) 56 1 rfl rfl rfl rfl ?_
      refine v_iconst (v := 4) (pc' := 86) 57 rfl rfl (by decide) ?_
      refine v_iald7 (i := 4) (j := 4) (pc' := 87) 58 rfl rfl hlw hnw hsw (vp_lit (by decide)) (by decide) ?_
      rw [k2 0 (by omega), k2 1 (by omega), k2 2 (by omega), k2 3 (by omega), k2 4 (by omega)]
      refine v_cV (Y2 := Y_X8_feed) (As := [.int (fdW J sz (20 * j)), .int (fdW J sz (20 * j + 4)), .int (fdW J sz (20 * j + 8)), .int (fdW J sz (20 * j + 12)), .int (fdW J sz (20 * j + 16))]) (b := 0) (pc' := 90) (c1 := j + 1) (s1 := 5 * j + 5) 59 rfl rfl mf_X8_feed rfl rfl ml_L_34 mi_X8_feed se_X8_feed (ci := 7) rfl ly_0 (lay_n ly_0 (by decide) (show 436 ≤ 437 + j by omega)) rfl (Nat.le_of_ble_eq_true rfl) ⟨show j + 1 + 0 ≤ 19 by omega, show 5 * j + 5 + 0 ≤ 95 by omega⟩ rfl rfl (ok_X8_feed (show 436 ≤ 437 + j by omega) _ _ _ _ _ I1 _ (h2 I1 (fun a ha => (k1 a ha)))) (fun _ _ q => q.elim) ?_
      intro v9 u9 hv9
      obtain ⟨r9, I9, rfl, rfl, g1, g2⟩ := hv9
      refine ⟨fun _ => rfl, ?_⟩
      show V G Y_L_feeds 90 _ (.int r9 :: _) _ _ _ _ _
      refine v_pop (pc' := 91) 60 rfl rfl rfl ?_
      refine v_iinc (v := (nI (20 * j) + 20)) (ls' := [(2, .int (nI (20 * j) + 20)), (4, .int (nI 20)), (3, .ref (438 + j)), (0, .ref 436), (1, .ref 0)]) (pc' := 94) 61 2 rfl rfl rfl rfl (by decide) rfl ?_
      refine v_goto (tgt := 2) 62 rfl (by decide) ?_
      refine V.sub [0, 3, 4] rfl ?_
      have e2 : nI (20 * j) + 20 = nI (20 * (j + 1)) := (nI_add (20 * j) 20).trans (by rw [show 20 * (j + 1) = 20 * j + 20 by omega])
      rw [e2, show 437 + j = 436 + (j + 1) by omega, show 5 * j + 5 = 5 * (j + 1) by omega]
      exact ih (j + 1) I9 _ (by omega) g1 g2
theorem ok_L_feeds {G : GT} {b d t : Nat} (I : TI) (L : TL) {Q : Int32 → TI → TL → Prop} (h : W_L_feeds I L Q) : MW G Y_L_feeds [.ref 436, .ref 0] (I, L, RT b d t, 436) (fun v9 u9 => ∃ (r9 : Int32) (I9 : TI) (L9 : TL), v9 = some (.int r9) ∧ u9 = (I9, L9, RT b d t, 457) ∧ Q r9 I9 L9) (fun _ _ => False) := by
  obtain ⟨n, sz, hsz, h1, h⟩ := h
  refine MW.intro rfl (by decide) is_L_feeds (Nat.le_of_ble_eq_true rfl) ?_
  show V G Y_L_feeds 0 [(0, .ref 436), (1, .ref 0)] [] (I, L, RT b d t, 436) 0 0 _ _
  refine v_iconst (v := 0) (pc' := 1) 0 rfl rfl (by decide) ?_
  refine v_istore_n (ls' := [(2, .int 0), (0, .ref 436), (1, .ref 0)]) (pc' := 2) 1 rfl rfl rfl (by decide) rfl ?_
  exact feeds_out hsz n 0 I L (by omega) h1 h
