/-! constructors: Tokens, QueryText, GlitchCourt -/
section CT3
theorem ly_345 : LAY 345 = 22 := by decide +kernel
theorem ln_345 : LEN 345 = 0 := by decide +kernel
variable {G : GT} {I : TI} {L : TL} {R : Nat → Nat → Option Nat} {nx : Nat}
/-- an object with its rows: what stays, and the references -/
def NT0 (a n : Nat) (I : TI) (L : TL) (R : Nat → Nat → Option Nat) (I' : TI) (L' : TL) (R' : Nat → Nat → Option Nat) : Prop :=
  (∀ q, q < a ∨ 436 ≤ q → I' q = I q) ∧ (∀ q, q < a → L' q = L q) ∧ (∀ q, q < a ∨ a + n ≤ q → R' q = R q) ∧ (∀ q, a ≤ q → q < a + n → R' q = W0 q)
theorem ok_X7_init (hr : ∀ j, R 344 j = none) : MW G Y_X7_init [.ref 344] (I, L, R, 345) (fun v9 u9 => v9 = none ∧ ∃ I9 L9 R9, u9 = (I9, L9, R9, 346) ∧ NT0 344 2 I L R I9 L9 R9) (fun _ _ => False) := by
  refine MW.intro rfl (by decide) is_X7_init (Nat.le_of_ble_eq_true rfl) ?_
  show V G Y_X7_init 0 [(0, .ref 344)] [] (I, L, R, 345) 0 0 _ _
  refine v_aload_n (pc' := 1) 0 0 rfl rfl rfl rfl ?_
  refine v_obj (pc' := 4) 1 rfl rfl ml_X7_3 mi_Obj co_Obj (by decide) (by decide) ?_
  refine v_aload_n (pc' := 5) 2 0 rfl rfl rfl rfl ?_
  refine v_iconst (v := 0) (pc' := 6) 3 rfl rfl (by decide) ?_
  refine v_newa (t := 2) (N := 0) (pc' := 8) 4 rfl rfl (by decide) rfl ar_byte rfl (by decide) ly_345 ln_345 (by decide) (by decide) (by decide) ?_
  refine v_putR (pc' := 11) 5 rfl rfl pf_X7_9 (fun q => absurd q (by decide)) ly_344 (st_c (by decide) (by decide)) ?_
  refine v_aload_n (pc' := 12) 6 0 rfl rfl rfl rfl ?_
  refine v_iconst (v := 0) (pc' := 13) 7 rfl rfl (by decide) ?_
  refine v_putI (pc' := 16) 8 rfl rfl pf_X7_15 (fun q => absurd q (by decide)) ly_344 (st_c (by decide) (by decide)) ?_
  refine v_aload_n (pc' := 17) 9 0 rfl rfl rfl rfl ?_
  refine v_iconst (v := 0) (pc' := 18) 10 rfl rfl (by decide) ?_
  refine v_putI (pc' := 21) 11 rfl rfl pf_X7_19 (fun q => absurd q (by decide)) ly_344 (st_c (by decide) (by decide)) ?_
  refine v_aload_n (pc' := 22) 12 0 rfl rfl rfl rfl ?_
  refine v_iconst (v := 0) (pc' := 23) 13 rfl rfl (by decide) ?_
  refine v_putI (pc' := 26) 14 rfl rfl pf_X7_22 (fun q => absurd q (by decide)) ly_344 (st_c (by decide) (by decide)) ?_
  refine v_aload_n (pc' := 27) 15 0 rfl rfl rfl rfl ?_
  refine v_iconst (v := 0) (pc' := 28) 16 rfl rfl (by decide) ?_
  refine v_putI (pc' := 31) 17 rfl rfl pf_X7_25 (fun q => absurd q (by decide)) ly_344 (st_c (by decide) (by decide)) ?_
  refine v_aload_n (pc' := 32) 18 0 rfl rfl rfl rfl ?_
  refine v_iconst (v := 0) (pc' := 33) 19 rfl rfl (by decide) ?_
  refine v_putI (pc' := 36) 20 rfl rfl pf_X7_28 (fun q => absurd q (by decide)) ly_344 (st_c (by decide) (by decide)) ?_
  refine v_aload_n (pc' := 37) 21 0 rfl rfl rfl rfl ?_
  refine v_iconst (v := 0) (pc' := 38) 22 rfl rfl (by decide) ?_
  refine v_putI (pc' := 41) 23 rfl rfl pf_X7_31 (fun q => absurd q (by decide)) ly_344 (st_c (by decide) (by decide)) ?_
  refine v_aload_n (pc' := 42) 24 0 rfl rfl rfl rfl ?_
  refine v_iconst (v := -1) (pc' := 43) 25 rfl rfl (by decide) ?_
  refine v_putI (pc' := 46) 26 rfl rfl pf_X7_34 (fun q => absurd q (by decide)) ly_344 (st_c (by decide) (by decide)) ?_
  refine v_vret 27 rfl rfl (by decide) (by decide) ⟨rfl, _, _, _, rfl, fun q hq => ?_, fun q hq => ?_, fun q hq => ?_, fun q q1 q2 => ?_⟩
  · repeat (first | rw [up2_row (by omega)] | rw [clr_s] | rw [clr_n (by omega)])
  · repeat (first | rw [up2_row (by omega)] | rw [clr_s] | rw [clr_n (by omega)])
  · repeat (first | rw [up2_row (by omega)] | rw [clr_s] | rw [clr_n (by omega)])
  · funext j
    have w : q = 344 ∨ q = 345 := by omega
    rcases w with rfl | rfl
    · by_cases z : j = 0
      · subst z
        repeat (first | rw [up2_s] | rw [up2_n (by omega)] | rw [clr_s] | rw [clr_n (by omega)])
        exact rt_344_0.symm
      · repeat (first | rw [up2_s] | rw [up2_n (by omega)] | rw [clr_s] | rw [clr_n (by omega)])
        rw [hr]
        match j, z with
        | j + 1, _ => rfl
    · repeat (first | rw [up2_row (by omega)] | rw [clr_s] | rw [clr_n (by omega)])
      rw [W0_n (by decide) (by decide), RS_no ly_345 (by omega)]
theorem ok_X5_init (hr : ∀ j, R 346 j = none) : MW G Y_X5_init [.ref 346] (I, L, R, 347) (fun v9 u9 => v9 = none ∧ ∃ I9 L9 R9, u9 = (I9, L9, R9, 350) ∧ NT0 346 4 I L R I9 L9 R9) (fun _ _ => False) := by
  refine MW.intro rfl (by decide) is_X5_init (Nat.le_of_ble_eq_true rfl) ?_
  show V G Y_X5_init 0 [(0, .ref 346)] [] (I, L, R, 347) 0 0 _ _
  refine v_aload_n (pc' := 1) 0 0 rfl rfl rfl rfl ?_
  refine v_obj (pc' := 4) 1 rfl rfl ml_X5_3 mi_Obj co_Obj (by decide) (by decide) ?_
  refine v_aload_n (pc' := 5) 2 0 rfl rfl rfl rfl ?_
  refine v_bipush (v := 6) (pc' := 7) 3 rfl rfl (by decide) ?_
  refine v_newa (t := 3) (N := 6) (pc' := 9) 4 rfl rfl (by decide) rfl ar_boolean rfl (by decide) ly_347 ln_347 (by decide) (by decide) (by decide) ?_
  refine v_putR (pc' := 12) 5 rfl rfl pf_X5_9 (fun _ => ⟨rfl, fun _ _ _ h => by cases h; rfl⟩) ly_346 (st_c (by decide) (by decide)) ?_
  refine v_aload_n (pc' := 13) 6 0 rfl rfl rfl rfl ?_
  refine v_bipush (v := 6) (pc' := 15) 7 rfl rfl (by decide) ?_
  refine v_newa (t := 0) (N := 6) (pc' := 17) 8 rfl rfl (by decide) rfl ar_int rfl (by decide) ly_348 ln_348 (by decide) (by decide) (by decide) ?_
  refine v_putR (pc' := 20) 9 rfl rfl pf_X5_15 (fun _ => ⟨rfl, fun _ _ _ h => by cases h; rfl⟩) ly_346 (st_c (by decide) (by decide)) ?_
  refine v_aload_n (pc' := 21) 10 0 rfl rfl rfl rfl ?_
  refine v_bipush (v := 6) (pc' := 23) 11 rfl rfl (by decide) ?_
  refine v_newa (t := 0) (N := 6) (pc' := 25) 12 rfl rfl (by decide) rfl ar_int rfl (by decide) ly_349 ln_349 (by decide) (by decide) (by decide) ?_
  refine v_putR (pc' := 28) 13 rfl rfl pf_X5_19 (fun _ => ⟨rfl, fun _ _ _ h => by cases h; rfl⟩) ly_346 (st_c (by decide) (by decide)) ?_
  refine v_aload_n (pc' := 29) 14 0 rfl rfl rfl rfl ?_
  refine v_iconst (v := 0) (pc' := 30) 15 rfl rfl (by decide) ?_
  refine v_putI (pc' := 33) 16 rfl rfl pf_X5_22 (fun q => absurd q (by decide)) ly_346 (st_c (by decide) (by decide)) ?_
  refine v_aload_n (pc' := 34) 17 0 rfl rfl rfl rfl ?_
  refine v_iconst (v := 0) (pc' := 35) 18 rfl rfl (by decide) ?_
  refine v_putI (pc' := 38) 19 rfl rfl pf_X5_26 (fun q => absurd q (by decide)) ly_346 (st_c (by decide) (by decide)) ?_
  refine v_aload_n (pc' := 39) 20 0 rfl rfl rfl rfl ?_
  refine v_iconst (v := 0) (pc' := 40) 21 rfl rfl (by decide) ?_
  refine v_putI (pc' := 43) 22 rfl rfl pf_X5_29 (fun q => absurd q (by decide)) ly_346 (st_c (by decide) (by decide)) ?_
  refine v_aload_n (pc' := 44) 23 0 rfl rfl rfl rfl ?_
  refine v_iconst (v := 0) (pc' := 45) 24 rfl rfl (by decide) ?_
  refine v_putI (pc' := 48) 25 rfl rfl pf_X5_32 (fun q => absurd q (by decide)) ly_346 (st_c (by decide) (by decide)) ?_
  refine v_vret 26 rfl rfl (by decide) (by decide) ⟨rfl, _, _, _, rfl, fun q hq => ?_, fun q hq => ?_, fun q hq => ?_, fun q q1 q2 => ?_⟩
  · repeat (first | rw [up2_row (by omega)] | rw [clr_s] | rw [clr_n (by omega)])
  · repeat (first | rw [up2_row (by omega)] | rw [clr_s] | rw [clr_n (by omega)])
  · repeat (first | rw [up2_row (by omega)] | rw [clr_s] | rw [clr_n (by omega)])
  · funext j
    have w : q = 346 ∨ q = 347 ∨ q = 348 ∨ q = 349 := by omega
    rcases w with rfl | rfl | rfl | rfl
    · have j3 : j = 0 ∨ j = 1 ∨ j = 2 ∨ 3 ≤ j := by omega
      rcases j3 with rfl | rfl | rfl | j3
      · repeat (first | rw [up2_s] | rw [up2_n (by omega)] | rw [clr_s] | rw [clr_n (by omega)])
        exact rt_346_0.symm
      · repeat (first | rw [up2_s] | rw [up2_n (by omega)] | rw [clr_s] | rw [clr_n (by omega)])
        exact rt_346_1.symm
      · repeat (first | rw [up2_s] | rw [up2_n (by omega)] | rw [clr_s] | rw [clr_n (by omega)])
        exact rt_346_2.symm
      · repeat (first | rw [up2_s] | rw [up2_n (by omega)] | rw [clr_s] | rw [clr_n (by omega)])
        rw [hr, W0_n (by decide) (by decide)]
        unfold RS
        rw [ly_346]
        show none = (if j < 3 then some (347 + j) else none)
        rw [if_neg (by omega)]
    · repeat (first | rw [up2_row (by omega)] | rw [clr_s] | rw [clr_n (by omega)])
      rw [W0_n (by decide) (by decide), RS_no ly_347 (by omega)]
    · repeat (first | rw [up2_row (by omega)] | rw [clr_s] | rw [clr_n (by omega)])
      rw [W0_n (by decide) (by decide), RS_no ly_348 (by omega)]
    · repeat (first | rw [up2_row (by omega)] | rw [clr_s] | rw [clr_n (by omega)])
      rw [W0_n (by decide) (by decide), RS_no ly_349 (by omega)]
def GT0 (I' : TI) (L' : TL) (R' : Nat → Nat → Option Nat) : Prop :=
  (∀ q, q < 436 → R' q = W0 q) ∧ (I' 1 2 = 0 ∧ I' 1 3 = 0 ∧ I' 1 4 = 0) ∧ (I' 0 7 = 0 ∧ I' 0 8 = 0 ∧ I' 0 9 = -1) ∧ (I' 353 4 = 1 ∧ I' 353 5 = 0 ∧ I' 353 6 = 4 ∧ I' 353 7 = 1 ∧ I' 353 8 = 1 ∧ ∀ n, I' 357 n = 0) ∧
  (I' 358 7 = 0 ∧ I' 358 8 = 1 ∧ (∀ p, I' 367 p = 0) ∧ ∀ p, L' 363 p = 0 ∧ L' 364 p = 0 ∧ L' 365 p = 0 ∧ L' 366 p = 0) ∧ (∀ n, L' 389 n = 0 ∧ L' 390 n = 0 ∧ L' 391 n = 0) ∧ ∀ n, I' 393 n = 0
theorem ok_X8_init (hr : ∀ j, R 0 j = none) : MW G Y_X8_init [.ref 0] (I, L, R, 1) (fun v9 u9 => v9 = none ∧ ∃ I9 L9 R9, u9 = (I9, L9, R9, 436) ∧ GT0 I9 L9 R9 ∧ (∀ q, 436 ≤ q → I9 q = I q) ∧ ∀ q, 436 ≤ q → R9 q = R q) (fun _ _ => False) := by
  refine MW.intro rfl (by decide) is_X8_init (Nat.le_of_ble_eq_true rfl) ?_
  show V G Y_X8_init 0 [(0, .ref 0)] [] (I, L, R, 1) 0 0 _ _
  refine v_aload_n (pc' := 1) 0 0 rfl rfl rfl rfl ?_
  refine v_obj (pc' := 4) 1 rfl rfl ml_X8_1 mi_Obj co_Obj (by decide) (by decide) ?_
  refine v_aload_n (pc' := 5) 2 0 rfl rfl rfl rfl ?_
  refine v_new (ci := 3) (pc' := 8) 3 rfl rfl rfl cl_X8_7 ic_X4 it_X4 ly_1 (by decide) (by decide) (by decide) ?_
  refine v_dup (pc' := 9) 4 rfl rfl rfl ?_
  refine v_cI (Y2 := Y_X4_init) (As := []) (b := 1) (pc' := 12) (c1 := 343) (s1 := 3260) 5 rfl rfl mf_X4_init rfl rfl ml_X8_9 mi_X4_init rfl rfl (st_c (Nat.lt_succ_self _) (show 1 + 1 ≤ 436 by omega)) rfl (Nat.le_of_ble_eq_true rfl) ⟨by decide, by decide⟩ rfl rfl (ok_X4_init (fun j => clr_s)) (fun _ _ q => q.elim) ?_
  intro v9 u9 hv9
  obtain ⟨rfl, I1, L1, R1, rfl, a1, a2, a3, a4, a5, a6, a7⟩ := hv9
  refine ⟨fun _ => rfl, ?_⟩
  refine v_putR (pc' := 15) 6 rfl rfl pf_X8_10 (fun _ => ⟨rfl, fun _ _ _ h => by cases h; rfl⟩) ly_0 (st_c (by decide) (by decide)) ?_
  refine v_aload_n (pc' := 16) 7 0 rfl rfl rfl rfl ?_
  refine v_new (ci := 6) (pc' := 19) 8 rfl rfl rfl cl_X8_16 ic_X7 it_X7 ly_344 (by decide) (by decide) (by decide) ?_
  refine v_dup (pc' := 20) 9 rfl rfl rfl ?_
  refine v_cNI (Y2 := Y_X7_init) (As := []) (b := 344) (pc' := 23) (c1 := 345) (s1 := 3268) 10 rfl rfl mf_X7_init rfl rfl nt_X8_18 mi_X7_init rfl rfl (st_c (Nat.lt_succ_self _) (show 344 + 1 ≤ 436 by omega)) rfl (Nat.le_of_ble_eq_true rfl) ⟨by decide, by decide⟩ rfl rfl (ok_X7_init (fun j => clr_s)) (fun _ _ q => q.elim) ?_
  intro v9 u9 hv9
  obtain ⟨rfl, I2, L2, R2, rfl, b1, b2, b3, b4⟩ := hv9
  refine ⟨fun _ => rfl, ?_⟩
  refine v_putR (pc' := 26) 11 rfl rfl pf_X8_19 (fun _ => ⟨rfl, fun _ _ _ h => by cases h; rfl⟩) ly_0 (st_c (by decide) (by decide)) ?_
  refine v_aload_n (pc' := 27) 12 0 rfl rfl rfl rfl ?_
  refine v_new (ci := 4) (pc' := 30) 13 rfl rfl rfl cl_X8_23 ic_X5 it_X5 ly_346 (by decide) (by decide) (by decide) ?_
  refine v_dup (pc' := 31) 14 rfl rfl rfl ?_
  refine v_cNI (Y2 := Y_X5_init) (As := []) (b := 346) (pc' := 34) (c1 := 349) (s1 := 3293) 15 rfl rfl mf_X5_init rfl rfl nt_X8_25 mi_X5_init rfl rfl (st_c (Nat.lt_succ_self _) (show 346 + 1 ≤ 436 by omega)) rfl (Nat.le_of_ble_eq_true rfl) ⟨by decide, by decide⟩ rfl rfl (ok_X5_init (fun j => clr_s)) (fun _ _ q => q.elim) ?_
  intro v9 u9 hv9
  obtain ⟨rfl, I3, L3, R3, rfl, c1, c2, c3, c4⟩ := hv9
  refine ⟨fun _ => rfl, ?_⟩
  refine v_putR (pc' := 37) 16 rfl rfl pf_X8_26 (fun _ => ⟨rfl, fun _ _ _ h => by cases h; rfl⟩) ly_0 (st_c (by decide) (by decide)) ?_
  refine v_aload_n (pc' := 38) 17 0 rfl rfl rfl rfl ?_
  refine v_sipush (v := 600) (pc' := 41) 18 rfl rfl (by decide) ?_
  refine v_newa (t := 2) (N := 600) (pc' := 43) 19 rfl rfl (by decide) rfl ar_byte rfl (by decide) ly_350 ln_350 (by decide) (by decide) (by decide) ?_
  refine v_putR (pc' := 46) 20 rfl rfl pf_X8_30 (fun _ => ⟨rfl, fun _ _ _ h => by cases h; rfl⟩) ly_0 (st_c (by decide) (by decide)) ?_
  refine v_aload_n (pc' := 47) 21 0 rfl rfl rfl rfl ?_
  refine v_bipush (v := 61) (pc' := 49) 22 rfl rfl (by decide) ?_
  refine v_newa (t := 2) (N := 61) (pc' := 51) 23 rfl rfl (by decide) rfl ar_byte rfl (by decide) ly_351 ln_351 (by decide) (by decide) (by decide) ?_
  refine v_putR (pc' := 54) 24 rfl rfl pf_X8_34 (fun _ => ⟨rfl, fun _ _ _ h => by cases h; rfl⟩) ly_0 (st_c (by decide) (by decide)) ?_
  refine v_aload_n (pc' := 55) 25 0 rfl rfl rfl rfl ?_
  refine v_new (ci := 0) (pc' := 58) 26 rfl rfl rfl cl_X8_37 ic_X0 it_X0 (bn0l (Or.inl rfl)) (by decide) (by decide) (by decide) ?_
  refine v_dup (pc' := 59) 27 rfl rfl rfl ?_
  refine v_cNI (Y2 := Y_X0_init) (As := []) (b := 352) (pc' := 62) (c1 := 393) (s1 := 4409) 28 rfl rfl mf_X0_init rfl rfl nt_X8_39 mi_X0_init rfl rfl (st_c (Nat.lt_succ_self _) (show 352 + 1 ≤ 436 by omega)) rfl (Nat.le_of_ble_eq_true rfl) ⟨by decide, by decide⟩ rfl rfl (ok_X0_init (Or.inl rfl) (fun j => clr_s)) (fun _ _ q => q.elim) ?_
  intro v9 u9 hv9
  obtain ⟨rfl, I4, L4, R4, rfl, d1, d2, d3, d4, d5, d6, d7, d8⟩ := hv9
  refine ⟨fun _ => rfl, ?_⟩
  refine v_putR (pc' := 65) 29 rfl rfl pf_X8_40 (fun q => absurd q (by decide)) ly_0 (st_c (by decide) (by decide)) ?_
  refine v_aload_n (pc' := 66) 30 0 rfl rfl rfl rfl ?_
  refine v_new (ci := 0) (pc' := 69) 31 rfl rfl rfl cl_X8_37 ic_X0 it_X0 (bn0l (Or.inr rfl)) (by decide) (by decide) (by decide) ?_
  refine v_dup (pc' := 70) 32 rfl rfl rfl ?_
  refine v_cNI (Y2 := Y_X0_init) (As := []) (b := 394) (pc' := 73) (c1 := 435) (s1 := 4864) 33 rfl rfl mf_X0_init rfl rfl nt_X8_39 mi_X0_init rfl rfl (st_c (Nat.lt_succ_self _) (show 394 + 1 ≤ 436 by omega)) rfl (Nat.le_of_ble_eq_true rfl) ⟨by decide, by decide⟩ rfl rfl (ok_X0_init (Or.inr rfl) (fun j => clr_s)) (fun _ _ q => q.elim) ?_
  intro v9 u9 hv9
  obtain ⟨rfl, I5, L5, R5, rfl, e1, e2, e3, e4, -⟩ := hv9
  refine ⟨fun _ => rfl, ?_⟩
  refine v_putR (pc' := 76) 34 rfl rfl pf_X8_44 (fun q => absurd q (by decide)) ly_0 (st_c (by decide) (by decide)) ?_
  refine v_aload_n (pc' := 77) 35 0 rfl rfl rfl rfl ?_
  refine v_iconst (v := 0) (pc' := 78) 36 rfl rfl (by decide) ?_
  refine v_putI (pc' := 81) 37 rfl rfl pf_X8_47 (fun q => absurd q (by decide)) ly_0 (st_c (by decide) (by decide)) ?_
  refine v_aload_n (pc' := 82) 38 0 rfl rfl rfl rfl ?_
  refine v_iconst (v := 0) (pc' := 83) 39 rfl rfl (by decide) ?_
  refine v_putI (pc' := 86) 40 rfl rfl pf_X8_51 (fun q => absurd q (by decide)) ly_0 (st_c (by decide) (by decide)) ?_
  refine v_aload_n (pc' := 87) 41 0 rfl rfl rfl rfl ?_
  refine v_iconst (v := -1) (pc' := 88) 42 rfl rfl (by decide) ?_
  refine v_putI (pc' := 91) 43 rfl rfl pf_X8_54 (fun q => absurd q (by decide)) ly_0 (st_c (by decide) (by decide)) ?_
  -- rows above a row, as they were
  have f5 : ∀ q, 436 ≤ q → R5 q = R q := fun q hq => by
    rw [e3 q (by omega)]
    repeat (first | rw [up2_row (by omega)] | rw [clr_s] | rw [clr_n (by omega)])
    rw [d3 q (by omega)]
    repeat (first | rw [up2_row (by omega)] | rw [clr_s] | rw [clr_n (by omega)])
    rw [c3 q (by omega)]
    repeat (first | rw [up2_row (by omega)] | rw [clr_s] | rw [clr_n (by omega)])
    rw [b3 q (by omega)]
    repeat (first | rw [up2_row (by omega)] | rw [clr_s] | rw [clr_n (by omega)])
    rw [a3 q (by omega)]
    repeat (first | rw [up2_row (by omega)] | rw [clr_s] | rw [clr_n (by omega)])
  have i1 : ∀ q, q < 344 ∨ 436 ≤ q → I4 q = I1 q := fun q hq => by
    rw [d1 q (by omega)]
    repeat (first | rw [up2_row (by omega)] | rw [clr_s] | rw [clr_n (by omega)])
    rw [c1 q (by omega)]
    repeat (first | rw [up2_row (by omega)] | rw [clr_s] | rw [clr_n (by omega)])
    rw [b1 q (by omega)]
    repeat (first | rw [up2_row (by omega)] | rw [clr_s] | rw [clr_n (by omega)])
  have i4 : ∀ q, q < 394 ∨ 436 ≤ q → I5 q = I4 q := fun q hq => by
    rw [e1 q (by omega)]
    repeat (first | rw [up2_row (by omega)] | rw [clr_s] | rw [clr_n (by omega)])
  have l4 : ∀ q, q < 394 → L5 q = L4 q := fun q hq => by
    rw [e2 q (by omega)]
    repeat (first | rw [up2_row (by omega)] | rw [clr_s] | rw [clr_n (by omega)])
  refine v_vret 44 rfl rfl (by decide) (by decide) ⟨rfl, _, _, _, rfl, ⟨fun q hq => ?_, ⟨?_, ?_, ?_⟩, ⟨?_, ?_, ?_⟩, ⟨?_, ?_, ?_, ?_, ?_, fun n => ?_⟩, ⟨?_, ?_, fun p => ?_, fun p => ⟨?_, ?_, ?_, ?_⟩⟩, fun n => ⟨?_, ?_, ?_⟩, fun n => ?_⟩, fun q hq => ?_, fun q hq => ?_⟩
  · funext j
    by_cases w0 : q = 0
    · subst w0
      have j7 : j = 0 ∨ j = 1 ∨ j = 2 ∨ j = 3 ∨ j = 4 ∨ j = 5 ∨ j = 6 ∨ 7 ≤ j := by omega
      have down : (∀ j, 3 ≤ j → R3 0 j = none) ∧ R3 0 0 = some 1 ∧ R3 0 1 = some 344 ∧ R3 0 2 = none := by
        refine ⟨fun j hj => ?_, ?_, ?_, ?_⟩
        · rw [c3 0 (by omega)]
          repeat (first | rw [up2_s] | rw [up2_n (by omega)] | rw [clr_s] | rw [clr_n (by omega)])
          rw [b3 0 (by omega)]
          repeat (first | rw [up2_s] | rw [up2_n (by omega)] | rw [clr_s] | rw [clr_n (by omega)])
          rw [a3 0 (by omega), clr_n (by omega)]
          exact hr j
        · rw [c3 0 (by omega)]
          repeat (first | rw [up2_s] | rw [up2_n (by omega)] | rw [clr_s] | rw [clr_n (by omega)])
          rw [b3 0 (by omega)]
          repeat (first | rw [up2_s] | rw [up2_n (by omega)] | rw [clr_s] | rw [clr_n (by omega)])
        · rw [c3 0 (by omega)]
          repeat (first | rw [up2_s] | rw [up2_n (by omega)] | rw [clr_s] | rw [clr_n (by omega)])
        · rw [c3 0 (by omega)]
          repeat (first | rw [up2_s] | rw [up2_n (by omega)] | rw [clr_s] | rw [clr_n (by omega)])
          rw [b3 0 (by omega)]
          repeat (first | rw [up2_s] | rw [up2_n (by omega)] | rw [clr_s] | rw [clr_n (by omega)])
          rw [a3 0 (by omega), clr_n (by omega)]
          exact hr 2
      rcases j7 with rfl | rfl | rfl | rfl | rfl | rfl | rfl | j7
      · repeat (first | rw [up2_s] | rw [up2_n (by omega)] | rw [clr_s] | rw [clr_n (by omega)])
        rw [e3 0 (by omega)]
        repeat (first | rw [up2_s] | rw [up2_n (by omega)] | rw [clr_s] | rw [clr_n (by omega)])
        rw [d3 0 (by omega)]
        repeat (first | rw [up2_s] | rw [up2_n (by omega)] | rw [clr_s] | rw [clr_n (by omega)])
        exact down.2.1
      · repeat (first | rw [up2_s] | rw [up2_n (by omega)] | rw [clr_s] | rw [clr_n (by omega)])
        rw [e3 0 (by omega)]
        repeat (first | rw [up2_s] | rw [up2_n (by omega)] | rw [clr_s] | rw [clr_n (by omega)])
        rw [d3 0 (by omega)]
        repeat (first | rw [up2_s] | rw [up2_n (by omega)] | rw [clr_s] | rw [clr_n (by omega)])
        exact down.2.2.1
      · repeat (first | rw [up2_s] | rw [up2_n (by omega)] | rw [clr_s] | rw [clr_n (by omega)])
        rw [e3 0 (by omega)]
        repeat (first | rw [up2_s] | rw [up2_n (by omega)] | rw [clr_s] | rw [clr_n (by omega)])
        rw [d3 0 (by omega)]
        repeat (first | rw [up2_s] | rw [up2_n (by omega)] | rw [clr_s] | rw [clr_n (by omega)])
        rfl
      · repeat (first | rw [up2_s] | rw [up2_n (by omega)] | rw [clr_s] | rw [clr_n (by omega)])
        rw [e3 0 (by omega)]
        repeat (first | rw [up2_s] | rw [up2_n (by omega)] | rw [clr_s] | rw [clr_n (by omega)])
        rw [d3 0 (by omega)]
        repeat (first | rw [up2_s] | rw [up2_n (by omega)] | rw [clr_s] | rw [clr_n (by omega)])
        rfl
      · repeat (first | rw [up2_s] | rw [up2_n (by omega)] | rw [clr_s] | rw [clr_n (by omega)])
        rw [e3 0 (by omega)]
        repeat (first | rw [up2_s] | rw [up2_n (by omega)] | rw [clr_s] | rw [clr_n (by omega)])
        rw [d3 0 (by omega)]
        repeat (first | rw [up2_s] | rw [up2_n (by omega)] | rw [clr_s] | rw [clr_n (by omega)])
        rfl
      · repeat (first | rw [up2_s] | rw [up2_n (by omega)] | rw [clr_s] | rw [clr_n (by omega)])
        rw [e3 0 (by omega)]
        repeat (first | rw [up2_s] | rw [up2_n (by omega)] | rw [clr_s] | rw [clr_n (by omega)])
        rfl
      · repeat (first | rw [up2_s] | rw [up2_n (by omega)] | rw [clr_s] | rw [clr_n (by omega)])
        rfl
      · repeat (first | rw [up2_s] | rw [up2_n (by omega)] | rw [clr_s] | rw [clr_n (by omega)])
        rw [e3 0 (by omega)]
        repeat (first | rw [up2_s] | rw [up2_n (by omega)] | rw [clr_s] | rw [clr_n (by omega)])
        rw [d3 0 (by omega)]
        repeat (first | rw [up2_s] | rw [up2_n (by omega)] | rw [clr_s] | rw [clr_n (by omega)])
        rw [down.1 j (by omega)]
        match j, j7 with
        | j + 7, _ => rfl
    · rw [up2_row w0]
      by_cases w1 : 394 ≤ q
      · rw [e4 q w1 (by omega)]
      · rw [e3 q (by omega)]
        rw [clr_n (by omega), up2_row w0]
        by_cases w2 : 352 ≤ q
        · rw [d4 q w2 (by omega)]
        · rw [d3 q (by omega)]
          by_cases w3 : q = 351
          · subst w3
            repeat (first | rw [up2_row (by omega)] | rw [clr_s] | rw [clr_n (by omega)])
            rw [W0_n (by decide) (by decide), RS_no ly_351 (by omega)]
          · by_cases w4 : q = 350
            · subst w4
              repeat (first | rw [up2_row (by omega)] | rw [clr_s] | rw [clr_n (by omega)])
              rw [W0_n (by decide) (by decide), RS_no ly_350 (by omega)]
            · repeat (first | rw [up2_row (by omega)] | rw [clr_n (by omega)])
              by_cases w5 : 346 ≤ q
              · rw [c4 q w5 (by omega)]
              · rw [c3 q (by omega)]
                repeat (first | rw [up2_row (by omega)] | rw [clr_n (by omega)])
                by_cases w6 : 344 ≤ q
                · rw [b4 q w6 (by omega)]
                · rw [b3 q (by omega)]
                  repeat (first | rw [up2_row (by omega)] | rw [clr_n (by omega)])
                  rw [a4 q (by omega) (by omega)]
  · repeat (first | rw [up2_row (by omega)])
    rw [i4 1 (by omega), i1 1 (by omega)]; exact a5
  · repeat (first | rw [up2_row (by omega)])
    rw [i4 1 (by omega), i1 1 (by omega)]; exact a6
  · repeat (first | rw [up2_row (by omega)])
    rw [i4 1 (by omega), i1 1 (by omega)]; exact a7
  · repeat (first | rw [up2_s] | rw [up2_n (by omega)] | rw [clr_s] | rw [clr_n (by omega)])
  · repeat (first | rw [up2_s] | rw [up2_n (by omega)] | rw [clr_s] | rw [clr_n (by omega)])
  · repeat (first | rw [up2_s] | rw [up2_n (by omega)] | rw [clr_s] | rw [clr_n (by omega)])
  · repeat (first | rw [up2_row (by omega)])
    rw [i4 353 (by omega)]; exact d5.1
  · repeat (first | rw [up2_row (by omega)])
    rw [i4 353 (by omega)]; exact d5.2.1
  · repeat (first | rw [up2_row (by omega)])
    rw [i4 353 (by omega)]; exact d5.2.2.1
  · repeat (first | rw [up2_row (by omega)])
    rw [i4 353 (by omega)]; exact d5.2.2.2.1
  · repeat (first | rw [up2_row (by omega)])
    rw [i4 353 (by omega)]; exact d5.2.2.2.2.1
  · repeat (first | rw [up2_row (by omega)])
    rw [i4 357 (by omega)]; exact d5.2.2.2.2.2 n
  · repeat (first | rw [up2_row (by omega)])
    rw [i4 358 (by omega)]; exact d6.1
  · repeat (first | rw [up2_row (by omega)])
    rw [i4 358 (by omega)]; exact d6.2.1
  · repeat (first | rw [up2_row (by omega)])
    rw [i4 367 (by omega)]; exact d6.2.2.1 p
  · rw [l4 363 (by omega)]; exact (d6.2.2.2 p).1
  · rw [l4 364 (by omega)]; exact (d6.2.2.2 p).2.1
  · rw [l4 365 (by omega)]; exact (d6.2.2.2 p).2.2.1
  · rw [l4 366 (by omega)]; exact (d6.2.2.2 p).2.2.2
  · rw [l4 389 (by omega)]; exact (d7 n).1
  · rw [l4 390 (by omega)]; exact (d7 n).2.1
  · rw [l4 391 (by omega)]; exact (d7 n).2.2
  · repeat (first | rw [up2_row (by omega)])
    rw [i4 393 (by omega)]; exact d8 n
  · rw [up2_row (by omega), up2_row (by omega), up2_row (by omega), i4 q (by omega), i1 q (by omega), a1 q (by omega)]
    repeat (first | rw [up2_row (by omega)] | rw [clr_s] | rw [clr_n (by omega)])
  · rw [up2_row (by omega)]
    exact f5 q hq
end CT3
