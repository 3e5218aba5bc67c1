/-! constructors: Circuit, Bench, History, Tokens, QueryText, GlitchCourt -/
section CT2
variable {G : GT} {I : TI} {L : TL} {R : Nat → Nat → Option Nat} {nx : Nat}
theorem bn_rng {b : Nat} (h : bnOK b) : 352 ≤ b ∧ b + 42 ≤ 436 := by rcases h with rfl | rfl <;> omega
def CT0 (b : Nat) (I : TI) (L : TL) (R : Nat → Nat → Option Nat) (I' : TI) (L' : TL) (R' : Nat → Nat → Option Nat) : Prop :=
  (∀ q, q < b + 1 ∨ 436 ≤ q → I' q = I q) ∧ (∀ q, q < b + 1 → L' q = L q) ∧ (∀ q, q < b + 1 ∨ b + 6 ≤ q → R' q = R q) ∧ (∀ q, b + 1 ≤ q → q < b + 6 → R' q = W0 q) ∧ I' (b + 1) 4 = 1 ∧ I' (b + 1) 5 = 0 ∧ I' (b + 1) 6 = 4 ∧ I' (b + 1) 7 = 1 ∧ I' (b + 1) 8 = 1 ∧ ∀ n, I' (b + 5) n = 0
theorem ok_X2_init {b : Nat} (hb : bnOK b) (hr : ∀ j, R (b + 1) j = none) : MW G Y_X2_init [.ref (b + 1)] (I, L, R, b + 2) (fun v9 u9 => v9 = none ∧ ∃ I9 L9 R9, u9 = (I9, L9, R9, b + 6) ∧ CT0 b I L R I9 L9 R9) (fun _ _ => False) := by
  obtain ⟨g1, g2⟩ := bn_rng hb
  refine MW.intro rfl (by decide) is_X2_init (Nat.le_of_ble_eq_true rfl) ?_
  show V G Y_X2_init 0 [(0, .ref (b + 1))] [] (I, L, R, b + 2) 0 0 _ _
  refine v_aload_n (pc' := 1) 0 0 rfl rfl rfl rfl ?_
  refine v_obj (pc' := 4) 1 rfl rfl ml_X2_3 mi_Obj co_Obj (by decide) (by decide) ?_
  refine v_aload_n (pc' := 5) 2 0 rfl rfl rfl rfl ?_
  refine v_bipush (v := 16) (pc' := 7) 3 rfl rfl (by decide) ?_
  refine v_newa (t := 0) (N := 16) (pc' := 9) 4 rfl rfl (by decide) rfl ar_int rfl (by decide) (bn2l hb) (bn2n hb) (by omega) (by decide) (by decide) ?_
  refine v_putR (pc' := 12) 5 rfl rfl pf_X2_9 (fun _ => ⟨rfl, fun _ _ _ h => by cases h; rfl⟩) (bn1l hb) (st_c (by omega) (by omega)) ?_
  refine v_aload_n (pc' := 13) 6 0 rfl rfl rfl rfl ?_
  refine v_bipush (v := 16) (pc' := 15) 7 rfl rfl (by decide) ?_
  refine v_newa (t := 0) (N := 16) (pc' := 17) 8 rfl rfl (by decide) rfl ar_int rfl (by decide) (bn3l hb) (bn3n hb) (by omega) (by decide) (by decide) ?_
  refine v_putR (pc' := 20) 9 rfl rfl pf_X2_15 (fun _ => ⟨rfl, fun _ _ _ h => by cases h; rfl⟩) (bn1l hb) (st_c (by omega) (by omega)) ?_
  refine v_aload_n (pc' := 21) 10 0 rfl rfl rfl rfl ?_
  refine v_bipush (v := 16) (pc' := 23) 11 rfl rfl (by decide) ?_
  refine v_newa (t := 0) (N := 16) (pc' := 25) 12 rfl rfl (by decide) rfl ar_int rfl (by decide) (bn4l hb) (bn4n hb) (by omega) (by decide) (by decide) ?_
  refine v_putR (pc' := 28) 13 rfl rfl pf_X2_18 (fun _ => ⟨rfl, fun _ _ _ h => by cases h; rfl⟩) (bn1l hb) (st_c (by omega) (by omega)) ?_
  refine v_aload_n (pc' := 29) 14 0 rfl rfl rfl rfl ?_
  refine v_bipush (v := 16) (pc' := 31) 15 rfl rfl (by decide) ?_
  refine v_newa (t := 0) (N := 16) (pc' := 33) 16 rfl rfl (by decide) rfl ar_int rfl (by decide) (bn5l hb) (bn5n hb) (by omega) (by decide) (by decide) ?_
  refine v_putR (pc' := 36) 17 rfl rfl pf_X2_21 (fun _ => ⟨rfl, fun _ _ _ h => by cases h; rfl⟩) (bn1l hb) (st_c (by omega) (by omega)) ?_
  refine v_aload_n (pc' := 37) 18 0 rfl rfl rfl rfl ?_
  refine v_iconst (v := 1) (pc' := 38) 19 rfl rfl (by decide) ?_
  refine v_putI (pc' := 41) 20 rfl rfl pf_X2_24 (fun q => absurd q (by decide)) (bn1l hb) (st_c (by omega) (by omega)) ?_
  refine v_aload_n (pc' := 42) 21 0 rfl rfl rfl rfl ?_
  refine v_iconst (v := 0) (pc' := 43) 22 rfl rfl (by decide) ?_
  refine v_putI (pc' := 46) 23 rfl rfl pf_X2_28 (fun q => absurd q (by decide)) (bn1l hb) (st_c (by omega) (by omega)) ?_
  refine v_aload_n (pc' := 47) 24 0 rfl rfl rfl rfl ?_
  refine v_iconst (v := 4) (pc' := 48) 25 rfl rfl (by decide) ?_
  refine v_putI (pc' := 51) 26 rfl rfl pf_X2_31 (fun q => absurd q (by decide)) (bn1l hb) (st_c (by omega) (by omega)) ?_
  refine v_aload_n (pc' := 52) 27 0 rfl rfl rfl rfl ?_
  refine v_iconst (v := 1) (pc' := 53) 28 rfl rfl (by decide) ?_
  refine v_putI (pc' := 56) 29 rfl rfl pf_X2_34 (fun q => absurd q (by decide)) (bn1l hb) (st_c (by omega) (by omega)) ?_
  refine v_aload_n (pc' := 57) 30 0 rfl rfl rfl rfl ?_
  refine v_iconst (v := 1) (pc' := 58) 31 rfl rfl (by decide) ?_
  refine v_putI (pc' := 61) 32 rfl rfl pf_X2_37 (fun q => absurd q (by decide)) (bn1l hb) (st_c (by omega) (by omega)) ?_
  refine v_vret 33 rfl rfl (by decide) (by decide) ⟨rfl, _, _, _, rfl, fun q hq => ?_, fun q hq => ?_, fun q hq => ?_, fun q q1 q2 => ?_, ?_, ?_, ?_, ?_, ?_, fun n => ?_⟩
  · repeat (first | rw [up2_row (by omega)] | rw [clr_n (by omega)])
  · repeat (first | rw [clr_n (by omega)])
  · repeat (first | rw [up2_row (by omega)] | rw [clr_n (by omega)])
  · funext j
    have w : q = b + 1 ∨ q = b + 2 ∨ q = b + 3 ∨ q = b + 4 ∨ q = b + 5 := by omega
    rcases w with rfl | rfl | rfl | rfl | rfl
    · have j4 : j = 0 ∨ j = 1 ∨ j = 2 ∨ j = 3 ∨ 4 ≤ j := by omega
      rcases j4 with rfl | rfl | rfl | rfl | j4
      · repeat (first | rw [up2_s] | rw [up2_n (by omega)] | rw [clr_s] | rw [clr_n (by omega)])
        exact (rt_ck_0 (bn_ck hb)).symm
      · repeat (first | rw [up2_s] | rw [up2_n (by omega)] | rw [clr_s] | rw [clr_n (by omega)])
        exact (rt_ck_1 (bn_ck hb)).symm
      · repeat (first | rw [up2_s] | rw [up2_n (by omega)] | rw [clr_s] | rw [clr_n (by omega)])
        exact (rt_ck_2 (bn_ck hb)).symm
      · repeat (first | rw [up2_s] | rw [up2_n (by omega)] | rw [clr_s] | rw [clr_n (by omega)])
        exact (rt_ck_3 (bn_ck hb)).symm
      · repeat (first | rw [up2_s] | rw [up2_n (by omega)] | rw [clr_s] | rw [clr_n (by omega)])
        rw [hr, W0_n (by omega) (by omega)]
        unfold RS
        rw [bn1l hb]
        show none = (if j < 4 then some (b + 1 + 1 + j) else none)
        rw [if_neg (by omega)]
    · repeat (first | rw [up2_row (by omega)] | rw [clr_s] | rw [clr_n (by omega)])
      rw [W0_n (by omega) (by omega), RS_no (bn2l hb) (by omega)]
    · repeat (first | rw [up2_row (by omega)] | rw [clr_s] | rw [clr_n (by omega)])
      rw [W0_n (by omega) (by omega), RS_no (bn3l hb) (by omega)]
    · repeat (first | rw [up2_row (by omega)] | rw [clr_s] | rw [clr_n (by omega)])
      rw [W0_n (by omega) (by omega), RS_no (bn4l hb) (by omega)]
    · repeat (first | rw [up2_row (by omega)] | rw [clr_s] | rw [clr_n (by omega)])
      rw [W0_n (by omega) (by omega), RS_no (bn5l hb) (by omega)]
  · repeat (first | rw [up2_s] | rw [up2_n (by omega)] | rw [clr_s] | rw [clr_n (by omega)])
  · repeat (first | rw [up2_s] | rw [up2_n (by omega)] | rw [clr_s] | rw [clr_n (by omega)])
  · repeat (first | rw [up2_s] | rw [up2_n (by omega)] | rw [clr_s] | rw [clr_n (by omega)])
  · repeat (first | rw [up2_s] | rw [up2_n (by omega)] | rw [clr_s] | rw [clr_n (by omega)])
  · repeat (first | rw [up2_s] | rw [up2_n (by omega)] | rw [clr_s] | rw [clr_n (by omega)])
  · repeat (first | rw [up2_row (by omega)] | rw [clr_s] | rw [clr_n (by omega)])
def BT0 (b : Nat) (I : TI) (L : TL) (R : Nat → Nat → Option Nat) (I' : TI) (L' : TL) (R' : Nat → Nat → Option Nat) : Prop :=
  (∀ q, q < b ∨ 436 ≤ q → I' q = I q) ∧ (∀ q, q < b → L' q = L q) ∧ (∀ q, q < b ∨ b + 42 ≤ q → R' q = R q) ∧ (∀ q, b ≤ q → q < b + 42 → R' q = W0 q) ∧ (I' (b + 1) 4 = 1 ∧ I' (b + 1) 5 = 0 ∧ I' (b + 1) 6 = 4 ∧ I' (b + 1) 7 = 1 ∧ I' (b + 1) 8 = 1 ∧ ∀ n, I' (b + 5) n = 0) ∧
  (I' (b + 6) 7 = 0 ∧ I' (b + 6) 8 = 1 ∧ (∀ p, I' (b + 15) p = 0) ∧ ∀ p, L' (b + 11) p = 0 ∧ L' (b + 12) p = 0 ∧ L' (b + 13) p = 0 ∧ L' (b + 14) p = 0) ∧ (∀ n, L' (b + 37) n = 0 ∧ L' (b + 38) n = 0 ∧ L' (b + 39) n = 0) ∧ ∀ n, I' (b + 41) n = 0
theorem ok_X0_init {b : Nat} (hb : bnOK b) (hr : ∀ j, R b j = none) : MW G Y_X0_init [.ref b] (I, L, R, b + 1) (fun v9 u9 => v9 = none ∧ ∃ I9 L9 R9, u9 = (I9, L9, R9, b + 42) ∧ BT0 b I L R I9 L9 R9) (fun _ _ => False) := by
  obtain ⟨g1, g2⟩ := bn_rng hb
  have hs := bn_st hb
  have s0 := st0l hs
  refine MW.intro rfl (by decide) is_X0_init (Nat.le_of_ble_eq_true rfl) ?_
  show V G Y_X0_init 0 [(0, .ref b)] [] (I, L, R, b + 1) 0 0 _ _
  refine v_aload_n (pc' := 1) 0 0 rfl rfl rfl rfl ?_
  refine v_obj (pc' := 4) 1 rfl rfl ml_X0_3 mi_Obj co_Obj (by decide) (by decide) ?_
  refine v_aload_n (pc' := 5) 2 0 rfl rfl rfl rfl ?_
  refine v_new (ci := 1) (pc' := 8) 3 rfl rfl rfl cl_X0_9 ic_X2 it_X2 (bn1l hb) (by omega) (by decide) (by decide) ?_
  refine v_dup (pc' := 9) 4 rfl rfl rfl ?_
  refine v_cNI (Y2 := Y_X2_init) (As := []) (b := b + 1) (pc' := 12) (c1 := 5) (s1 := 73) 5 rfl rfl mf_X2_init rfl rfl nt_X0_11 mi_X2_init rfl rfl (st_c (Nat.lt_succ_self _) (show b + 1 + 1 ≤ 436 by omega)) rfl (Nat.le_of_ble_eq_true rfl) ⟨by decide, by decide⟩ rfl rfl (ok_X2_init hb (fun j => clr_s)) (fun _ _ q => q.elim) ?_
  intro v9 u9 hv9
  obtain ⟨rfl, I1, L1, R1, rfl, a1, a2, a3, a4, a5, a6, a7, a8, a9, a10⟩ := hv9
  refine ⟨fun _ => rfl, ?_⟩
  refine v_putR (pc' := 15) 6 rfl rfl pf_X0_12 (fun _ => ⟨rfl, fun _ _ _ h => by cases h; rfl⟩) (bn0l hb) (st_c (by omega) (by omega)) ?_
  refine v_aload_n (pc' := 16) 7 0 rfl rfl rfl rfl ?_
  refine v_new (ci := 5) (pc' := 19) 8 rfl rfl rfl cl_X0_18 ic_X6 it_X6 s0 (by omega) (by decide) (by decide) ?_
  refine v_dup (pc' := 20) 9 rfl rfl rfl ?_
  refine v_cI (Y2 := Y_X6_init) (As := []) (b := b + 6) (pc' := 23) (c1 := 36) (s1 := 368) 10 rfl rfl mf_X6_init rfl rfl ml_X0_20 mi_X6_init rfl rfl (st_c (Nat.lt_succ_self _) (show b + 6 + 1 ≤ 436 by omega)) rfl (Nat.le_of_ble_eq_true rfl) ⟨by decide, by decide⟩ rfl rfl (ok_X6_init hs (fun j => clr_s)) (fun _ _ q => q.elim) ?_
  intro v9 u9 hv9
  obtain ⟨rfl, I2, L2, R2, rfl, b1, b2, b3, b4, b5, b6, b7, b8⟩ := hv9
  refine ⟨fun _ => rfl, ?_⟩
  refine v_putR (pc' := 26) 11 rfl rfl pf_X0_21 (fun _ => ⟨rfl, fun _ _ _ h => by cases h; rfl⟩) (bn0l hb) (st_c (by omega) (by omega)) ?_
  refine v_aload_n (pc' := 27) 12 0 rfl rfl rfl rfl ?_
  refine v_bipush (v := 16) (pc' := 29) 13 rfl rfl (by decide) ?_
  refine v_newa (t := 1) (N := 16) (pc' := 31) 14 rfl rfl (by decide) rfl ar_long rfl (by decide) (bn37l hb) (bn37n hb) (by omega) (by decide) (by decide) ?_
  refine v_putR (pc' := 34) 15 rfl rfl pf_X0_25 (fun _ => ⟨rfl, fun _ _ _ h => by cases h; rfl⟩) (bn0l hb) (st_c (by omega) (by omega)) ?_
  refine v_aload_n (pc' := 35) 16 0 rfl rfl rfl rfl ?_
  refine v_bipush (v := 16) (pc' := 37) 17 rfl rfl (by decide) ?_
  refine v_newa (t := 1) (N := 16) (pc' := 39) 18 rfl rfl (by decide) rfl ar_long rfl (by decide) (bn38l hb) (bn38n hb) (by omega) (by decide) (by decide) ?_
  refine v_putR (pc' := 42) 19 rfl rfl pf_X0_29 (fun _ => ⟨rfl, fun _ _ _ h => by cases h; rfl⟩) (bn0l hb) (st_c (by omega) (by omega)) ?_
  refine v_aload_n (pc' := 43) 20 0 rfl rfl rfl rfl ?_
  refine v_bipush (v := 16) (pc' := 45) 21 rfl rfl (by decide) ?_
  refine v_newa (t := 1) (N := 16) (pc' := 47) 22 rfl rfl (by decide) rfl ar_long rfl (by decide) (bn39l hb) (bn39n hb) (by omega) (by decide) (by decide) ?_
  refine v_putR (pc' := 50) 23 rfl rfl pf_X0_32 (fun _ => ⟨rfl, fun _ _ _ h => by cases h; rfl⟩) (bn0l hb) (st_c (by omega) (by omega)) ?_
  refine v_aload_n (pc' := 51) 24 0 rfl rfl rfl rfl ?_
  refine v_bipush (v := 16) (pc' := 53) 25 rfl rfl (by decide) ?_
  refine v_newa (t := 1) (N := 16) (pc' := 55) 26 rfl rfl (by decide) rfl ar_long rfl (by decide) (bn40l hb) (bn40n hb) (by omega) (by decide) (by decide) ?_
  refine v_putR (pc' := 58) 27 rfl rfl pf_X0_35 (fun _ => ⟨rfl, fun _ _ _ h => by cases h; rfl⟩) (bn0l hb) (st_c (by omega) (by omega)) ?_
  refine v_aload_n (pc' := 59) 28 0 rfl rfl rfl rfl ?_
  refine v_bipush (v := 16) (pc' := 61) 29 rfl rfl (by decide) ?_
  refine v_newa (t := 0) (N := 16) (pc' := 63) 30 rfl rfl (by decide) rfl ar_int rfl (by decide) (bn41l hb) (bn41n hb) (by omega) (by decide) (by decide) ?_
  refine v_putR (pc' := 66) 31 rfl rfl pf_X0_38 (fun _ => ⟨rfl, fun _ _ _ h => by cases h; rfl⟩) (bn0l hb) (st_c (by omega) (by omega)) ?_
  have e1 : ∀ q, q < b + 6 ∨ 436 ≤ q → I2 q = I1 q := fun q hq => by rw [b1 q hq, clr_n (by omega)]
  refine v_vret 32 rfl rfl (by decide) (by decide) ⟨rfl, _, _, _, rfl, fun q hq => ?_, fun q hq => ?_, fun q hq => ?_, fun q q1 q2 => ?_, ⟨?_, ?_, ?_, ?_, ?_, fun n => ?_⟩, ⟨?_, ?_, fun p => ?_, fun p => ⟨?_, ?_, ?_, ?_⟩⟩, fun n => ⟨?_, ?_, ?_⟩, fun n => ?_⟩
  · repeat (first | rw [clr_n (by omega)])
    rw [e1 q (by omega), a1 q (by omega), clr_n (by omega)]
  · repeat (first | rw [clr_n (by omega)])
    rw [b2 q (by omega), clr_n (by omega), a2 q (by omega), clr_n (by omega)]
  · repeat (first | rw [up2_row (by omega)] | rw [clr_n (by omega)])
    rw [b3 q (by omega)]
    repeat (first | rw [up2_row (by omega)] | rw [clr_n (by omega)])
    rw [a3 q (by omega), clr_n (by omega)]
  · funext j
    by_cases w1 : q = b
    · subst w1
      have j7 : j = 0 ∨ j = 1 ∨ j = 2 ∨ j = 3 ∨ j = 4 ∨ j = 5 ∨ j = 6 ∨ 7 ≤ j := by omega
      rcases j7 with rfl | rfl | rfl | rfl | rfl | rfl | rfl | j7
      · repeat (first | rw [up2_s] | rw [up2_n (by omega)] | rw [clr_s] | rw [clr_n (by omega)])
        rw [b3 q (by omega)]
        repeat (first | rw [up2_s] | rw [up2_n (by omega)] | rw [clr_s] | rw [clr_n (by omega)])
        exact (rt_bn_0 hb).symm
      · repeat (first | rw [up2_s] | rw [up2_n (by omega)] | rw [clr_s] | rw [clr_n (by omega)])
        exact (rt_bn_1 hb).symm
      · repeat (first | rw [up2_s] | rw [up2_n (by omega)] | rw [clr_s] | rw [clr_n (by omega)])
        exact (rt_bn_2 hb).symm
      · repeat (first | rw [up2_s] | rw [up2_n (by omega)] | rw [clr_s] | rw [clr_n (by omega)])
        exact (rt_bn_3 hb).symm
      · repeat (first | rw [up2_s] | rw [up2_n (by omega)] | rw [clr_s] | rw [clr_n (by omega)])
        exact (rt_bn_4 hb).symm
      · repeat (first | rw [up2_s] | rw [up2_n (by omega)] | rw [clr_s] | rw [clr_n (by omega)])
        exact (rt_bn_5 hb).symm
      · repeat (first | rw [up2_s] | rw [up2_n (by omega)] | rw [clr_s] | rw [clr_n (by omega)])
        exact (rt_bn_6 hb).symm
      · repeat (first | rw [up2_s] | rw [up2_n (by omega)] | rw [clr_s] | rw [clr_n (by omega)])
        rw [b3 q (by omega)]
        repeat (first | rw [up2_s] | rw [up2_n (by omega)] | rw [clr_s] | rw [clr_n (by omega)])
        rw [a3 q (by omega), clr_n (by omega), hr, W0_n (by omega) (by omega)]
        unfold RS
        rw [bn0l hb]
        match j, j7 with
        | j + 7, _ => rfl
    · by_cases w2 : q < b + 6
      · repeat (first | rw [up2_row (by omega)] | rw [clr_n (by omega)])
        rw [b3 q (by omega)]
        repeat (first | rw [up2_row (by omega)] | rw [clr_n (by omega)])
        rw [a4 q (by omega) (by omega)]
      · by_cases w3 : q < b + 37
        · repeat (first | rw [up2_row (by omega)] | rw [clr_n (by omega)])
          rw [b4 q (by omega) (by omega)]
        · have w : q = b + 37 ∨ q = b + 38 ∨ q = b + 39 ∨ q = b + 40 ∨ q = b + 41 := by omega
          rcases w with rfl | rfl | rfl | rfl | rfl
          · repeat (first | rw [up2_row (by omega)] | rw [clr_s] | rw [clr_n (by omega)])
            rw [W0_n (by omega) (by omega), RS_no (bn37l hb) (by omega)]
          · repeat (first | rw [up2_row (by omega)] | rw [clr_s] | rw [clr_n (by omega)])
            rw [W0_n (by omega) (by omega), RS_no (bn38l hb) (by omega)]
          · repeat (first | rw [up2_row (by omega)] | rw [clr_s] | rw [clr_n (by omega)])
            rw [W0_n (by omega) (by omega), RS_no (bn39l hb) (by omega)]
          · repeat (first | rw [up2_row (by omega)] | rw [clr_s] | rw [clr_n (by omega)])
            rw [W0_n (by omega) (by omega), RS_no (bn40l hb) (by omega)]
          · repeat (first | rw [up2_row (by omega)] | rw [clr_s] | rw [clr_n (by omega)])
            rw [W0_n (by omega) (by omega), RS_no (bn41l hb) (by omega)]
  · repeat (first | rw [clr_n (by omega)])
    rw [e1 _ (by omega)]; exact a5
  · repeat (first | rw [clr_n (by omega)])
    rw [e1 _ (by omega)]; exact a6
  · repeat (first | rw [clr_n (by omega)])
    rw [e1 _ (by omega)]; exact a7
  · repeat (first | rw [clr_n (by omega)])
    rw [e1 _ (by omega)]; exact a8
  · repeat (first | rw [clr_n (by omega)])
    rw [e1 _ (by omega)]; exact a9
  · repeat (first | rw [clr_n (by omega)])
    rw [e1 _ (by omega)]; exact a10 n
  · repeat (first | rw [clr_n (by omega)])
    exact b5
  · repeat (first | rw [clr_n (by omega)])
    exact b6
  · repeat (first | rw [clr_n (by omega)])
    exact b7 p
  · repeat (first | rw [clr_n (by omega)])
    exact (b8 p).1
  · repeat (first | rw [clr_n (by omega)])
    exact (b8 p).2.1
  · repeat (first | rw [clr_n (by omega)])
    exact (b8 p).2.2.1
  · repeat (first | rw [clr_n (by omega)])
    exact (b8 p).2.2.2
  · repeat (first | rw [clr_s] | rw [clr_n (by omega)])
  · repeat (first | rw [clr_s] | rw [clr_n (by omega)])
  · repeat (first | rw [clr_s] | rw [clr_n (by omega)])
  · exact clr_s
def HL0 (i : Nat) (I : TI) (L : TL) (R : Nat → Nat → Option Nat) (I' : TI) (L' : TL) (R' : Nat → Nat → Option Nat) : Prop :=
  (∀ q, q < 1 ∨ 436 ≤ q → I' q = I q) ∧ (∀ q, q < 1 → L' q = L q) ∧ (∀ q, q < 1 ∨ 344 ≤ q → R' q = R q) ∧ (∀ q, 1 ≤ q → q < 34 + 31 * i → q ≠ 2 → R' q = W0 q) ∧ (∀ j, R' 2 j = if j < i then some (34 + 31 * j) else none) ∧ I' 1 2 = 0 ∧ I' 1 3 = 0 ∧ I' 1 4 = 0
def HT0 (I : TI) (L : TL) (R : Nat → Nat → Option Nat) (I' : TI) (L' : TL) (R' : Nat → Nat → Option Nat) : Prop :=
  (∀ q, q < 1 ∨ 436 ≤ q → I' q = I q) ∧ (∀ q, q < 1 → L' q = L q) ∧ (∀ q, q < 1 ∨ 344 ≤ q → R' q = R q) ∧ (∀ q, 1 ≤ q → q < 344 → R' q = W0 q) ∧ I' 1 2 = 0 ∧ I' 1 3 = 0 ∧ I' 1 4 = 0
theorem hi_loop : ∀ (n i : Nat) (I' : TI) (L' : TL) (R' : Nat → Nat → Option Nat), i + n = 10 → HL0 i I L R I' L' R' → V G Y_X4_init 41 [(0, .ref 1), (1, .int (nI i))] [] (I', L', R', 34 + 31 * i) (32 + 31 * i) (305 + 295 * i) (fun v9 u9 => v9 = none ∧ ∃ I9 L9 R9, u9 = (I9, L9, R9, 344) ∧ HT0 I L R I9 L9 R9) (fun _ _ => False)
  | n, i, I', L', R', hi, h => by
    obtain ⟨h1, h2, h3, h4, h5, h6, h7, h8⟩ := h
    refine v_iload_n (pc' := 42) 22 1 rfl rfl rfl rfl ?_
    refine v_bipush (v := 10) (pc' := 44) 23 rfl rfl (by decide) ?_
    refine v_icmp_ge (tgt := 66) (pc' := 47) 24 rfl rfl (by decide) (fun hc => ?_) (fun hc => ?_)
    · have : 10 ≤ i := (nI_leI (a := 10) (b := i) (by omega) (by omega)).mp hc
      have ei : i = 10 := by omega
      subst ei
      refine v_vret 34 rfl rfl (by decide) (by decide) ⟨rfl, I', L', R', rfl, h1, h2, h3, fun q q1 q2 => ?_, h6, h7, h8⟩
      by_cases z : q = 2
      · subst z
        funext j
        rw [h5, W0_n (by decide) (by decide)]
        unfold RS
        rw [ly_2]
        rfl
      · exact h4 q q1 (by omega) z
    · match n, hi with
      | 0, hi => exact absurd (nI_le (a := 10) (b := i) (by omega) (by omega)) hc
      | n + 1, hi =>
        have r0 : R' 1 0 = some 2 := by
          rw [h4 1 (Nat.le_refl _) (by omega) (by decide)]
          exact rt_1_0
        have hs : stOK (34 + 31 * i) := hs_st (by omega)
        have s0 := st0l hs
        refine v_aload_n (pc' := 48) 25 0 rfl rfl rfl rfl ?_
        refine v_getR (t := 2) (pc' := 51) 26 rfl rfl pf_X4_11 ly_1 (st_c (by omega) (by omega)) r0 ?_
        refine v_iload_n (pc' := 52) 27 1 rfl rfl rfl rfl ?_
        refine v_new (ci := 5) (pc' := 55) 28 rfl rfl rfl cl_X4_9 ic_X6 it_X6 s0 (by omega) (by show 32 + 31 * i + 1 ≤ 342; omega) (by show 305 + 295 * i + 9 ≤ 3255; omega) ?_
        refine v_dup (pc' := 56) 29 rfl rfl rfl ?_
        refine v_cI (Y2 := Y_X6_init) (As := []) (b := 34 + 31 * i) (pc' := 59) (c1 := 32 + 31 * i + 1 + 30) (s1 := 305 + 295 * i + 9 + 286) 30 rfl rfl mf_X6_init rfl rfl ml_X4_17 mi_X6_init rfl rfl (st_c (Nat.lt_succ_self _) (show 34 + 31 * i + 1 ≤ 436 by omega)) rfl (Nat.le_of_ble_eq_true rfl) ⟨by show 32 + 31 * i + 1 + 30 ≤ 342; omega, by show 305 + 295 * i + 9 + 286 ≤ 3255; omega⟩ rfl rfl (ok_X6_init hs (fun j => clr_s)) (fun _ _ q => q.elim) ?_
        intro v9 u9 hv9
        obtain ⟨rfl, I2, L2, R2, rfl, b1, b2, b3, b4, b5, b6, b7, b8⟩ := hv9
        refine ⟨fun _ => rfl, ?_⟩
        refine v_aast4 (i := nI i) (n := 10) (pc' := 60) 31 rfl rfl ly_2 ln_2 (st_c (by omega) (by omega)) s0 (st_c (by omega) (by omega)) (pk_in i 10 (by omega) rfl) (pk_cl i rfl (by omega)) ?_
        refine v_iinc (v := nI i + 1) (ls' := [(1, .int (nI i + 1)), (0, .ref 1)]) (pc' := 63) 32 1 rfl rfl rfl rfl (by decide) rfl ?_
        refine v_goto (tgt := 41) 33 rfl (by decide) ?_
        refine V.sub [1, 0] rfl ?_
        rw [nI_1]
        rw [show 32 + 31 * i + 1 + 30 = 32 + 31 * (i + 1) by omega, show 305 + 295 * i + 9 + 286 = 305 + 295 * (i + 1) by omega, show 34 + 31 * i + 31 = 34 + 31 * (i + 1) by omega]
        refine hi_loop n (i + 1) _ _ _ (by omega) ⟨fun q hq => ?_, fun q hq => ?_, fun q hq => ?_, fun q q1 q2 q3 => ?_, fun j => ?_, ?_, ?_, ?_⟩
        · rw [b1 q (by omega), clr_n (by omega)]; exact h1 q hq
        · rw [b2 q (by omega), clr_n (by omega)]; exact h2 q hq
        · rw [up2_row (by omega), b3 q (by omega), clr_n (by omega)]; exact h3 q hq
        · rw [up2_row q3]
          by_cases z : q < 34 + 31 * i
          · rw [b3 q (by omega), clr_n (by omega)]; exact h4 q q1 z q3
          · exact b4 q (by omega) (by omega)
        · rw [up2_at, b3 2 (by omega), clr_n (by omega)]
          by_cases z : j = i
          · rw [if_pos z, z, if_pos (Nat.lt_succ_self _)]
          · rw [if_neg z, h5 j]
            by_cases z2 : j < i
            · rw [if_pos z2, if_pos (by omega)]
            · rw [if_neg z2, if_neg (by omega)]
        · rw [b1 1 (by omega), clr_n (by omega)]; exact h6
        · rw [b1 1 (by omega), clr_n (by omega)]; exact h7
        · rw [b1 1 (by omega), clr_n (by omega)]; exact h8
theorem ok_X4_init (hr : ∀ j, R 1 j = none) : MW G Y_X4_init [.ref 1] (I, L, R, 2) (fun v9 u9 => v9 = none ∧ ∃ I9 L9 R9, u9 = (I9, L9, R9, 344) ∧ HT0 I L R I9 L9 R9) (fun _ _ => False) := by
  refine MW.intro rfl (by decide) is_X4_init (Nat.le_of_ble_eq_true rfl) ?_
  show V G Y_X4_init 0 [(0, .ref 1)] [] (I, L, R, 2) 0 0 _ _
  refine v_aload_n (pc' := 1) 0 0 rfl rfl rfl rfl ?_
  refine v_obj (pc' := 4) 1 rfl rfl ml_X4_3 mi_Obj co_Obj (by decide) (by decide) ?_
  refine v_aload_n (pc' := 5) 2 0 rfl rfl rfl rfl ?_
  refine v_bipush (v := 10) (pc' := 7) 3 rfl rfl (by decide) ?_
  refine v_newq (t := 4) (N := 10) (C9 := "GlitchCourt$State") (pc' := 10) 4 rfl rfl (Or.inl ⟨rfl, rfl⟩) cl_X4_9 rfl (by decide) ly_2 ln_2 (by decide) (by decide) (by decide) ?_
  refine v_putR (pc' := 13) 5 rfl rfl pf_X4_11 (fun _ => ⟨rfl, fun _ _ _ h => by cases h; rfl⟩) ly_1 (st_c (by decide) (by decide)) ?_
  refine v_aload_n (pc' := 14) 6 0 rfl rfl rfl rfl ?_
  refine v_new (ci := 5) (pc' := 17) 7 rfl rfl rfl cl_X4_9 ic_X6 it_X6 ly_3 (by decide) (by decide) (by decide) ?_
  refine v_dup (pc' := 18) 8 rfl rfl rfl ?_
  refine v_cI (Y2 := Y_X6_init) (As := []) (b := 3) (pc' := 21) (c1 := 32) (s1 := 305) 9 rfl rfl mf_X6_init rfl rfl ml_X4_17 mi_X6_init rfl rfl (st_c (Nat.lt_succ_self _) (show 3 + 1 ≤ 436 by omega)) rfl (Nat.le_of_ble_eq_true rfl) ⟨by decide, by decide⟩ rfl rfl (ok_X6_init st_3 (fun j => clr_s)) (fun _ _ q => q.elim) ?_
  intro v9 u9 hv9
  obtain ⟨rfl, I2, L2, R2, rfl, b1, b2, b3, b4, b5, b6, b7, b8⟩ := hv9
  refine ⟨fun _ => rfl, ?_⟩
  refine v_putR (pc' := 24) 10 rfl rfl pf_X4_18 (fun _ => ⟨rfl, fun _ _ _ h => by cases h; rfl⟩) ly_1 (st_c (by decide) (by decide)) ?_
  refine v_aload_n (pc' := 25) 11 0 rfl rfl rfl rfl ?_
  refine v_iconst (v := 0) (pc' := 26) 12 rfl rfl (by decide) ?_
  refine v_putZ (pc' := 29) 13 rfl rfl pf_X4_22 (fun q => absurd q (by decide)) ly_1 (st_c (by decide) (by decide)) (Or.inl rfl) ?_
  refine v_aload_n (pc' := 30) 14 0 rfl rfl rfl rfl ?_
  refine v_iconst (v := 0) (pc' := 31) 15 rfl rfl (by decide) ?_
  refine v_putI (pc' := 34) 16 rfl rfl pf_X4_26 (fun q => absurd q (by decide)) ly_1 (st_c (by decide) (by decide)) ?_
  refine v_aload_n (pc' := 35) 17 0 rfl rfl rfl rfl ?_
  refine v_iconst (v := 0) (pc' := 36) 18 rfl rfl (by decide) ?_
  refine v_putI (pc' := 39) 19 rfl rfl pf_X4_30 (fun q => absurd q (by decide)) ly_1 (st_c (by decide) (by decide)) ?_
  refine v_iconst (v := 0) (pc' := 40) 20 rfl rfl (by decide) ?_
  refine v_istore_n (ls' := [(1, .int 0), (0, .ref 1)]) (pc' := 41) 21 rfl rfl rfl (by decide) rfl ?_
  refine V.sub [1, 0] rfl ?_
  refine hi_loop 10 0 _ _ _ rfl ⟨fun q hq => ?_, fun q hq => ?_, fun q hq => ?_, fun q q1 q2 q3 => ?_, fun j => ?_, ?_, ?_, ?_⟩
  · repeat (first | rw [up2_row (by omega)] | rw [clr_n (by omega)] | rw [b1 q (by omega)])
  · repeat (first | rw [clr_n (by omega)] | rw [b2 q (by omega)])
  · repeat (first | rw [up2_row (by omega)] | rw [clr_n (by omega)] | rw [b3 q (by omega)])
  · by_cases z : q = 1
    · subst z
      funext j
      have j2 : j = 0 ∨ j = 1 ∨ 2 ≤ j := by omega
      rcases j2 with rfl | rfl | j2
      · rw [up2_n (by omega), b3 1 (by omega)]
        repeat (first | rw [up2_s] | rw [up2_n (by omega)] | rw [clr_n (by omega)])
        exact rt_1_0.symm
      · rw [up2_s]
        exact rt_1_1.symm
      · rw [up2_n (by omega), b3 1 (by omega)]
        repeat (first | rw [up2_s] | rw [up2_n (by omega)] | rw [clr_n (by omega)])
        rw [hr, W0_n (by decide) (by decide)]
        unfold RS
        rw [ly_1]
        match j, j2 with
        | j + 2, _ => rfl
    · rw [up2_row z]
      exact b4 q (by omega) (by omega)
  · rw [if_neg (by omega), up2_row (by decide), b3 2 (by omega)]
    repeat (first | rw [up2_row (by omega)] | rw [clr_s] | rw [clr_n (by omega)])
  · repeat (first | rw [up2_s] | rw [up2_n (by omega)])
  · repeat (first | rw [up2_s] | rw [up2_n (by omega)])
  · exact up2_s
end CT2
