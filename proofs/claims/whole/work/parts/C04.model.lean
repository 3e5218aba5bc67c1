/-! the reference's constructor -/
section CT4
set_option maxHeartbeats 4000000 in
set_option maxRecDepth 100000 in
theorem d9_X9_begins_29 {G : GT} {R : Nat → Nat → Option Nat} {nx : Nat} (hnx : 438 ≤ nx) (hR : R 436 1 = some 437) (v2 : Int32) (I : TI)  (Q : TI → TL → Prop) (R29 : Int32 → TL → Prop)  (hR29 : ∀ (v5 : Int32) (L : TL), R29 v5 L → V G Y_X9_begins 29 [(0, .ref 436), (2, .int v2), (5, .int v5)] [] (I, L, R, nx) 0 0 (fun v9 u9 => ∃ (I9 : TI) (L9 : TL), v9 = none ∧ u9 = (I9, L9, R, nx) ∧ Q I9 L9) (fun _ _ => False)) (v5 : Int32) (L : TL)  (h : D_X9_begins_29 v2 I Q R29 v5 L) : V G Y_X9_begins 29 [(0, .ref 436), (2, .int v2), (5, .int v5)] [] (I, L, R, nx) 0 0 (fun v9 u9 => ∃ (I9 : TI) (L9 : TL), v9 = none ∧ u9 = (I9, L9, R, nx) ∧ Q I9 L9) (fun _ _ => False) := by
  unfold D_X9_begins_29 at h
  refine v_iload (pc' := 31) 17 2 rfl rfl rfl ?_
  refine v_sipush (v := 241) (pc' := 34) 18 rfl rfl (by decide) ?_
  refine v_icmp_ge (tgt := 51) (pc' := 37) 19 rfl rfl (by decide) (fun hc => ?_) (fun hc => ?_)
  · replace h := h.1 hc
    refine v_aload_n (pc' := 52) 27 0 rfl rfl rfl rfl ?_
    refine v_getR (t := 437) (pc' := 55) 28 rfl rfl pf_X9_7 ly_436 (by omega) hR ?_
    refine v_iconst (v := 0) (pc' := 56) 29 rfl rfl (by decide) ?_
    refine v_iload_n (pc' := 57) 30 1 rfl rfl rfl rfl ?_
    refine v_i2l (pc' := 58) 31 rfl rfl ?_
    refine v_last (i := 0) (j := 0) (pc' := 59) 32 rfl rfl ly_437 ln_437 (by omega) (vp_lit (by decide)) (by decide) ?_
    exact v_vret 33 rfl rfl (by decide) (by decide) ⟨_, _, rfl, rfl, h⟩
  replace h := h.2 hc
  refine v_aload_n (pc' := 38) 20 0 rfl rfl rfl rfl ?_
  refine v_getR (t := 437) (pc' := 41) 21 rfl rfl pf_X9_7 ly_436 (by omega) hR ?_
  refine v_iload (pc' := 43) 22 2 rfl rfl rfl ?_
  refine v_lconst (v := 0) (pc' := 44) 23 rfl rfl (by decide) ?_
  obtain ⟨hi1492, h⟩ := h
  refine v_last (i := v5) (j := v5.toNatClampNeg) (pc' := 45) 24 rfl rfl ly_437 ln_437 (by omega) hi1492 rfl ?_
  refine v_iinc (v := (v5 + 1)) (ls' := [(5, .int (v5 + 1)), (0, .ref 436), (2, .int v2)]) (pc' := 48) 25 2 rfl rfl rfl rfl (by decide) rfl ?_
  refine v_goto (tgt := 29) 26 rfl (by decide) ?_
  refine V.sub [1, 2, 0] rfl ?_
  exact hR29 (v5 + 1) (up2 L 437 (v5.toNatClampNeg) 0) h
theorem l9_X9_begins_29 {G : GT} {R : Nat → Nat → Option Nat} {nx : Nat} (hnx : 438 ≤ nx) (hR : R 436 1 = some 437) (v2 : Int32) (I : TI)  (Q : TI → TL → Prop)  : ∀ (n9 : Nat) (v5 : Int32) (L : TL), L_X9_begins_29 v2 I Q n9 v5 L → V G Y_X9_begins 29 [(0, .ref 436), (2, .int v2), (5, .int v5)] [] (I, L, R, nx) 0 0 (fun v9 u9 => ∃ (I9 : TI) (L9 : TL), v9 = none ∧ u9 = (I9, L9, R, nx) ∧ Q I9 L9) (fun _ _ => False)
  | 0, _, _, h => h.elim
  | n9 + 1, v5, L, h => d9_X9_begins_29 hnx hR v2 I Q _ (l9_X9_begins_29 hnx hR v2 I Q n9) v5 L h
set_option maxHeartbeats 4000000 in
set_option maxRecDepth 100000 in
theorem ok9_X9_begins {G : GT} {R : Nat → Nat → Option Nat} {nx : Nat} (hnx : 438 ≤ nx) (hR : R 436 1 = some 437) (p1 : Int32) (p2 : Int32) (p3 : Int32) (p4 : Int32) (I : TI) (L : TL)  {Q : TI → TL → Prop} (h : W_X9_begins p1 p2 p3 p4 I L Q) : MW G Y_X9_begins [.ref 436, .int p1, .int p2, .int p3, .int p4] (I, L, R, nx) (fun v9 u9 => ∃ (I9 : TI) (L9 : TL), v9 = none ∧ u9 = (I9, L9, R, nx) ∧ Q I9 L9) (fun _ _ => False) := by
  unfold W_X9_begins at h
  refine MW.intro rfl (by decide) is_X9_begins (Nat.le_of_ble_eq_true rfl) ?_
  show V G Y_X9_begins 0 [(0, .ref 436), (1, .int p1), (2, .int p2), (3, .int p3), (4, .int p4)] [] (I, L, R, nx) 0 0 _ _
  refine v_aload_n (pc' := 1) 0 0 rfl rfl rfl rfl ?_
  refine v_iload_n (pc' := 2) 1 1 rfl rfl rfl rfl ?_
  refine v_putI (pc' := 5) 2 rfl rfl pf_X9_86 (fun q => absurd q (by decide)) ly_436 (by omega) ?_
  refine v_aload_n (pc' := 6) 3 0 rfl rfl rfl rfl ?_
  refine v_iload_n (pc' := 7) 4 3 rfl rfl rfl rfl ?_
  refine v_putI (pc' := 10) 5 rfl rfl pf_X9_89 (fun q => absurd q (by decide)) ly_436 (by omega) ?_
  refine v_aload_n (pc' := 11) 6 0 rfl rfl rfl rfl ?_
  refine v_iload (pc' := 13) 7 4 rfl rfl rfl ?_
  refine v_putI (pc' := 16) 8 rfl rfl pf_X9_92 (fun q => absurd q (by decide)) ly_436 (by omega) ?_
  refine v_aload_n (pc' := 17) 9 0 rfl rfl rfl rfl ?_
  refine v_iconst (v := 0) (pc' := 18) 10 rfl rfl (by decide) ?_
  refine v_putI (pc' := 21) 11 rfl rfl pf_X9_77 (fun q => absurd q (by decide)) ly_436 (by omega) ?_
  refine nm_M (e := (up2 (up2 (up2 (up2 I 436 7 p1) 436 8 p3) 436 9 p4) 436 10 0)) (fun I1493 hI1493 => ?_)
  replace h := h I1493 hI1493
  refine v_aload_n (pc' := 22) 12 0 rfl rfl rfl rfl ?_
  refine v_iconst (v := 0) (pc' := 23) 13 rfl rfl (by decide) ?_
  refine v_putI (pc' := 26) 14 rfl rfl pf_X9_83 (fun q => absurd q (by decide)) ly_436 (by omega) ?_
  refine v_iconst (v := 0) (pc' := 27) 15 rfl rfl (by decide) ?_
  refine v_istore (ls' := [(5, .int 0), (0, .ref 436), (1, .int p1), (2, .int p2), (3, .int p3), (4, .int p4)]) (pc' := 29) 16 rfl rfl (by decide) rfl ?_
  refine V.sub [1, 3, 0] rfl ?_
  obtain ⟨n1494, h⟩ := h
  exact l9_X9_begins_29 hnx hR p2 (up2 I1493 436 11 0) Q n1494 (0 : Int32) L h
variable {G : GT} {I : TI} {L : TL} {R : Nat → Nat → Option Nat} {nx : Nat}
def MT0 (I : TI) (L : TL) (R : Nat → Nat → Option Nat) (I' : TI) (L' : TL) (R' : Nat → Nat → Option Nat) : Prop :=
  (∀ q, q < 436 → I' q = I q) ∧ (∀ q, q < 436 → L' q = L q) ∧ (∀ q, q < 436 ∨ 456 ≤ q → R' q = R q) ∧ (∀ q, 436 ≤ q → q < 456 → R' q = W0 q) ∧ (I' 436 10 = 1 ∧ I' 436 11 = 0 ∧ I' 436 7 = 4 ∧ I' 436 8 = 1 ∧ I' 436 9 = 1) ∧ I' 436 30 = -1 ∧ (∀ i, i < 241 → L' 437 i = upR (fun _ => 0) 0 (lN 1) i) ∧ ∀ j, (j < 7 ∨ (11 < j ∧ j ≠ 30)) → I' 436 j = I 436 j
theorem md_tail (Im : TI) (Lm : TL) (Rm : Nat → Nat → Option Nat) (m1 : ∀ q, q < 436 → Im q = I q) (m2 : ∀ j, Im 436 j = if j = 30 then -1 else I 436 j) (m3 : ∀ q, q < 436 → Lm q = L q) (m4 : ∀ q, q < 436 ∨ 456 ≤ q → Rm q = R q) (m5 : ∀ q, 436 ≤ q → q < 456 → Rm q = W0 q) : V G Y_X9_init 174 [(0, .ref 436)] [.int 1, .int 1, .int 1, .int 4, .ref 436] (Im, Lm, Rm, 456) 19 4530 (fun v9 u9 => v9 = none ∧ ∃ I9 L9 R9, u9 = (I9, L9, R9, 456) ∧ MT0 I L R I9 L9 R9) (fun _ _ => False) := by
  have hR : Rm 436 1 = some 437 := by
    rw [m5 436 (by decide) (by decide)]
    exact rt_436_1
  have hb : W_X9_begins 4 1 1 1 Im Lm (fun J M => hI Im J ∧ (∀ j, 12 ≤ j → J 436 j = Im 436 j) ∧ (∀ q, q ≠ 437 → M q = Lm q) ∧ RK J M (hdZ 4 1 1 1)) := m_begins (H := 4) (l := 1) (R := 1) (F := 1) rfl rfl rfl rfl (by omega) (fun J M h1 h2 _ h4 h5 => ⟨h1, h2, h4, h5⟩)
  refine v_cV (Y2 := Y_X9_begins) (As := [.int 4, .int 1, .int 1, .int 1]) (b := 436) (pc' := 177) (c1 := 19) (s1 := 4530) 86 rfl rfl mf_X9_begins rfl rfl ml_X9_73 mi_X9_begins se_X9_begins (ci := 8) rfl ly_436 (show 436 < 456 by decide) rfl (Nat.le_of_ble_eq_true rfl) ⟨Nat.le_of_ble_eq_true rfl, Nat.le_of_ble_eq_true rfl⟩ rfl rfl (ok9_X9_begins (by decide) hR 4 1 1 1 Im Lm hb) ?_ ?_
  · intro e9 u9 hx9
    exact hx9.elim
  intro v9 u9 hv9
  obtain ⟨I9, L9, rfl, rfl, h1, h2, h4, h5⟩ := hv9
  refine ⟨fun _ => rfl, ?_⟩
  show V G Y_X9_init 177 _ [] _ _ _ _ _
  refine v_aload_n (pc' := 178) 87 0 rfl rfl rfl rfl ?_
  refine v_iconst (v := 1) (pc' := 179) 88 rfl rfl (by decide) ?_
  refine v_putI (pc' := 182) 89 rfl rfl pf_X9_77 (fun q => absurd q (by decide)) ly_436 (by decide) ?_
  refine v_vret 90 rfl rfl (by decide) (by decide) ⟨rfl, _, _, _, rfl, fun q hq => ?_, fun q hq => ?_, m4, m5, ⟨up2_s, ?_, ?_, ?_, ?_⟩, ?_, h5.2, fun j hj => ?_⟩
  · rw [up2_row (by omega), h1.1 q (by omega) (by omega) (by omega) (by omega), m1 q hq]
  · rw [h4 q (by omega), m3 q hq]
  · rw [up2_n (by omega)]; exact h5.1.2.1
  · rw [up2_n (by omega)]; exact h5.1.2.2.1
  · rw [up2_n (by omega)]; exact h5.1.2.2.2.1
  · rw [up2_n (by omega)]; exact h5.1.2.2.2.2.1
  · rw [up2_n (by omega), h2 30 (by omega), m2, if_pos rfl]
  · rw [up2_n (by omega)]
    by_cases z : j < 7
    · rw [h1.2 j (by omega), m2, if_neg (by omega)]
    · rw [h2 j (by omega), m2, if_neg (by omega)]
theorem ok_X9_init (hr : ∀ j, R 436 j = none) : MW G Y_X9_init [.ref 436] (I, L, R, 437) (fun v9 u9 => v9 = none ∧ ∃ I9 L9 R9, u9 = (I9, L9, R9, 456) ∧ MT0 I L R I9 L9 R9) (fun _ _ => False) := by
  refine MW.intro rfl (by decide) is_X9_init (Nat.le_of_ble_eq_true rfl) ?_
  show V G Y_X9_init 0 [(0, .ref 436)] [] (I, L, R, 437) 0 0 _ _
  refine v_aload_n (pc' := 1) 0 0 rfl rfl rfl rfl ?_
  refine v_obj (pc' := 4) 1 rfl rfl ml_X9_1 mi_Obj co_Obj (by decide) (by decide) ?_
  refine v_aload_n (pc' := 5) 2 0 rfl rfl rfl rfl ?_
  refine v_sipush (v := 241) (pc' := 8) 3 rfl rfl (by decide) ?_
  refine v_newa (t := 1) (N := 241) (pc' := 10) 4 rfl rfl (by decide) rfl ar_long rfl (by decide) ly_437 ln_437 (by decide) (by decide) (by decide) ?_
  refine v_putR (pc' := 13) 5 rfl rfl pf_X9_7 (fun _ => ⟨rfl, fun _ _ _ h => by cases h; rfl⟩) ly_436 (by decide) ?_
  refine v_aload_n (pc' := 14) 6 0 rfl rfl rfl rfl ?_
  refine v_sipush (v := 241) (pc' := 17) 7 rfl rfl (by decide) ?_
  refine v_newa (t := 1) (N := 241) (pc' := 19) 8 rfl rfl (by decide) rfl ar_long rfl (by decide) ly_438 ln_438 (by decide) (by decide) (by decide) ?_
  refine v_putR (pc' := 22) 9 rfl rfl pf_X9_13 (fun _ => ⟨rfl, fun _ _ _ h => by cases h; rfl⟩) ly_436 (by decide) ?_
  refine v_aload_n (pc' := 23) 10 0 rfl rfl rfl rfl ?_
  refine v_sipush (v := 241) (pc' := 26) 11 rfl rfl (by decide) ?_
  refine v_newa (t := 1) (N := 241) (pc' := 28) 12 rfl rfl (by decide) rfl ar_long rfl (by decide) ly_439 ln_439 (by decide) (by decide) (by decide) ?_
  refine v_putR (pc' := 31) 13 rfl rfl pf_X9_16 (fun _ => ⟨rfl, fun _ _ _ h => by cases h; rfl⟩) ly_436 (by decide) ?_
  refine v_aload_n (pc' := 32) 14 0 rfl rfl rfl rfl ?_
  refine v_sipush (v := 2410) (pc' := 35) 15 rfl rfl (by decide) ?_
  refine v_newa (t := 1) (N := 2410) (pc' := 37) 16 rfl rfl (by decide) rfl ar_long rfl (by decide) ly_440 ln_440 (by decide) (by decide) (by decide) ?_
  refine v_putR (pc' := 40) 17 rfl rfl pf_X9_19 (fun _ => ⟨rfl, fun _ _ _ h => by cases h; rfl⟩) ly_436 (by decide) ?_
  refine v_aload_n (pc' := 41) 18 0 rfl rfl rfl rfl ?_
  refine v_bipush (v := 12) (pc' := 43) 19 rfl rfl (by decide) ?_
  refine v_newa (t := 0) (N := 12) (pc' := 45) 20 rfl rfl (by decide) rfl ar_int rfl (by decide) ly_441 ln_441 (by decide) (by decide) (by decide) ?_
  refine v_putR (pc' := 48) 21 rfl rfl pf_X9_22 (fun _ => ⟨rfl, fun _ _ _ h => by cases h; rfl⟩) ly_436 (by decide) ?_
  refine v_aload_n (pc' := 49) 22 0 rfl rfl rfl rfl ?_
  refine v_bipush (v := 12) (pc' := 51) 23 rfl rfl (by decide) ?_
  refine v_newa (t := 0) (N := 12) (pc' := 53) 24 rfl rfl (by decide) rfl ar_int rfl (by decide) ly_442 ln_442 (by decide) (by decide) (by decide) ?_
  refine v_putR (pc' := 56) 25 rfl rfl pf_X9_26 (fun _ => ⟨rfl, fun _ _ _ h => by cases h; rfl⟩) ly_436 (by decide) ?_
  refine v_aload_n (pc' := 57) 26 0 rfl rfl rfl rfl ?_
  refine v_bipush (v := 12) (pc' := 59) 27 rfl rfl (by decide) ?_
  refine v_newa (t := 0) (N := 12) (pc' := 61) 28 rfl rfl (by decide) rfl ar_int rfl (by decide) ly_443 ln_443 (by decide) (by decide) (by decide) ?_
  refine v_putR (pc' := 64) 29 rfl rfl pf_X9_29 (fun _ => ⟨rfl, fun _ _ _ h => by cases h; rfl⟩) ly_436 (by decide) ?_
  refine v_aload_n (pc' := 65) 30 0 rfl rfl rfl rfl ?_
  refine v_bipush (v := 16) (pc' := 67) 31 rfl rfl (by decide) ?_
  refine v_newa (t := 1) (N := 16) (pc' := 69) 32 rfl rfl (by decide) rfl ar_long rfl (by decide) ly_444 ln_444 (by decide) (by decide) (by decide) ?_
  refine v_putR (pc' := 72) 33 rfl rfl pf_X9_32 (fun _ => ⟨rfl, fun _ _ _ h => by cases h; rfl⟩) ly_436 (by decide) ?_
  refine v_aload_n (pc' := 73) 34 0 rfl rfl rfl rfl ?_
  refine v_bipush (v := 16) (pc' := 75) 35 rfl rfl (by decide) ?_
  refine v_newa (t := 1) (N := 16) (pc' := 77) 36 rfl rfl (by decide) rfl ar_long rfl (by decide) ly_445 ln_445 (by decide) (by decide) (by decide) ?_
  refine v_putR (pc' := 80) 37 rfl rfl pf_X9_35 (fun _ => ⟨rfl, fun _ _ _ h => by cases h; rfl⟩) ly_436 (by decide) ?_
  refine v_aload_n (pc' := 81) 38 0 rfl rfl rfl rfl ?_
  refine v_bipush (v := 16) (pc' := 83) 39 rfl rfl (by decide) ?_
  refine v_newa (t := 1) (N := 16) (pc' := 85) 40 rfl rfl (by decide) rfl ar_long rfl (by decide) ly_446 ln_446 (by decide) (by decide) (by decide) ?_
  refine v_putR (pc' := 88) 41 rfl rfl pf_X9_38 (fun _ => ⟨rfl, fun _ _ _ h => by cases h; rfl⟩) ly_436 (by decide) ?_
  refine v_aload_n (pc' := 89) 42 0 rfl rfl rfl rfl ?_
  refine v_sipush (v := 600) (pc' := 92) 43 rfl rfl (by decide) ?_
  refine v_newa (t := 0) (N := 600) (pc' := 94) 44 rfl rfl (by decide) rfl ar_int rfl (by decide) ly_447 ln_447 (by decide) (by decide) (by decide) ?_
  refine v_putR (pc' := 97) 45 rfl rfl pf_X9_41 (fun _ => ⟨rfl, fun _ _ _ h => by cases h; rfl⟩) ly_436 (by decide) ?_
  refine v_aload_n (pc' := 98) 46 0 rfl rfl rfl rfl ?_
  refine v_iconst (v := -1) (pc' := 99) 47 rfl rfl (by decide) ?_
  refine v_putI (pc' := 102) 48 rfl rfl pf_X9_44 (fun q => absurd q (by decide)) ly_436 (by decide) ?_
  refine v_aload_n (pc' := 103) 49 0 rfl rfl rfl rfl ?_
  refine v_bipush (v := 12) (pc' := 105) 50 rfl rfl (by decide) ?_
  refine v_newa (t := 0) (N := 12) (pc' := 107) 51 rfl rfl (by decide) rfl ar_int rfl (by decide) ly_448 ln_448 (by decide) (by decide) (by decide) ?_
  refine v_putR (pc' := 110) 52 rfl rfl pf_X9_48 (fun _ => ⟨rfl, fun _ _ _ h => by cases h; rfl⟩) ly_436 (by decide) ?_
  refine v_aload_n (pc' := 111) 53 0 rfl rfl rfl rfl ?_
  refine v_bipush (v := 12) (pc' := 113) 54 rfl rfl (by decide) ?_
  refine v_newa (t := 0) (N := 12) (pc' := 115) 55 rfl rfl (by decide) rfl ar_int rfl (by decide) ly_449 ln_449 (by decide) (by decide) (by decide) ?_
  refine v_putR (pc' := 118) 56 rfl rfl pf_X9_51 (fun _ => ⟨rfl, fun _ _ _ h => by cases h; rfl⟩) ly_436 (by decide) ?_
  refine v_aload_n (pc' := 119) 57 0 rfl rfl rfl rfl ?_
  refine v_bipush (v := 12) (pc' := 121) 58 rfl rfl (by decide) ?_
  refine v_newa (t := 0) (N := 12) (pc' := 123) 59 rfl rfl (by decide) rfl ar_int rfl (by decide) ly_450 ln_450 (by decide) (by decide) (by decide) ?_
  refine v_putR (pc' := 126) 60 rfl rfl pf_X9_54 (fun _ => ⟨rfl, fun _ _ _ h => by cases h; rfl⟩) ly_436 (by decide) ?_
  refine v_aload_n (pc' := 127) 61 0 rfl rfl rfl rfl ?_
  refine v_bipush (v := 16) (pc' := 129) 62 rfl rfl (by decide) ?_
  refine v_newa (t := 0) (N := 16) (pc' := 131) 63 rfl rfl (by decide) rfl ar_int rfl (by decide) ly_451 ln_451 (by decide) (by decide) (by decide) ?_
  refine v_putR (pc' := 134) 64 rfl rfl pf_X9_57 (fun _ => ⟨rfl, fun _ _ _ h => by cases h; rfl⟩) ly_436 (by decide) ?_
  refine v_aload_n (pc' := 135) 65 0 rfl rfl rfl rfl ?_
  refine v_bipush (v := 61) (pc' := 137) 66 rfl rfl (by decide) ?_
  refine v_newa (t := 2) (N := 61) (pc' := 139) 67 rfl rfl (by decide) rfl ar_byte rfl (by decide) ly_452 ln_452 (by decide) (by decide) (by decide) ?_
  refine v_putR (pc' := 142) 68 rfl rfl pf_X9_60 (fun _ => ⟨rfl, fun _ _ _ h => by cases h; rfl⟩) ly_436 (by decide) ?_
  refine v_aload_n (pc' := 143) 69 0 rfl rfl rfl rfl ?_
  refine v_sipush (v := 200) (pc' := 146) 70 rfl rfl (by decide) ?_
  refine v_newa (t := 0) (N := 200) (pc' := 148) 71 rfl rfl (by decide) rfl ar_int rfl (by decide) ly_453 ln_453 (by decide) (by decide) (by decide) ?_
  refine v_putR (pc' := 151) 72 rfl rfl pf_X9_64 (fun _ => ⟨rfl, fun _ _ _ h => by cases h; rfl⟩) ly_436 (by decide) ?_
  refine v_aload_n (pc' := 152) 73 0 rfl rfl rfl rfl ?_
  refine v_sipush (v := 200) (pc' := 155) 74 rfl rfl (by decide) ?_
  refine v_newa (t := 0) (N := 200) (pc' := 157) 75 rfl rfl (by decide) rfl ar_int rfl (by decide) ly_454 ln_454 (by decide) (by decide) (by decide) ?_
  refine v_putR (pc' := 160) 76 rfl rfl pf_X9_67 (fun _ => ⟨rfl, fun _ _ _ h => by cases h; rfl⟩) ly_436 (by decide) ?_
  refine v_aload_n (pc' := 161) 77 0 rfl rfl rfl rfl ?_
  refine v_sipush (v := 200) (pc' := 164) 78 rfl rfl (by decide) ?_
  refine v_newa (t := 0) (N := 200) (pc' := 166) 79 rfl rfl (by decide) rfl ar_int rfl (by decide) ly_455 ln_455 (by decide) (by decide) (by decide) ?_
  refine v_putR (pc' := 169) 80 rfl rfl pf_X9_70 (fun _ => ⟨rfl, fun _ _ _ h => by cases h; rfl⟩) ly_436 (by decide) ?_
  refine v_aload_n (pc' := 170) 81 0 rfl rfl rfl rfl ?_
  refine v_iconst (v := 4) (pc' := 171) 82 rfl rfl (by decide) ?_
  refine v_iconst (v := 1) (pc' := 172) 83 rfl rfl (by decide) ?_
  refine v_iconst (v := 1) (pc' := 173) 84 rfl rfl (by decide) ?_
  refine v_iconst (v := 1) (pc' := 174) 85 rfl rfl (by decide) ?_
  refine md_tail _ _ _ (fun q hq => ?_) (fun j => ?_) (fun q hq => ?_) (fun q hq => ?_) (fun q q1 q2 => ?_)
  · repeat (first | rw [up2_row (by omega)] | rw [clr_n (by omega)])
  · repeat (first | rw [clr_n (by omega)])
    rw [up2_at]
    repeat (first | rw [clr_n (by omega)])
  · repeat (first | rw [clr_n (by omega)])
  · repeat (first | rw [up2_row (by omega)] | rw [clr_n (by omega)])
  · funext j
    have w : q = 436 ∨ q = 437 ∨ q = 438 ∨ q = 439 ∨ q = 440 ∨ q = 441 ∨ q = 442 ∨ q = 443 ∨ q = 444 ∨ q = 445 ∨ q = 446 ∨ q = 447 ∨ q = 448 ∨ q = 449 ∨ q = 450 ∨ q = 451 ∨ q = 452 ∨ q = 453 ∨ q = 454 ∨ q = 455 := by omega
    rcases w with rfl | rfl | rfl | rfl | rfl | rfl | rfl | rfl | rfl | rfl | rfl | rfl | rfl | rfl | rfl | rfl | rfl | rfl | rfl | rfl
    · by_cases z1 : j = 1
      · subst z1
        repeat (first | rw [up2_s] | rw [up2_n (by omega)] | rw [clr_s] | rw [clr_n (by omega)])
        exact rt_436_1.symm
      by_cases z2 : j = 2
      · subst z2
        repeat (first | rw [up2_s] | rw [up2_n (by omega)] | rw [clr_s] | rw [clr_n (by omega)])
        exact rt_436_2.symm
      by_cases z3 : j = 3
      · subst z3
        repeat (first | rw [up2_s] | rw [up2_n (by omega)] | rw [clr_s] | rw [clr_n (by omega)])
        exact rt_436_3.symm
      by_cases z4 : j = 4
      · subst z4
        repeat (first | rw [up2_s] | rw [up2_n (by omega)] | rw [clr_s] | rw [clr_n (by omega)])
        exact rt_436_4.symm
      by_cases z12 : j = 12
      · subst z12
        repeat (first | rw [up2_s] | rw [up2_n (by omega)] | rw [clr_s] | rw [clr_n (by omega)])
        exact rt_436_12.symm
      by_cases z13 : j = 13
      · subst z13
        repeat (first | rw [up2_s] | rw [up2_n (by omega)] | rw [clr_s] | rw [clr_n (by omega)])
        exact rt_436_13.symm
      by_cases z14 : j = 14
      · subst z14
        repeat (first | rw [up2_s] | rw [up2_n (by omega)] | rw [clr_s] | rw [clr_n (by omega)])
        exact rt_436_14.symm
      by_cases z15 : j = 15
      · subst z15
        repeat (first | rw [up2_s] | rw [up2_n (by omega)] | rw [clr_s] | rw [clr_n (by omega)])
        exact rt_436_15.symm
      by_cases z16 : j = 16
      · subst z16
        repeat (first | rw [up2_s] | rw [up2_n (by omega)] | rw [clr_s] | rw [clr_n (by omega)])
        exact rt_436_16.symm
      by_cases z17 : j = 17
      · subst z17
        repeat (first | rw [up2_s] | rw [up2_n (by omega)] | rw [clr_s] | rw [clr_n (by omega)])
        exact rt_436_17.symm
      by_cases z21 : j = 21
      · subst z21
        repeat (first | rw [up2_s] | rw [up2_n (by omega)] | rw [clr_s] | rw [clr_n (by omega)])
        exact rt_436_21.symm
      by_cases z31 : j = 31
      · subst z31
        repeat (first | rw [up2_s] | rw [up2_n (by omega)] | rw [clr_s] | rw [clr_n (by omega)])
        exact rt_436_31.symm
      by_cases z32 : j = 32
      · subst z32
        repeat (first | rw [up2_s] | rw [up2_n (by omega)] | rw [clr_s] | rw [clr_n (by omega)])
        exact rt_436_32.symm
      by_cases z33 : j = 33
      · subst z33
        repeat (first | rw [up2_s] | rw [up2_n (by omega)] | rw [clr_s] | rw [clr_n (by omega)])
        exact rt_436_33.symm
      by_cases z34 : j = 34
      · subst z34
        repeat (first | rw [up2_s] | rw [up2_n (by omega)] | rw [clr_s] | rw [clr_n (by omega)])
        exact rt_436_34.symm
      by_cases z35 : j = 35
      · subst z35
        repeat (first | rw [up2_s] | rw [up2_n (by omega)] | rw [clr_s] | rw [clr_n (by omega)])
        exact rt_436_35.symm
      by_cases z37 : j = 37
      · subst z37
        repeat (first | rw [up2_s] | rw [up2_n (by omega)] | rw [clr_s] | rw [clr_n (by omega)])
        exact rt_436_37.symm
      by_cases z38 : j = 38
      · subst z38
        repeat (first | rw [up2_s] | rw [up2_n (by omega)] | rw [clr_s] | rw [clr_n (by omega)])
        exact rt_436_38.symm
      by_cases z39 : j = 39
      · subst z39
        repeat (first | rw [up2_s] | rw [up2_n (by omega)] | rw [clr_s] | rw [clr_n (by omega)])
        exact rt_436_39.symm
      repeat (first | rw [up2_s] | rw [up2_n (by omega)] | rw [clr_s] | rw [clr_n (by omega)])
      rw [hr, W0_n (by decide) (by decide)]
      unfold RS
      rw [ly_436]
      show none = _
      split <;> first | contradiction | rfl | (split <;> first | contradiction | rfl)
    · repeat (first | rw [up2_row (by omega)] | rw [clr_s] | rw [clr_n (by omega)])
      rw [W0_n (by decide) (by decide), RS_no ly_437 (by omega)]
    · repeat (first | rw [up2_row (by omega)] | rw [clr_s] | rw [clr_n (by omega)])
      rw [W0_n (by decide) (by decide), RS_no ly_438 (by omega)]
    · repeat (first | rw [up2_row (by omega)] | rw [clr_s] | rw [clr_n (by omega)])
      rw [W0_n (by decide) (by decide), RS_no ly_439 (by omega)]
    · repeat (first | rw [up2_row (by omega)] | rw [clr_s] | rw [clr_n (by omega)])
      rw [W0_n (by decide) (by decide), RS_no ly_440 (by omega)]
    · repeat (first | rw [up2_row (by omega)] | rw [clr_s] | rw [clr_n (by omega)])
      rw [W0_n (by decide) (by decide), RS_no ly_441 (by omega)]
    · repeat (first | rw [up2_row (by omega)] | rw [clr_s] | rw [clr_n (by omega)])
      rw [W0_n (by decide) (by decide), RS_no ly_442 (by omega)]
    · repeat (first | rw [up2_row (by omega)] | rw [clr_s] | rw [clr_n (by omega)])
      rw [W0_n (by decide) (by decide), RS_no ly_443 (by omega)]
    · repeat (first | rw [up2_row (by omega)] | rw [clr_s] | rw [clr_n (by omega)])
      rw [W0_n (by decide) (by decide), RS_no ly_444 (by omega)]
    · repeat (first | rw [up2_row (by omega)] | rw [clr_s] | rw [clr_n (by omega)])
      rw [W0_n (by decide) (by decide), RS_no ly_445 (by omega)]
    · repeat (first | rw [up2_row (by omega)] | rw [clr_s] | rw [clr_n (by omega)])
      rw [W0_n (by decide) (by decide), RS_no ly_446 (by omega)]
    · repeat (first | rw [up2_row (by omega)] | rw [clr_s] | rw [clr_n (by omega)])
      rw [W0_n (by decide) (by decide), RS_no ly_447 (by omega)]
    · repeat (first | rw [up2_row (by omega)] | rw [clr_s] | rw [clr_n (by omega)])
      rw [W0_n (by decide) (by decide), RS_no ly_448 (by omega)]
    · repeat (first | rw [up2_row (by omega)] | rw [clr_s] | rw [clr_n (by omega)])
      rw [W0_n (by decide) (by decide), RS_no ly_449 (by omega)]
    · repeat (first | rw [up2_row (by omega)] | rw [clr_s] | rw [clr_n (by omega)])
      rw [W0_n (by decide) (by decide), RS_no ly_450 (by omega)]
    · repeat (first | rw [up2_row (by omega)] | rw [clr_s] | rw [clr_n (by omega)])
      rw [W0_n (by decide) (by decide), RS_no ly_451 (by omega)]
    · repeat (first | rw [up2_row (by omega)] | rw [clr_s] | rw [clr_n (by omega)])
      rw [W0_n (by decide) (by decide), RS_no ly_452 (by omega)]
    · repeat (first | rw [up2_row (by omega)] | rw [clr_s] | rw [clr_n (by omega)])
      rw [W0_n (by decide) (by decide), RS_no ly_453 (by omega)]
    · repeat (first | rw [up2_row (by omega)] | rw [clr_s] | rw [clr_n (by omega)])
      rw [W0_n (by decide) (by decide), RS_no ly_454 (by omega)]
    · repeat (first | rw [up2_row (by omega)] | rw [clr_s] | rw [clr_n (by omega)])
      rw [W0_n (by decide) (by decide), RS_no ly_455 (by omega)]
end CT4
