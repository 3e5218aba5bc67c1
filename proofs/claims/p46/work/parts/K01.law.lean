/-! THE LAW'S BODY: behind its own object -/
theorem ml_L_126 : Cond.methodLink "GlitchCourtLaw" 126 (⟨"GlitchCourtLaw", "<init>", "()V"⟩ : MethodName) ∈ GW := gw_in 369 (by decide +kernel) (by decide +kernel)
theorem ml_L_127 : Cond.methodLink "GlitchCourtLaw" 127 (⟨"GlitchCourt", "<init>", "()V"⟩ : MethodName) ∈ GW := gw_in 54 (by decide +kernel) (by decide +kernel)
theorem ml_L_128 : Cond.methodLink "GlitchCourtLaw" 128 (⟨"GlitchCourtLaw", "tells", "(LGlitchCourt;[I)Z"⟩ : MethodName) ∈ GW := gw_in 395 (by decide +kernel) (by decide +kernel)
theorem ml_L_132 : Cond.methodLink "GlitchCourtLaw" 132 (⟨"GlitchCourtLaw", "holds", "(LGlitchCourt;[I)Z"⟩ : MethodName) ∈ GW := gw_in 774 (by decide +kernel) (by decide +kernel)
theorem mi_X8_init : Cond.instanceMethod (⟨"GlitchCourt", "<init>", "()V"⟩ : MethodName) ∈ GW := gw_in 55 (by decide +kernel) (by decide +kernel)
theorem mi_L_init : Cond.instanceMethod (⟨"GlitchCourtLaw", "<init>", "()V"⟩ : MethodName) ∈ GW := gw_in 370 (by decide +kernel) (by decide +kernel)
theorem mi_L_holds : Cond.instanceMethod (⟨"GlitchCourtLaw", "holds", "(LGlitchCourt;[I)Z"⟩ : MethodName) ∈ GW := gw_in 776 (by decide +kernel) (by decide +kernel)
theorem mi_L_tells : Cond.instanceMethod (⟨"GlitchCourtLaw", "tells", "(LGlitchCourt;[I)Z"⟩ : MethodName) ∈ GW := gw_in 397 (by decide +kernel) (by decide +kernel)
theorem se_L_tells : Cond.selects "GlitchCourtLaw" (⟨"GlitchCourtLaw", "tells", "(LGlitchCourt;[I)Z"⟩ : MethodName) (⟨"GlitchCourtLaw", "tells", "(LGlitchCourt;[I)Z"⟩ : MethodName) ∈ GW := gw_in 0 (by decide +kernel) (by decide +kernel)
theorem se_L_holds : Cond.selects "GlitchCourtLaw" (⟨"GlitchCourtLaw", "holds", "(LGlitchCourt;[I)Z"⟩ : MethodName) (⟨"GlitchCourtLaw", "holds", "(LGlitchCourt;[I)Z"⟩ : MethodName) ∈ GW := gw_in 15 (by decide +kernel) (by decide +kernel)
theorem cl_L_35 : Cond.classLink "GlitchCourtLaw" 35 "GlitchCourt" ∈ GW := gw_in 52 (by decide +kernel) (by decide +kernel)
theorem cl_L_8 : Cond.classLink "GlitchCourtLaw" 8 "GlitchCourtLaw" ∈ GW := gw_in 367 (by decide +kernel) (by decide +kernel)
theorem ic_X8 : Cond.instantiable "GlitchCourt" 10 ∈ GW := gw_in 53 (by decide +kernel) (by decide +kernel)
theorem ic_L : Cond.instantiable "GlitchCourtLaw" 7 ∈ GW := gw_in 368 (by decide +kernel) (by decide +kernel)
theorem it_X8 : Cond.initialized "GlitchCourt" ∈ GW := mf_X8_init.2.1
theorem it_L : Cond.initialized "GlitchCourtLaw" ∈ GW := mf_L_init.2.1
def YLw : MT := (⟨"GlitchCourtLaw", "law", "([I)Z"⟩, code, 3, some .boolean, room_1, [(0, .new 8, 3), (3, .dup, 1), (4, .invokespecial 126, 3), (7, .astore_n 1, 1), (8, .new 35, 3), (11, .dup, 1), (12, .invokespecial 127, 3), (15, .astore_n 2, 1), (16, .aload_n 1, 1), (17, .aload_n 2, 1), (18, .aload_n 0, 1), (19, .invokevirtual 128, 3), (22, .ifCond .eq 16, 3), (25, .aload_n 1, 1), (26, .aload_n 2, 1), (27, .aload_n 0, 1), (28, .invokevirtual 132, 3), (31, .ifCond .eq 7, 3), (34, .iconst 1, 1), (35, .goto 4, 3), (38, .iconst 0, 1), (39, .ireturn, 1)], [])
theorem isL : (yP YLw).all (okI code) = true := by decide +kernel
/-- the first state -/
def r00 : RW := upR (fun _ => 0) 0 (lN 1)
def X00 : XT := (((1, 0, 4, 1, 1), (fun _ => 0), (fun _ => 0), (fun _ => 0), (fun _ => 0)), r00, (0, fun _ => r00), none, (0, fun _ => 0), -1, (0, fun _ => 0))
theorem INV0 {I : TI} {L : TL} (g1 : I 1 2 = 0 ∧ I 1 3 = 0 ∧ I 1 4 = 0) (g2 : I 0 7 = 0 ∧ I 0 8 = 0 ∧ I 0 9 = -1) (g3 : I 353 4 = 1 ∧ I 353 5 = 0 ∧ I 353 6 = 4 ∧ I 353 7 = 1 ∧ I 353 8 = 1 ∧ ∀ n, I 357 n = 0)
    (g4 : I 358 7 = 0 ∧ I 358 8 = 1 ∧ (∀ p, I 367 p = 0) ∧ ∀ p, L 363 p = 0 ∧ L 364 p = 0 ∧ L 365 p = 0 ∧ L 366 p = 0) (g5 : ∀ n, L 389 n = 0 ∧ L 390 n = 0 ∧ L 391 n = 0) (g6 : ∀ n, I 393 n = 0) : INV I L 352 394 X00 1000000 := by
  have r0 : un (r00 0) = 1 := rfl
  have rz : ∀ i, 0 < i → i < 241 → r00 i = 0 := fun i h1 h2 => by
    unfold r00 upR
    rw [if_neg (by omega)]
  have uz : ∀ i, 0 < i → i < 241 → un (r00 i) = 0 := fun i h1 h2 => by rw [rz i h1 h2]; rfl
  have hc : CV (xC X00) := ⟨⟨Nat.le_of_ble_eq_true rfl, Nat.le_of_ble_eq_true rfl⟩, Nat.le_of_ble_eq_true rfl, ⟨Nat.le_of_ble_eq_true rfl, Nat.le_of_ble_eq_true rfl⟩, Nat.le_of_ble_eq_true rfl, Nat.le_of_ble_eq_true rfl, fun g hg => absurd hg (Nat.not_lt_zero _), fun n hn => rfl, fun g hg => absurd hg (Nat.not_lt_zero _)⟩
  have hr : RV (xC X00) 1000000 r00 := by
    refine ⟨by rw [r0]; exact ⟨by decide, by decide⟩, fun p hp => ?_, ?_, fun n hn => ?_, fun g hg => absurd hg (Nat.not_lt_zero _), fun d hd => ?_⟩
    · rw [uz (1 + p) (by omega) (by omega)]; exact Nat.zero_le _
    · rw [uz 4 (by decide) (by decide)]; exact Nat.zero_le _
    · have hn1 : n < 1 := hn
      rw [rz (5 + n) (by omega) (by omega)]; exact inH_0
    · rw [uz 4 (by decide) (by decide)] at hd
      exact absurd hd (Nat.not_lt_zero _)
  refine ⟨⟨hc, hr, ⟨Nat.zero_le _, fun j hj => absurd hj (Nat.not_lt_zero _)⟩, (fun s hs => by cases (show (none : Option RW) = some s from hs)), ⟨Nat.zero_le _, fun i hi => absurd hi (Nat.not_lt_zero _)⟩, Nat.zero_le _⟩, trivial, ?_⟩
  refine ⟨⟨Or.inl rfl, Or.inr rfl, by decide⟩, ⟨⟨g3.1, g3.2.1, g3.2.2.1, g3.2.2.2.1, g3.2.2.2.2.1, fun g hg => absurd hg (Nat.not_lt_zero _), fun n _ => g3.2.2.2.2.2 n⟩, ⟨?_, fun p hp => ?_, ?_, fun n hn => ?_, fun g hg => absurd hg (Nat.not_lt_zero _), fun d hd => ?_⟩, fun n hn => ?_⟩, ⟨g1.2.1, 0, by decide, g1.2.2, fun j hj => absurd hj (Nat.not_lt_zero _)⟩, ⟨fun _ => g1.1, (fun s hs => by cases (show (none : Option RW) = some s from hs))⟩, ⟨g2.1, fun i hi => absurd hi (Nat.not_lt_zero _)⟩, g2.2.2, ⟨g2.2.1, fun i hi => absurd hi (Nat.not_lt_zero _)⟩⟩
  · show I 358 8 = nI (un (r00 0))
    rw [r0]; exact g4.2.1
  · show I 367 p = nI (un (r00 (1 + p)))
    rw [uz (1 + p) (by omega) (by omega)]; exact g4.2.2.1 p
  · show I 358 7 = nI (un (r00 4))
    rw [uz 4 (by decide) (by decide)]; exact g4.1
  · have hn1 : n < 1 := hn
    have g9 := g4.2.2.2 n
    exact ⟨g9.1.trans (rz (5 + n) (by omega) (by omega)).symm, g9.2.1, g9.2.2.1⟩
  · have hd2 : d < un (r00 4) := hd
    rw [uz 4 (by decide) (by decide)] at hd2
    exact absurd hd2 (Nat.not_lt_zero _)
  · have hn1 : n < 1 := hn
    have z := rz (5 + n) (by omega) (by omega)
    have g9 := g5 n
    exact ⟨g9.1.trans z.symm, g9.2.1.trans z.symm, g9.2.2.trans z.symm, g6 n⟩
section LL
variable {G : GT} {Q : Option Value → MU → Prop} {QX : String → MU → Prop}
/-- what tells leaves -/
def QT (r : Int32) (J : TI) (M : TL) (b d t : Nat) : Prop := r = 1 ∧ b = 394 ∧ d = 352 ∧ t = 350 ∧ ∃ X, INV J M 394 352 X 1000000 ∧ FC J (xC X)
theorem law_V (hL : gL G ≤ 260) (hq : ∀ u, Q (some (.int 1)) u) {I : TI} {L : TL} {R : Nat → Nat → Option Nat} (h0 : I 436 1 = 0) (hR : ∀ q, 436 ≤ q → R q = W0 q) : V G YLw 8 [(1, .ref 436), (0, .ref 457)] [] (I, L, R, 0) 2 607 Q QX := by
  refine v_new (ci := 7) (pc' := 11) 4 rfl rfl rfl cl_L_35 ic_X8 it_X8 ly_0 (by decide) (show 2 + 1 ≤ 600086 by decide) (show 607 + 10 ≤ 7301442 by decide) ?_
  refine v_dup (pc' := 12) 5 rfl rfl rfl ?_
  refine v_cI (Y2 := Y_X8_init) (As := []) (b := 0) (pc' := 15) (c1 := 438) (s1 := 5481) 6 rfl rfl mf_X8_init rfl rfl ml_L_127 mi_X8_init rfl rfl (st_c (Nat.lt_succ_self _) (show 0 + 1 ≤ 436 by omega)) rfl (Nat.le_of_ble_eq_true rfl) ⟨by decide, by decide⟩ rfl rfl (ok_X8_init (fun j => clr_s)) (fun _ _ q => q.elim) ?_
  intro v9 u9 hv9
  obtain ⟨rfl, I1, L1, R1, rfl, ⟨g0, g1, g2, g3, g4, g5, g6⟩, hI1, hR1⟩ := hv9
  refine ⟨fun _ => rfl, ?_⟩
  refine v_astore_n (ls' := [(2, .ref 0), (1, .ref 436), (0, .ref 457)]) (pc' := 16) 7 rfl rfl rfl (by decide) rfl ?_
  have eR : R1 = RT 352 394 345 := by
    funext q
    show _ = W0 q
    by_cases w1 : q < 436
    · exact g0 q w1
    · rw [hR1 q (by omega), clr_n (by omega), hR q (by omega)]
  subst eR
  have h1 : I1 436 1 = 0 := by
    rw [hI1 436 (Nat.le_refl _), clr_n (by decide)]
    exact h0
  have hI : INV I1 L1 352 394 X00 1000000 := INV0 g1 g2 g3 g4 g5 g6
  refine v_aload_n (pc' := 17) 8 1 rfl rfl rfl rfl ?_
  refine v_aload_n (pc' := 18) 9 0 rfl rfl rfl rfl ?_
  refine v_aload_n (pc' := 19) 10 2 rfl rfl rfl rfl ?_
  refine v_cV (Y2 := Y_L_tells) (As := [.ref 0, .ref 457]) (b := 436) (pc' := 22) (c1 := 457) (s1 := 5576) 11 rfl rfl mf_L_tells rfl rfl ml_L_128 mi_L_tells se_L_tells (ci := 8) rfl ly_436 (lay_n ly_436 (by decide) (Nat.le_refl _)) rfl (Nat.le_of_ble_eq_true rfl) ⟨by decide, by decide⟩ rfl rfl
    (ok_L_tells (Q := QT) (QX := fun _ _ _ _ _ _ => False) I1 L1 352 394 345 (Or.inl rfl) (Or.inr rfl) (Or.inl rfl) (s_tells hI (by decide) rfl hL h1 (fun J M X2 i2 f2 => ⟨rfl, rfl, rfl, rfl, X2, i2, f2⟩)) (fun _ _ _ _ _ _ q => q)) ?_ ?_
  · intro e9 u9 hx9
    exact hx9.elim
  intro v9 u9 hv9
  obtain ⟨r9, I9, L9, b9, d9, t9, rfl, rfl, rfl, rfl, rfl, rfl, X2, i2, f2⟩ := hv9
  refine ⟨fun q => absurd q (Nat.lt_irrefl _), ?_⟩
  show V G YLw 22 _ (.int 1 :: _) _ _ _ _ _
  refine v_if_eq (tgt := 38) (pc' := 25) 12 rfl rfl (by decide) (fun hc => absurd hc (by decide)) (fun _ => ?_)
  refine v_aload_n (pc' := 26) 13 1 rfl rfl rfl rfl ?_
  refine v_aload_n (pc' := 27) 14 0 rfl rfl rfl rfl ?_
  refine v_aload_n (pc' := 28) 15 2 rfl rfl rfl rfl ?_
  refine v_cV (Y2 := Y_L_holds) (As := [.ref 0, .ref 457]) (b := 436) (pc' := 31) (c1 := 457) (s1 := 5576) 16 rfl rfl mf_L_holds rfl rfl ml_L_132 mi_L_holds se_L_holds (ci := 8) rfl ly_436 (lay_n ly_436 (by decide) (show 436 ≤ 457 by omega)) rfl (Nat.le_of_ble_eq_true rfl) ⟨by decide, by decide⟩ rfl rfl
    (ok_L_holds (Q := fun r _ _ => r = 1) (QX := fun _ _ _ => False) I9 L9 394 352 (Or.inr rfl) (Or.inl rfl) (s_holds i2 hL f2 (fun _ _ => rfl)) (fun _ _ _ q => q)) ?_ ?_
  · intro e9 u9 hx9
    exact hx9.elim
  intro v9 u9 hv9
  obtain ⟨r9, I8, L8, rfl, rfl, rfl⟩ := hv9
  refine ⟨fun q => absurd q (Nat.lt_irrefl _), ?_⟩
  show V G YLw 31 _ (.int 1 :: _) _ _ _ _ _
  refine v_if_eq (tgt := 38) (pc' := 34) 17 rfl rfl (by decide) (fun hc => absurd hc (by decide)) (fun _ => ?_)
  refine v_iconst (v := 1) (pc' := 35) 18 rfl rfl (by decide) ?_
  refine v_goto (tgt := 39) 19 rfl (by decide) ?_
  exact v_bret 21 rfl rfl (Or.inr rfl) (by decide) (by decide) (hq _)
end LL
