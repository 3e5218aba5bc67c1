/-! undoCount, undo, saveSnapshot, restoreSnapshot -/
section UNDO
variable {I J : TI} {L M : TL} {b d B : Nat} {X : XT}
theorem op_undoCount {P : Int32 → Int32 → TI → TL → Prop} (h : INV I L b d X B) (fin : ∀ r J M, INV J M b d X B → P r r J M) : W_X8_undoCount I L (fun r => W_X9_undoCount I L (fun r2 J => P r r2 J L)) := by
  unfold W_X8_undoCount W_X9_undoCount
  rw [h.2.2.2.2.1.1, up2_n (Or.inr (by decide)), h.2.1.2.2.1.1]
  exact fin _ _ _ h.thr
/-- refresh behind a change of the state's rows: the bench holds the row again -/
theorem c_refresh {Q : TI → TL → Prop} {C : CQ} {r : RW} (hb : bnOK b) (hC : CV C) (hr : RV C B r) (h : CC I (b + 1) C) (hS : SC I L (b + 6) C r) (k : ∀ J M, (∀ q, q ≠ b + 41 → J q = I q) → (∀ q, q ≠ b + 37 → q ≠ b + 38 → q ≠ b + 39 → M q = L q) → BC J M b C r → Q J M) : W_X0_refresh b I L Q := by
  refine s_refresh h hC hS hr (fun J M hJ hM hW => k J M (fun q hq => hJ q (nin1 hq)) (fun q a c e => hM q (nin3 a c e)) ?_)
  exact hW.bc hC (h.fr (fun q a c => hJ q (nin1 (by omega)))) (hS.fr hr.2.2.1 (fun q a c => hJ q (nin1 (by omega))) (fun q a c => hM q (nin3 (by omega) (by omega) (by omega))))
def popX (X : XT) (r : RW) : XT := (xC X, r, (xk X - 1, xh X), X.2.2.2)
theorem op_undo {P : Int32 → Int32 → TI → TL → Prop} (h : INV I L b d X B) (fin : ∀ r J M X2, INV J M b d X2 B → P r r J M) : W_X8_undo I L b d (fun r I1 L1 => W_X9_undo I1 L1 (fun r2 J M => P r r2 J M)) := by
  obtain ⟨hV, hM, hc⟩ := h
  obtain ⟨c1, c2, ⟨c3, nx, c4, c5, c6⟩, c7, c8, c9, c10⟩ := hc
  have hb := bn_lt c1.1
  have hk := hV.2.2.1.1
  unfold W_X8_undo
  rw [c3]
  refine ⟨fun q => ?_, fun q => ?_⟩
  · have k0 : xk X ≠ 0 := fun e => q (by rw [e]; rfl)
    have hh := hV.2.2.1.2 (xk X - 1) (by omega)
    -- the ring's row
    have hx : stOK (34 + 31 * ((nx + 9) % 10)) := hs_st (Nat.mod_lt _ (by omega))
    have hrow : SC I L (34 + 31 * ((nx + 9) % 10)) (xC X) (xh X (xk X - 1)) := by
      have := c6 (xk X - 1) (by omega)
      rw [show (nx + 10 - xk X + (xk X - 1)) % 10 = (nx + 9) % 10 by omega] at this
      exact this
    have go : ∀ s1 : Int32, s1 = nI ((nx + 9) % 10) → B_X4_takeBack_19 (b + 6) s1 I L (fun (I1438 : TI) (L1439 : TL) => W_X0_refresh b I1438 L1439 (fun (I1440 : TI) (L1441 : TL) => W_X9_undo I1440 L1441 (fun r2 J M => P (I1440 1 3) r2 J M))) := by
      rintro s1 rfl
      have e4 : (up2 (up2 I 1 4 (nI ((nx + 9) % 10))) 1 3 (((up2 I 1 4 (nI ((nx + 9) % 10))) 1 3) - 1)) 1 4 = nI ((nx + 9) % 10) := by rw [up2_n (Or.inr (by decide)), up2_s]
      have e3 : ((up2 I 1 4 (nI ((nx + 9) % 10))) 1 3) - 1 = nI (xk X - 1) := by
        rw [up2_n (Or.inr (by decide)), c3]
        obtain ⟨m, hm⟩ : ∃ m, xk X = m + 1 := ⟨xk X - 1, by omega⟩
        rw [hm]
        exact nI_pred m
      unfold B_X4_takeBack_19
      rw [e4, e3, pk_cl ((nx + 9) % 10) rfl (by omega)]
      refine ⟨pk_in _ 10 (Nat.mod_lt _ (by omega)) rfl, ?_⟩
      have fr : ∀ q, q ≠ 1 → (up2 (up2 I 1 4 (nI ((nx + 9) % 10))) 1 3 (nI (xk X - 1))) q = I q := fun q a => by rw [up2_row a, up2_row a]
      have f3 : (up2 (up2 I 1 4 (nI ((nx + 9) % 10))) 1 3 (nI (xk X - 1))) 1 3 = nI (xk X - 1) := up2_s
      have f4 : (up2 (up2 I 1 4 (nI ((nx + 9) % 10))) 1 3 (nI (xk X - 1))) 1 4 = nI ((nx + 9) % 10) := by rw [up2_n (Or.inr (by decide)), up2_s]
      have f2 : (up2 (up2 I 1 4 (nI ((nx + 9) % 10))) 1 3 (nI (xk X - 1))) 1 2 = I 1 2 := by rw [up2_n (Or.inr (by decide)), up2_n (Or.inr (by decide))]
      generalize up2 (up2 I 1 4 (nI ((nx + 9) % 10))) 1 3 (nI (xk X - 1)) = I2 at fr f3 f4 f2
      have hrow2 : SC I2 L (34 + 31 * ((nx + 9) % 10)) (xC X) (xh X (xk X - 1)) := hrow.fr hh.2.2.1 (fun q a c => fr q (by omega)) (fun _ _ _ => rfl)
      refine s_copyFrom (bn_st c1.1) hx (by omega) hV.1 hh hrow2 (fun J1 M1 hJ1 hM1 hS1 => ?_)
      have cc : CC J1 (b + 1) (xC X) := c2.1.fr (fun q a c => by rw [hJ1 q (by omega), fr q (by omega)])
      refine c_refresh c1.1 hV.1 hh cc hS1 (fun J2 M2 hJ2 hM2 hB2 => ?_)
      have g1 : J2 1 = I2 1 := by rw [hJ2 1 (by omega), hJ1 1 (by omega)]
      have gI : ∀ q, q ≠ 1 → (q < b ∨ b + 41 < q) → J2 q = I q := fun q a c => by rw [hJ2 q (by omega), hJ1 q (by omega), fr q a]
      have gL : ∀ q, (q < b ∨ b + 41 < q) → M2 q = L q := fun q c => by rw [hM2 q (by omega) (by omega) (by omega), hM1 q (by omega)]
      rw [g1, f3]
      -- the reference
      have hM3 : MI J2 M2 X := hM.hi (fun q hq => gI q (by omega) (by omega)) (fun q hq _ => gL q (by omega))
      unfold W_X9_undo
      have e6 : (up2 J2 436 0 0) 436 6 = nI (xk X) := by rw [up2_n (Or.inr (by decide)), hM3.2.2.1.1]
      rw [e6]
      have ek : nI (xk X) - 1 = nI (xk X - 1) := by rw [show (1 : Int32) = nI 1 from rfl, pk_sub (by omega)]
      rw [ek]
      refine ⟨fun _ => ?_, fun z => absurd ((nI_eq (b := 0) (by omega) (by omega)).mp z) k0⟩
      have m6 : (up2 (up2 J2 436 0 0) 436 6 (nI (xk X - 1))) 436 6 = nI (xk X - 1) := up2_s
      have mo : ∀ j, j ≠ 0 → j ≠ 6 → (up2 (up2 J2 436 0 0) 436 6 (nI (xk X - 1))) 436 j = J2 436 j := fun j a c => by rw [up2_n (Or.inr c), up2_n (Or.inr a)]
      have mr : ∀ q, q ≠ 436 → (up2 (up2 J2 436 0 0) 436 6 (nI (xk X - 1))) q = J2 q := fun q a => by rw [up2_row a, up2_row a]
      generalize up2 (up2 J2 436 0 0) 436 6 (nI (xk X - 1)) = J3 at m6 mo mr
      refine lp2 (fun n x l => L_X9_undo_26 J3 (fun r2 J M => P (nI (xk X - 1)) r2 J M) n x l) (fun x l => ∃ i, i ≤ 241 ∧ x = nI i ∧ sameL [437] M2 l ∧ ∀ q, q < i → l 437 q = xh X (xk X - 1) q) (fun x _ => 241 - x.toNatClampNeg) ?_ _ _ ⟨0, Nat.zero_le _, rfl, sameL.rf _ _, fun q hq => absurd hq (Nat.not_lt_zero _)⟩
      rintro n x l ⟨i, i0, rfl, i1, i2⟩ ih
      refine pk_le 241 i (fun q2 => ?_) (fun q2 => ?_) rfl rfl (by omega) (by omega)
      · have ei : i = 241 := by omega
        subst ei
        rw [m6]
        -- the state behind it
        have rqq : rq (xh X (xk X - 1)) (l 437) := fun q hq => i2 q hq
        have hr2 : RV (xC X) B (l 437) := hh.cg hV.1 rqq
        have hV2 : XV (popX X (l 437)) B := ⟨hV.1, hr2, ⟨by show xk X - 1 ≤ 10; omega, fun j hj => hV.2.2.1.2 j (by have : j < xk X - 1 := hj; omega)⟩, hV.2.2.2.1, hV.2.2.2.2⟩
        have gI3 : ∀ q, q ≠ 1 → q ≠ 436 → (q < b ∨ b + 41 < q) → J3 q = I q := fun q a1 a2 a3 => by rw [mr q a2, gI q a1 a3]
        have gL3 : ∀ q, q ≠ 437 → (q < b ∨ b + 41 < q) → l q = L q := fun q a1 a2 => by rw [i1 q (nin1 a1), gL q a2]
        have hB3 : BC J3 l b (xC X) (xh X (xk X - 1)) := hB2.fr hh.2.2.1 (fun q a1 a2 => mr q (by omega)) (fun q a1 a2 => i1 q (nin1 (by omega)))
        have hB4 : BC J3 l b (xC X) (l 437) := hB3.st hV.1 (fun q a1 a2 => rqq q (by omega)) (hB3.2.1.cg hV.1 hh rqq) (fun _ _ _ _ => ⟨rfl, rfl⟩)
        refine fin _ _ _ (popX X (l 437)) ⟨hV2, ⟨?_, rfl, ⟨m6, fun j hj i hi => ?_⟩, ?_, ?_, ?_, ?_⟩, c1, hB4, ⟨?_, (nx + 9) % 10, Nat.mod_lt _ (by omega), ?_, fun j hj => ?_⟩, ⟨fun q3 => ?_, fun s hs => ?_⟩, ?_, ?_, ?_⟩
        · unfold MC
          rw [mo 10 (by decide) (by decide), mo 11 (by decide) (by decide), mo 7 (by decide) (by decide), mo 8 (by decide) (by decide), mo 9 (by decide) (by decide), mr 441 (by decide), mr 442 (by decide), mr 443 (by decide)]
          exact hM3.1
        · rw [i1 440 (by decide)]
          exact hM3.2.2.1.2 j (by have : j < xk X - 1 := hj; omega) i hi
        · rw [mo 5 (by decide) (by decide), i1 439 (by decide)]
          exact hM3.2.2.2.1
        · rw [mo 22 (by decide) (by decide), mr 447 (by decide)]
          exact hM3.2.2.2.2.1
        · rw [mo 30 (by decide) (by decide)]
          exact hM3.2.2.2.2.2.1
        · rw [mo 36 (by decide) (by decide), mr 452 (by decide)]
          exact hM3.2.2.2.2.2.2
        · rw [mr 1 (by decide), g1]
          exact f3
        · rw [mr 1 (by decide), g1]
          exact f4
        · have hj2 : j < xk X - 1 := hj
          have hm : (nx + 10 - xk X + j) % 10 < 10 := Nat.mod_lt _ (by omega)
          show SC J3 l (34 + 31 * (((nx + 9) % 10 + 10 - (xk X - 1) + j) % 10)) (xC X) (xh X j)
          rw [show ((nx + 9) % 10 + 10 - (xk X - 1) + j) % 10 = (nx + 10 - xk X + j) % 10 by omega]
          exact (c6 j (by omega)).fr (hV.2.2.1.2 j (by omega)).2.2.1 (fun q a1 a2 => gI3 q (by omega) (by omega) (by omega)) (fun q a1 a2 => gL3 q (by omega) (by omega))
        · rw [mr 1 (by decide), g1, f2]
          exact c7.1 q3
        · rw [mr 1 (by decide), g1, f2]
          exact ⟨(c7.2 s hs).1, (c7.2 s hs).2.fr (hV.2.2.2.1 s hs).2.2.1 (fun q a1 a2 => gI3 q (by omega) (by omega) (by omega)) (fun q a1 a2 => gL3 q (by omega) (by omega))⟩
        · rw [gI3 0 (by omega) (by omega) (by omega), gI3 350 (by omega) (by omega) (by omega)]
          exact c8
        · rw [gI3 0 (by omega) (by omega) (by omega)]
          exact c9
        · rw [gI3 0 (by omega) (by omega) (by omega), gI3 351 (by omega) (by omega) (by omega)]
          exact c10
      · have ei : ((241 : Int32) * J3 436 6) + nI i = nI (241 * (xk X - 1) + i) := by rw [m6, show (241 : Int32) = nI 241 from rfl, pk_mul, nI_add]
        rw [pk_cl _ ei (by omega), pk_cl i rfl (by omega), i1 440 (by decide), hM3.2.2.1.2 (xk X - 1) (by omega) i q2]
        refine ⟨pk_in _ 2410 (by omega) ei, pk_in i 241 q2 rfl, ?_⟩
        rintro _ rfl
        refine ih _ _ ⟨i + 1, by omega, nI_1 i, i1.up in1, fun q hq => ?_⟩ (by rw [nI_1, nI_clamp (by omega), nI_clamp (by omega)]; omega)
        rw [up2_at]
        by_cases y : q = i
        · subst y
          rw [if_pos rfl]
        · rw [if_neg y]
          exact i2 q (by omega)
    refine ⟨fun z => go _ ?_, fun z => go _ ?_⟩
    · have : nx ≠ 0 := fun e => z (by rw [c5, e]; rfl)
      rw [c5, show (1 : Int32) = nI 1 from rfl, pk_sub (by omega)]
      congr 1
      omega
    · rw [c5] at z
      have : nx = 0 := (nI_eq (b := 0) (by omega) (by omega)).mp z
      subst this
      rfl
  · have k0 : xk X = 0 := (nI_eq (b := 0) (by omega) (by omega)).mp q
    refine (show W_X9_undo I L (fun r2 J M => P (-1) r2 J M) from ?_)
    unfold W_X9_undo
    have e6 : (up2 I 436 0 0) 436 6 = 0 := by rw [up2_n (Or.inr (by decide)), hM.2.2.1.1, k0]; rfl
    rw [e6]
    exact ⟨fun z => absurd rfl z, fun _ => fin _ _ _ X (INV.thr ⟨hV, hM, ⟨c1, c2, ⟨c3, nx, c4, c5, c6⟩, c7, c8, c9, c10⟩⟩)⟩
def savX (X : XT) : XT := (xC X, xr X, (xk X, xh X), some (xr X), X.2.2.2.2)
theorem op_save {P : TI → TL → Prop} (h : INV I L b d X B) (fin : ∀ J M X2, INV J M b d X2 B → P J M) : W_X8_saveSnapshot I L b d (fun I1 L1 => W_X9_saveSnapshot I1 L1 (fun J M => P J M)) := by
  obtain ⟨hV, hM, hc⟩ := h
  obtain ⟨c1, c2, ⟨c3, nx, c4, c5, c6⟩, c7, c8, c9, c10⟩ := hc
  have hb := bn_lt c1.1
  unfold W_X8_saveSnapshot W_X4_keep
  refine s_copyFrom (show stOK 3 by show _ ∈ stL; decide) (bn_st c1.1) (by omega) hV.1 hV.2.1 c2.2.1 (fun J1 M1 hJ1 hM1 hS1 => ?_)
  have gI : ∀ q, q ≠ 1 → 33 < q ∨ q < 3 → (up2 J1 1 2 1) q = I q := fun q a c => by rw [up2_row a, hJ1 q (by omega)]
  have g3 : (up2 J1 1 2 1) 1 3 = I 1 3 := by rw [up2_n (Or.inr (by decide)), hJ1 1 (by omega)]
  have g4 : (up2 J1 1 2 1) 1 4 = I 1 4 := by rw [up2_n (Or.inr (by decide)), hJ1 1 (by omega)]
  have g2 : (up2 J1 1 2 1) 1 2 = 1 := up2_s
  have gS : SC (up2 J1 1 2 1) M1 3 (xC X) (xr X) := hS1.fr hV.2.1.2.2.1 (fun q a c => up2_row (by omega)) (fun _ _ _ => rfl)
  generalize up2 J1 1 2 1 = J2 at gI g3 g4 g2 gS
  have gL : ∀ q, 33 < q ∨ q < 3 → M1 q = L q := fun q c => hM1 q (by omega)
  have hM3 : MI J2 M1 X := hM.hi (fun q hq => gI q (by omega) (by omega)) (fun q hq _ => gL q (by omega))
  unfold W_X9_saveSnapshot
  have m0 := m_thr (x := 0) hM3
  refine lp2 (fun n x l => L_X9_saveSnapshot_7 (up2 J2 436 0 0) P n x l) (fun x l => ∃ i, i ≤ 241 ∧ x = nI i ∧ sameL [439] M1 l ∧ ∀ q, q < i → l 439 q = xr X q) (fun x _ => 241 - x.toNatClampNeg) ?_ _ _ ⟨0, Nat.zero_le _, rfl, sameL.rf _ _, fun q hq => absurd hq (Nat.not_lt_zero _)⟩
  rintro n x l ⟨i, i0, rfl, i1, i2⟩ ih
  refine pk_le 241 i (fun q2 => ?_) (fun q2 => ?_) rfl rfl (by omega) (by omega)
  · have ei : i = 241 := by omega
    subst ei
    have mo : ∀ j, j ≠ 0 → j ≠ 5 → (up2 (up2 J2 436 0 0) 436 5 1) 436 j = J2 436 j := fun j a c => by rw [up2_n (Or.inr c), up2_n (Or.inr a)]
    have mr : ∀ q, q ≠ 436 → (up2 (up2 J2 436 0 0) 436 5 1) q = J2 q := fun q a => by rw [up2_row a, up2_row a]
    have m5 : (up2 (up2 J2 436 0 0) 436 5 1) 436 5 = 1 := up2_s
    generalize up2 (up2 J2 436 0 0) 436 5 1 = J3 at mo mr m5
    have gI3 : ∀ q, q ≠ 1 → q ≠ 436 → 33 < q ∨ q < 3 → J3 q = I q := fun q a1 a2 a3 => by rw [mr q a2, gI q a1 a3]
    have gL3 : ∀ q, q ≠ 439 → 33 < q ∨ q < 3 → l q = L q := fun q a1 a2 => by rw [i1 q (nin1 a1), gL q a2]
    refine fin _ _ (savX X) ⟨⟨hV.1, hV.2.1, hV.2.2.1, fun s hs => ?_, hV.2.2.2.2⟩, ⟨?_, ?_, ⟨?_, fun j hj i hi => ?_⟩, ⟨fun z => absurd z (by show some _ ≠ none; simp), fun s hs => ?_⟩, ?_, ?_, ?_⟩, c1, ?_, ⟨?_, nx, c4, ?_, fun j hj => ?_⟩, ⟨fun z => absurd z (by show some _ ≠ none; simp), fun s hs => ?_⟩, ?_, ?_, ?_⟩
    · have : xr X = s := Option.some.inj hs
      rw [← this]
      exact hV.2.1
    · unfold MC
      rw [mo 10 (by decide) (by decide), mo 11 (by decide) (by decide), mo 7 (by decide) (by decide), mo 8 (by decide) (by decide), mo 9 (by decide) (by decide), mr 441 (by decide), mr 442 (by decide), mr 443 (by decide)]
      exact hM3.1
    · rw [i1 437 (by decide)]
      exact hM3.2.1
    · rw [mo 6 (by decide) (by decide)]
      exact hM3.2.2.1.1
    · rw [i1 440 (by decide)]
      exact hM3.2.2.1.2 j hj i hi
    · have : xr X = s := Option.some.inj hs
      rw [← this]
      exact ⟨m5, fun q hq => i2 q hq⟩
    · rw [mo 22 (by decide) (by decide), mr 447 (by decide)]
      exact hM3.2.2.2.2.1
    · rw [mo 30 (by decide) (by decide)]
      exact hM3.2.2.2.2.2.1
    · rw [mo 36 (by decide) (by decide), mr 452 (by decide)]
      exact hM3.2.2.2.2.2.2
    · exact c2.fr hV.2.1.2.2.1 (fun q a1 a2 => gI3 q (by omega) (by omega) (by omega)) (fun q a1 a2 => gL3 q (by omega) (by omega))
    · rw [mr 1 (by decide), g3]
      exact c3
    · rw [mr 1 (by decide), g4]
      exact c5
    · have hm : (nx + 10 - xk X + j) % 10 < 10 := Nat.mod_lt _ (by omega)
      exact (c6 j hj).fr (hV.2.2.1.2 j hj).2.2.1 (fun q a1 a2 => gI3 q (by omega) (by omega) (by omega)) (fun q a1 a2 => gL3 q (by omega) (by omega))
    · have : xr X = s := Option.some.inj hs
      rw [← this, mr 1 (by decide)]
      exact ⟨g2, gS.fr hV.2.1.2.2.1 (fun q a1 a2 => mr q (by omega)) (fun q a1 a2 => i1 q (nin1 (by omega)))⟩
    · rw [gI3 0 (by omega) (by omega) (by omega), gI3 350 (by omega) (by omega) (by omega)]
      exact c8
    · rw [gI3 0 (by omega) (by omega) (by omega)]
      exact c9
    · rw [gI3 0 (by omega) (by omega) (by omega), gI3 351 (by omega) (by omega) (by omega)]
      exact c10
  · rw [pk_cl i rfl (by omega), i1 437 (by decide), hM3.2.1]
    refine ⟨pk_in i 241 q2 rfl, pk_in i 241 q2 rfl, ih _ _ ⟨i + 1, by omega, nI_1 i, i1.up in1, fun q hq => ?_⟩ (by rw [nI_1, nI_clamp (by omega), nI_clamp (by omega)]; omega)⟩
    rw [up2_at]
    by_cases y : q = i
    · subst y
      rw [if_pos rfl]
    · rw [if_neg y]
      exact i2 q (by omega)
def rstX (X : XT) (r : RW) : XT := (xC X, r, (0, xh X), X.2.2.2)
theorem op_restore {P : Int32 → Int32 → TI → TL → Prop} (h : INV I L b d X B) (fin : ∀ r J M X2, INV J M b d X2 B → P r r J M) : W_X8_restoreSnapshot I L b d (fun r I1 L1 => W_X9_restoreSnapshot I1 L1 (fun r2 J M => P r r2 J M)) := by
  obtain ⟨hV, hM, hc⟩ := h
  obtain ⟨c1, c2, ⟨c3, nx, c4, c5, c6⟩, c7, c8, c9, c10⟩ := id hc
  have hb := bn_lt c1.1
  unfold W_X8_restoreSnapshot
  cases hs : xs X with
  | none =>
    rw [c7.1 hs]
    refine ⟨fun z => absurd rfl z, fun _ => ?_⟩
    refine (show W_X9_restoreSnapshot I L (fun r2 J M => P 0 r2 J M) from ?_)
    unfold W_X9_restoreSnapshot
    have e5 : (up2 I 436 0 0) 436 5 = 0 := by rw [up2_n (Or.inr (by decide))]; exact hM.2.2.2.1.1 hs
    rw [e5]
    exact ⟨fun z => absurd rfl z, fun _ => fin _ _ _ X (INV.thr ⟨hV, hM, hc⟩)⟩
  | some s =>
    have hh := hV.2.2.2.1 s hs
    obtain ⟨k1, k2⟩ := c7.2 s hs
    rw [k1]
    refine ⟨fun _ => ?_, fun z => absurd z (by decide)⟩
    unfold W_X4_bringBack
    refine s_copyFrom (bn_st c1.1) (show stOK 3 by show _ ∈ stL; decide) (by omega) hV.1 hh k2 (fun J1 M1 hJ1 hM1 hS1 => ?_)
    have cc : CC (up2 J1 1 3 0) (b + 1) (xC X) := c2.1.fr (fun q a c => by rw [up2_row (by omega), hJ1 q (by omega)])
    have hS2 : SC (up2 J1 1 3 0) M1 (b + 6) (xC X) s := hS1.fr hh.2.2.1 (fun q a c => up2_row (by omega)) (fun _ _ _ => rfl)
    refine c_refresh c1.1 hV.1 hh cc hS2 (fun J2 M2 hJ2 hM2 hB2 => ?_)
    have g1 : J2 1 = (up2 J1 1 3 0) 1 := hJ2 1 (by omega)
    have f3 : J2 1 3 = 0 := by rw [g1, up2_s]
    have f4 : J2 1 4 = I 1 4 := by rw [g1, up2_n (Or.inr (by decide)), hJ1 1 (by omega)]
    have f2 : J2 1 2 = I 1 2 := by rw [g1, up2_n (Or.inr (by decide)), hJ1 1 (by omega)]
    have gI : ∀ q, q ≠ 1 → (q < b ∨ b + 41 < q) → J2 q = I q := fun q a c => by rw [hJ2 q (by omega), up2_row a, hJ1 q (by omega)]
    have gL : ∀ q, (q < b ∨ b + 41 < q) → M2 q = L q := fun q c => by rw [hM2 q (by omega) (by omega) (by omega), hM1 q (by omega)]
    have hM3 : MI J2 M2 X := hM.hi (fun q hq => gI q (by omega) (by omega)) (fun q hq _ => gL q (by omega))
    refine (show W_X9_restoreSnapshot J2 M2 (fun r2 J M => P 1 r2 J M) from ?_)
    unfold W_X9_restoreSnapshot
    have e5 : (up2 J2 436 0 0) 436 5 = 1 := by rw [up2_n (Or.inr (by decide))]; exact (hM3.2.2.2.1.2 s hs).1
    rw [e5]
    refine ⟨fun _ => ?_, fun z => absurd z (by decide)⟩
    refine lp2 (fun n x l => L_X9_restoreSnapshot_16 (up2 J2 436 0 0) (fun r2 J M => P 1 r2 J M) n x l) (fun x l => ∃ i, i ≤ 241 ∧ x = nI i ∧ sameL [437] M2 l ∧ ∀ q, q < i → l 437 q = s q) (fun x _ => 241 - x.toNatClampNeg) ?_ _ _ ⟨0, Nat.zero_le _, rfl, sameL.rf _ _, fun q hq => absurd hq (Nat.not_lt_zero _)⟩
    rintro n x l ⟨i, i0, rfl, i1, i2⟩ ih
    refine pk_le 241 i (fun q2 => ?_) (fun q2 => ?_) rfl rfl (by omega) (by omega)
    · have ei : i = 241 := by omega
      subst ei
      have mo : ∀ j, j ≠ 0 → j ≠ 6 → (up2 (up2 J2 436 0 0) 436 6 0) 436 j = J2 436 j := fun j a c => by rw [up2_n (Or.inr c), up2_n (Or.inr a)]
      have mr : ∀ q, q ≠ 436 → (up2 (up2 J2 436 0 0) 436 6 0) q = J2 q := fun q a => by rw [up2_row a, up2_row a]
      have m6 : (up2 (up2 J2 436 0 0) 436 6 0) 436 6 = 0 := up2_s
      generalize up2 (up2 J2 436 0 0) 436 6 0 = J3 at mo mr m6
      have rqq : rq s (l 437) := fun q hq => i2 q hq
      have hr2 : RV (xC X) B (l 437) := hh.cg hV.1 rqq
      have gI3 : ∀ q, q ≠ 1 → q ≠ 436 → (q < b ∨ b + 41 < q) → J3 q = I q := fun q a1 a2 a3 => by rw [mr q a2, gI q a1 a3]
      have gL3 : ∀ q, q ≠ 437 → (q < b ∨ b + 41 < q) → l q = L q := fun q a1 a2 => by rw [i1 q (nin1 a1), gL q a2]
      have hB3 : BC J3 l b (xC X) s := hB2.fr hh.2.2.1 (fun q a1 a2 => mr q (by omega)) (fun q a1 a2 => i1 q (nin1 (by omega)))
      have hB4 : BC J3 l b (xC X) (l 437) := hB3.st hV.1 (fun q a1 a2 => rqq q (by omega)) (hB3.2.1.cg hV.1 hh rqq) (fun _ _ _ _ => ⟨rfl, rfl⟩)
      refine fin _ _ _ (rstX X (l 437)) ⟨⟨hV.1, hr2, ⟨Nat.zero_le _, fun j hj => absurd hj (Nat.not_lt_zero _)⟩, hV.2.2.2.1, hV.2.2.2.2⟩, ⟨?_, rfl, ⟨m6, fun j hj => absurd hj (Nat.not_lt_zero _)⟩, ?_, ?_, ?_, ?_⟩, c1, hB4, ⟨?_, nx, c4, ?_, fun j hj => absurd hj (Nat.not_lt_zero _)⟩, ⟨fun q3 => ?_, fun s2 hs2 => ?_⟩, ?_, ?_, ?_⟩
      · unfold MC
        rw [mo 10 (by decide) (by decide), mo 11 (by decide) (by decide), mo 7 (by decide) (by decide), mo 8 (by decide) (by decide), mo 9 (by decide) (by decide), mr 441 (by decide), mr 442 (by decide), mr 443 (by decide)]
        exact hM3.1
      · rw [mo 5 (by decide) (by decide), i1 439 (by decide)]
        exact hM3.2.2.2.1
      · rw [mo 22 (by decide) (by decide), mr 447 (by decide)]
        exact hM3.2.2.2.2.1
      · rw [mo 30 (by decide) (by decide)]
        exact hM3.2.2.2.2.2.1
      · rw [mo 36 (by decide) (by decide), mr 452 (by decide)]
        exact hM3.2.2.2.2.2.2
      · rw [mr 1 (by decide)]
        exact f3
      · rw [mr 1 (by decide), f4]
        exact c5
      · rw [mr 1 (by decide), f2]
        exact c7.1 q3
      · rw [mr 1 (by decide), f2]
        exact ⟨(c7.2 s2 hs2).1, (c7.2 s2 hs2).2.fr (hV.2.2.2.1 s2 hs2).2.2.1 (fun q a1 a2 => gI3 q (by omega) (by omega) (by omega)) (fun q a1 a2 => gL3 q (by omega) (by omega))⟩
      · rw [gI3 0 (by omega) (by omega) (by omega), gI3 350 (by omega) (by omega) (by omega)]
        exact c8
      · rw [gI3 0 (by omega) (by omega) (by omega)]
        exact c9
      · rw [gI3 0 (by omega) (by omega) (by omega), gI3 351 (by omega) (by omega) (by omega)]
        exact c10
    · rw [pk_cl i rfl (by omega), i1 439 (by decide), (hM3.2.2.2.1.2 s hs).2 i q2]
      refine ⟨pk_in i 241 q2 rfl, pk_in i 241 q2 rfl, ih _ _ ⟨i + 1, by omega, nI_1 i, i1.up in1, fun q hq => ?_⟩ (by rw [nI_1, nI_clamp (by omega), nI_clamp (by omega)]; omega)⟩
      rw [up2_at]
      by_cases y : q = i
      · subst y
        rw [if_pos rfl]
      · rw [if_neg y]
        exact i2 q (by omega)
end UNDO
