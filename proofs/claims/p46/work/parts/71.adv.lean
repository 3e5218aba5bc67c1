/-! the class goes to the next token -/
section ADV
variable {I J : TI} {L M : TL}
theorem vp350 {x : Int32} {n : Nat} (h : x = nI n) (hn : n < 600) : vp_in x (LEN 350) := pk_in n 600 hn h
/-- rows that a token leaves -/
def tkO (I J : TI) : Prop := (∀ q, q ≠ 344 → J q = I q) ∧ ∀ j, j ≠ 2 → j ≠ 3 → j ≠ 4 → j ≠ 5 → J 344 j = I 344 j
theorem c_adv0 {Q : TI → Prop} {c : Nat → Nat} {ln : Nat} {S : PS} (hc : txV c ln) (hev : te S ≤ ln) (h1 : I 344 1 = nI ln) (h3 : I 344 3 = nI (te S)) (h6 : I 344 6 = nI (er S)) (h7 : I 344 7 = ep S) (h8 : ∀ i, i < ln → I 350 i = sb (c i)) (k : ∀ J, (∀ q, q ≠ 344 → J q = I q) → TC J c ln (tkN c ln (te S), S.2) → Q J) : ∃ n504, L_X7_advance_8 L 350 Q n504 I := by
  obtain ⟨hl, hc⟩ := hc
  refine lp1 (fun n i => L_X7_advance_8 L 350 Q n i) (fun i => ∃ p, te S ≤ p ∧ p ≤ ln ∧ i 344 3 = nI p ∧ runT (wsB c) ln (te S) = runT (wsB c) ln p ∧ (∀ q, q ≠ 344 → i q = I q) ∧ ∀ j, j ≠ 3 → i 344 j = I 344 j) (fun i => ln - (i 344 3).toNatClampNeg) ?_ _ ⟨te S, Nat.le_refl _, hev, h3, rfl, fun _ _ => rfl, fun _ _ => rfl⟩
  rintro n i ⟨p, p1, p2, i3, ir, iq, ij⟩ ih
  have it : ∀ x, x < ln → i 350 x = sb (c x) := fun x hx => by rw [iq 350 (by decide)]; exact h8 x hx
  -- behind the spaces
  have tok : runT (wsB c) ln p = p → B_X7_advance_60 i L 350 Q := by
    intro err
    rw [err] at ir
    have t0 : tkN c ln (te S) = if p < ln then (if ltB c p = true then (1, p, runT (ltB c) ln p) else if dgB c p = true then (2, p, runT (dgB c) ln p) else (3, p, p + 1)) else (0, p, p) := by unfold tkN; rw [ir]
    have f2 : (up2 i 344 2 (i 344 3)) 344 2 = nI p := by rw [up2_s, i3]
    have f3 : (up2 i 344 2 (i 344 3)) 344 3 = nI p := by rw [up2_n (Or.inr (by decide)), i3]
    have f1 : (up2 i 344 2 (i 344 3)) 344 1 = nI ln := by rw [up2_n (Or.inr (by decide)), ij 1 (by decide), h1]
    have g6 : (up2 i 344 2 (i 344 3)) 344 6 = nI (er S) := by rw [up2_n (Or.inr (by decide)), ij 6 (by decide), h6]
    have g7 : (up2 i 344 2 (i 344 3)) 344 7 = ep S := by rw [up2_n (Or.inr (by decide)), ij 7 (by decide), h7]
    have gt : ∀ x, x < ln → (up2 i 344 2 (i 344 3)) 350 x = sb (c x) := fun x hx => by rw [up2_row (by decide)]; exact it x hx
    have gq : ∀ q, q ≠ 344 → (up2 i 344 2 (i 344 3)) q = I q := fun q hq => by rw [up2_row hq]; exact iq q hq
    unfold B_X7_advance_60
    generalize up2 i 344 2 (i 344 3) = i1 at f1 f2 f3 g6 g7 gt gq
    -- a state behind a token
    have last : ∀ (J : TI) (t s e2 : Nat), tkN c ln (te S) = (t, s, e2) → (∀ q, q ≠ 344 → J q = I q) → J 344 1 = nI ln → J 344 2 = nI s → J 344 3 = nI e2 → J 344 4 = nI t → (t = 2 → J 344 5 = nI (min (nvF c s (e2 - s)) 1000000)) → J 344 6 = nI (er S) → J 344 7 = ep S → Q J := by
      intro J t s e2 ht hq a1 a2 a3 a4 a5 a6 a7
      refine k J hq ?_
      rw [ht]
      exact ⟨⟨a1, a2, a3, a4, a5, a6, a7⟩, fun x hx => by rw [hq 350 (by decide)]; exact h8 x hx⟩
    rw [f2, f1]
    refine pk_lt p ln (fun q => ?_) (fun q => ?_) rfl rfl (by omega) (by omega)
    · rw [if_pos q] at t0
      have vp := vp350 (x := nI p) rfl (show p < 600 by omega)
      have cb := hc p q
      rw [pk_cl p rfl (by omega), gt p q]
      -- not a letter
      have nl : ltB c p = false → B_X7_advance_122 i1 L 350 Q := by
        intro hlt
        rw [hlt, if_neg (by decide)] at t0
        unfold B_X7_advance_122
        rw [f2, pk_cl p rfl (by omega), gt p q]
        have sgn : dgB c p = false → B_X7_advance_157 i1 L 350 Q := by
          intro hd
          rw [hd, if_neg (by decide)] at t0
          unfold B_X7_advance_157
          have y3 : (up2 i1 344 4 3) 344 3 = nI p := by rw [up2_n (Or.inr (by decide)), f3]
          rw [y3, nI_1]
          refine last _ _ _ _ t0 (fun q2 hq2 => by rw [up2_row hq2, up2_row hq2]; exact gq q2 hq2) ?_ ?_ up2_s ?_ (fun z => absurd z (by decide)) ?_ ?_
          · rw [up2_n (Or.inr (by decide)), up2_n (Or.inr (by decide))]; exact f1
          · rw [up2_n (Or.inr (by decide)), up2_n (Or.inr (by decide))]; exact f2
          · rw [up2_n (Or.inr (by decide)), up2_s]; rfl
          · rw [up2_n (Or.inr (by decide)), up2_n (Or.inr (by decide))]; exact g6
          · rw [up2_n (Or.inr (by decide)), up2_n (Or.inr (by decide))]; exact g7
        have dgn : (sb (c p) < 48 ∨ 57 < sb (c p)) → dgB c p = false := fun z => by
          unfold dgB
          refine decide_eq_false (fun z2 => ?_)
          have := (sb_fig (c p) cb).mpr z2
          exact z.elim this.1 this.2
        refine ⟨vp, fun z => sgn (dgn (Or.inl z)), fun z1 => ⟨vp, fun z => sgn (dgn (Or.inr z)), fun z2 => ?_⟩⟩
        have hd : dgB c p = true := by
          unfold dgB
          exact decide_eq_true ((sb_fig (c p) cb).mp ⟨z1, z2⟩)
        rw [hd, if_pos rfl] at t0
        unfold W_X7_scanNumber
        have w1 : (up2 (up2 i1 344 4 2) 344 5 0) 344 1 = nI ln := by rw [up2_n (Or.inr (by decide)), up2_n (Or.inr (by decide))]; exact f1
        have w2 : (up2 (up2 i1 344 4 2) 344 5 0) 344 2 = nI p := by rw [up2_n (Or.inr (by decide)), up2_n (Or.inr (by decide))]; exact f2
        have w3 : (up2 (up2 i1 344 4 2) 344 5 0) 344 3 = nI p := by rw [up2_n (Or.inr (by decide)), up2_n (Or.inr (by decide))]; exact f3
        have w4 : (up2 (up2 i1 344 4 2) 344 5 0) 344 4 = 2 := by rw [up2_n (Or.inr (by decide)), up2_s]
        have w5 : (up2 (up2 i1 344 4 2) 344 5 0) 344 5 = 0 := up2_s
        have w6 : (up2 (up2 i1 344 4 2) 344 5 0) 344 6 = nI (er S) := by rw [up2_n (Or.inr (by decide)), up2_n (Or.inr (by decide))]; exact g6
        have w7 : (up2 (up2 i1 344 4 2) 344 5 0) 344 7 = ep S := by rw [up2_n (Or.inr (by decide)), up2_n (Or.inr (by decide))]; exact g7
        have wq : ∀ q, q ≠ 344 → (up2 (up2 i1 344 4 2) 344 5 0) q = I q := fun q2 hq2 => by rw [up2_row hq2, up2_row hq2]; exact gq q2 hq2
        generalize up2 (up2 i1 344 4 2) 344 5 0 = i2 at w1 w2 w3 w4 w5 w6 w7 wq
        refine lp1 (fun n i => L_X7_scanNumber_10 L 350 Q n i) (fun i => ∃ m, p ≤ m ∧ m ≤ ln ∧ i 344 3 = nI m ∧ runT (dgB c) ln p = runT (dgB c) ln m ∧ (∀ x, p ≤ x → x < m → dgB c x = true) ∧ i 344 5 = nI (min (nvF c p (m - p)) 1000000) ∧ (∀ q, q ≠ 344 → i q = I q) ∧ i 344 1 = nI ln ∧ i 344 2 = nI p ∧ i 344 4 = 2 ∧ i 344 6 = nI (er S) ∧ i 344 7 = ep S) (fun i => ln - (i 344 3).toNatClampNeg) ?_ _ ⟨p, Nat.le_refl _, by omega, w3, rfl, fun x a b => by omega, by rw [w5, Nat.sub_self]; rfl, wq, w1, w2, w4, w6, w7⟩
        rintro n2 i4 ⟨m, m1, m2, u3, ur, ua, u5, uq, u1, u2, u4, u6, u7⟩ ih2
        have fin2 : runT (dgB c) ln m = m → Q i4 := fun z => last i4 _ _ _ t0 uq u1 u2 (by rw [ur, z]; exact u3) u4 (fun _ => by rw [ur, z]; exact u5) u6 u7
        refine pk_le ln m (fun y => ?_) (fun y => ?_) u1 u3 (by omega) (by omega)
        · exact fin2 (runT_e y)
        · have cb2 := hc m y
          have vm := vp350 (x := nI m) rfl (show m < 600 by omega)
          have gm : i4 350 m = sb (c m) := by rw [uq 350 (by decide)]; exact h8 m y
          have dgn2 : (sb (c m) < 48 ∨ 57 < sb (c m)) → dgB c m = false := fun z => by
            unfold dgB
            refine decide_eq_false (fun z2 => ?_)
            have := (sb_fig (c m) cb2).mpr z2
            exact z.elim this.1 this.2
          rw [u3, pk_cl m rfl (by omega), gm]
          refine ⟨vm, fun z => fin2 (runT_0 (dgn2 (Or.inl z))), fun z1 => ⟨vm, fun z => fin2 (runT_0 (dgn2 (Or.inr z))), fun z2 => ⟨vm, ?_⟩⟩⟩
          have hd2 := (sb_fig (c m) cb2).mp ⟨z1, z2⟩
          have hdb : dgB c m = true := by unfold dgB; exact decide_eq_true hd2
          rintro _ rfl
          have nv : nvF c p (m + 1 - p) = 10 * nvF c p (m - p) + (c m - 48) := by
            rw [show m + 1 - p = (m - p) + 1 by omega]
            show 10 * nvF c p (m - p) + (c (p + (m - p)) - 48) = _
            rw [show p + (m - p) = m by omega]
          have e5 : mnI ((((10 : Int32) * (i4 344 5)) + sb (c m)) - 48) (1000000 : Int32) = nI (min (nvF c p (m + 1 - p)) 1000000) := by
            rw [u5, sb_lo (c m) (by omega), show (10 : Int32) = nI 10 from rfl, pk_mul, nI_add, show (48 : Int32) = nI 48 from rfl, pk_sub (by omega), show (1000000 : Int32) = nI 1000000 from rfl, mn_n (by omega) (by omega), nv]
            congr 1
            omega
          rw [e5, up2_n (Or.inr (show (3 : Nat) ≠ 5 by decide)), u3, nI_1]
          refine ih2 _ ⟨m + 1, by omega, by omega, up2_s, by rw [ur]; exact runT_1 y hdb, fun x a b => ?_, by rw [up2_n (Or.inr (by decide)), up2_s], fun q2 hq2 => by rw [up2_row hq2, up2_row hq2]; exact uq q2 hq2, ?_, ?_, ?_, ?_, ?_⟩ (by rw [up2_s, u3, nI_clamp (by omega), nI_clamp (by omega)]; omega)
          · by_cases z : x = m
            · rw [z]; exact hdb
            · exact ua x a (by omega)
          · rw [up2_n (Or.inr (by decide)), up2_n (Or.inr (by decide))]; exact u1
          · rw [up2_n (Or.inr (by decide)), up2_n (Or.inr (by decide))]; exact u2
          · rw [up2_n (Or.inr (by decide)), up2_n (Or.inr (by decide))]; exact u4
          · rw [up2_n (Or.inr (by decide)), up2_n (Or.inr (by decide))]; exact u6
          · rw [up2_n (Or.inr (by decide)), up2_n (Or.inr (by decide))]; exact u7
      have lt0 : (sb (c p) < 97 ∨ 122 < sb (c p)) → ltB c p = false := fun z => by
        unfold ltB
        refine decide_eq_false (fun z2 => ?_)
        have := (sb_lt (c p) cb).mpr z2
        exact z.elim this.1 this.2
      refine ⟨vp, fun z => nl (lt0 (Or.inl z)), fun z1 => ⟨vp, fun z => nl (lt0 (Or.inr z)), fun z2 => ?_⟩⟩
      have hlt : ltB c p = true := by
        unfold ltB
        exact decide_eq_true ((sb_lt (c p) cb).mp ⟨z1, z2⟩)
      rw [hlt, if_pos rfl] at t0
      unfold W_X7_scanWord
      have w1 : (up2 i1 344 4 1) 344 1 = nI ln := by rw [up2_n (Or.inr (by decide))]; exact f1
      have w2 : (up2 i1 344 4 1) 344 2 = nI p := by rw [up2_n (Or.inr (by decide))]; exact f2
      have w3 : (up2 i1 344 4 1) 344 3 = nI p := by rw [up2_n (Or.inr (by decide))]; exact f3
      have w4 : (up2 i1 344 4 1) 344 4 = 1 := up2_s
      have w6 : (up2 i1 344 4 1) 344 6 = nI (er S) := by rw [up2_n (Or.inr (by decide))]; exact g6
      have w7 : (up2 i1 344 4 1) 344 7 = ep S := by rw [up2_n (Or.inr (by decide))]; exact g7
      have wq : ∀ q, q ≠ 344 → (up2 i1 344 4 1) q = I q := fun q2 hq2 => by rw [up2_row hq2]; exact gq q2 hq2
      generalize up2 i1 344 4 1 = i2 at w1 w2 w3 w4 w6 w7 wq
      refine lp1 (fun n i => L_X7_scanWord_5 L 350 Q n i) (fun i => ∃ m, p ≤ m ∧ m ≤ ln ∧ i 344 3 = nI m ∧ runT (ltB c) ln p = runT (ltB c) ln m ∧ (∀ q, q ≠ 344 → i q = I q) ∧ i 344 1 = nI ln ∧ i 344 2 = nI p ∧ i 344 4 = 1 ∧ i 344 6 = nI (er S) ∧ i 344 7 = ep S) (fun i => ln - (i 344 3).toNatClampNeg) ?_ _ ⟨p, Nat.le_refl _, by omega, w3, rfl, wq, w1, w2, w4, w6, w7⟩
      rintro n2 i4 ⟨m, m1, m2, u3, ur, uq, u1, u2, u4, u6, u7⟩ ih2
      have fin2 : runT (ltB c) ln m = m → Q i4 := fun z => last i4 _ _ _ t0 uq u1 u2 (by rw [ur, z]; exact u3) u4 (fun z2 => absurd z2 (by decide)) u6 u7
      refine pk_le ln m (fun y => ?_) (fun y => ?_) u1 u3 (by omega) (by omega)
      · exact fin2 (runT_e y)
      · have cb2 := hc m y
        have vm := vp350 (x := nI m) rfl (show m < 600 by omega)
        have gm : i4 350 m = sb (c m) := by rw [uq 350 (by decide)]; exact h8 m y
        have ltn2 : (sb (c m) < 97 ∨ 122 < sb (c m)) → ltB c m = false := fun z => by
          unfold ltB
          refine decide_eq_false (fun z2 => ?_)
          have := (sb_lt (c m) cb2).mpr z2
          exact z.elim this.1 this.2
        rw [u3, pk_cl m rfl (by omega), gm]
        refine ⟨vm, fun z => fin2 (runT_0 (ltn2 (Or.inl z))), fun z1 => ⟨vm, fun z => fin2 (runT_0 (ltn2 (Or.inr z))), fun z2 => ?_⟩⟩
        have hdb : ltB c m = true := by unfold ltB; exact decide_eq_true ((sb_lt (c m) cb2).mp ⟨z1, z2⟩)
        rw [nI_1]
        refine ih2 _ ⟨m + 1, by omega, by omega, up2_s, by rw [ur]; exact runT_1 y hdb, fun q2 hq2 => by rw [up2_row hq2]; exact uq q2 hq2, ?_, ?_, ?_, ?_, ?_⟩ (by rw [up2_s, u3, nI_clamp (by omega), nI_clamp (by omega)]; omega)
        · rw [up2_n (Or.inr (by decide))]; exact u1
        · rw [up2_n (Or.inr (by decide))]; exact u2
        · rw [up2_n (Or.inr (by decide))]; exact u4
        · rw [up2_n (Or.inr (by decide))]; exact u6
        · rw [up2_n (Or.inr (by decide))]; exact u7
    · rw [if_neg (by omega)] at t0
      refine last _ _ _ _ t0 (fun q2 hq2 => by rw [up2_row hq2]; exact gq q2 hq2) ?_ ?_ ?_ up2_s (fun z => absurd z (by decide)) ?_ ?_
      · rw [up2_n (Or.inr (by decide))]; exact f1
      · rw [up2_n (Or.inr (by decide))]; exact f2
      · rw [up2_n (Or.inr (by decide))]; exact f3
      · rw [up2_n (Or.inr (by decide))]; exact g6
      · rw [up2_n (Or.inr (by decide))]; exact g7
  have i1 : i 344 1 = nI ln := by rw [ij 1 (by decide), h1]
  refine pk_le ln p (fun q => tok (runT_e q)) (fun q => ?_) i1 i3 (by omega) (by omega)
  have cb := hc p q
  have vp := vp350 (x := nI p) rfl (show p < 600 by omega)
  rw [i3, pk_cl p rfl (by omega), it p q]
  have nx : wsB c p = true → B_X7_advance_47 i L 350 Q (fun I => L_X7_advance_8 L 350 Q n I) := by
    intro hw
    unfold B_X7_advance_47
    rw [i3, nI_1]
    refine ih _ ⟨p + 1, by omega, by omega, up2_s, by rw [ir]; exact runT_1 q hw, fun q2 hq2 => by rw [up2_row hq2]; exact iq q2 hq2, fun j hj => by rw [up2_n (Or.inr hj)]; exact ij j hj⟩ (by rw [up2_s, i3, nI_clamp (by omega), nI_clamp (by omega)]; omega)
  have e32 := sb_eq (x := c p) (y := 32) cb (by omega)
  have e10 := sb_eq (x := c p) (y := 10) cb (by omega)
  refine ⟨vp, fun z => nx ?_, fun z1 => ⟨vp, fun z2 => tok (runT_0 ?_), fun z => nx ?_⟩⟩
  · have : c p = 32 := e32.mp z
    unfold wsB
    rw [this]
    rfl
  · unfold wsB
    have a1 : c p ≠ 32 := fun y => z1 (e32.mpr y)
    have a2 : c p ≠ 10 := fun y => z2 (e10.mpr y)
    rw [Bool.or_eq_false_iff]
    exact ⟨beq_eq_false_iff_ne.mpr a1, beq_eq_false_iff_ne.mpr a2⟩
  · have : c p = 10 := e10.mp z
    unfold wsB
    rw [this]
    rfl
theorem c_adv {Q : TI → Prop} {c : Nat → Nat} {ln : Nat} {S : PS} (hc : txV c ln) (h : TC I c ln S) (v : PV ln S) (k : ∀ J, (∀ q, q ≠ 344 → J q = I q) → TC J c ln (advF c ln S) → Q J) : W_X7_advance I L 350 Q := by
  unfold W_X7_advance
  refine c_failed h v (fun e => ⟨fun _ => ?_, fun z => absurd rfl z⟩) (fun e => ⟨fun z => absurd z (by decide), fun _ => ?_⟩)
  · have ea : advF c ln S = (tkN c ln (te S), S.2) := by unfold advF; rw [if_pos e]
    rw [ea] at k
    clear ea
    obtain ⟨⟨h1, h2, h3, h4, h5, h6, h7⟩, h8⟩ := h
    exact c_adv0 hc v.1.2 h1 h3 h6 h7 h8 k
  · refine k I (fun _ _ => rfl) ?_
    unfold advF
    rw [if_neg e]
    exact h
end ADV
