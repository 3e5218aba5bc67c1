/-! THE REFERENCE ALONE: its rows while the class holds what it will (K) -/
def IM (K : TI → TL → Prop) (I : TI) (L : TL) (X : XT) (B : Nat) : Prop := XV X B ∧ MI I L X ∧ ∀ J M, lowI I J → lowL L M → K J M
section IMS
variable {I J : TI} {L M : TL} {B : Nat} {X : XT} {K : TI → TL → Prop}
theorem IM.C (h : IM K I L X B) : CV (xC X) := h.1.1
theorem IM.r (h : IM K I L X B) : RV (xC X) B (xr X) := h.1.2.1
theorem IM.mc (h : IM K I L X B) : MC I (xC X) := h.2.1.1
theorem IM.row (h : IM K I L X B) : L 437 = xr X := h.2.1.2.1
theorem IM.k (h : IM K I L X B) : K I L := h.2.2 I L (fun _ _ => rfl) (fun _ _ => rfl)
theorem IM.nb (h : IM K I L X B) : 1 ≤ cI (xC X) ∧ cI (xC X) ≤ 4 ∧ cG (xC X) ≤ 12 ∧ 4 ≤ cH (xC X) ∧ cH (xC X) ≤ 60 := ⟨h.C.1.1, h.C.1.2, h.C.2.1, h.C.2.2.1.1, h.C.2.2.1.2⟩
theorem IM.dv (h : IM K I L X B) : DV (xC X) (xr X) := fun g hg => (h.r.2.2.2.2.1 g hg).2.2.2
theorem MI.ro (hm : MI I L X) (e : roI I J) (e2 : roL L M) : MI J M X := by
  unfold MI MC at *
  rw [e.2 10 (by omega) (by omega) (by omega) (by omega), e.2 11 (by omega) (by omega) (by omega) (by omega), e.2 7 (by omega) (by omega) (by omega) (by omega), e.2 8 (by omega) (by omega) (by omega) (by omega), e.2 9 (by omega) (by omega) (by omega) (by omega), e.1 441 (by omega) (by omega), e.1 442 (by omega) (by omega), e.1 443 (by omega) (by omega), e2 437 (by omega) (by omega) (by omega) (by omega), e.2 6 (by omega) (by omega) (by omega) (by omega), e2 440 (by omega) (by omega) (by omega) (by omega), e.2 5 (by omega) (by omega) (by omega) (by omega), e2 439 (by omega) (by omega) (by omega) (by omega), e.2 22 (by omega) (by omega) (by omega) (by omega), e.1 447 (by omega) (by omega), e.2 30 (by omega) (by omega) (by omega) (by omega), e.2 36 (by omega) (by omega) (by omega) (by omega), e.1 452 (by omega) (by omega)]
  exact hm
theorem IM.ro (h : IM K I L X B) (e : roI I J) (e2 : roL L M) : IM K J M X B :=
  ⟨h.1, h.2.1.ro e e2, fun J2 M2 a c => h.2.2 J2 M2 (fun k hk => (a k hk).trans (e.1 k (by omega) (by omega))) (fun k hk => (c k hk).trans (e2 k (by omega) (by omega) (by omega) (by omega)))⟩
theorem IM.thr (h : IM K I L X B) {x : Int32} : IM K (up2 I 436 0 x) L X B := h.ro ((roI.rf I).up (Or.inl rfl)) (roL.rf L)
theorem IM.wv (h : IM K I L X B) (e : roL L M) : IM K I M X B := h.ro (roI.rf I) e
theorem IM.out (h : IM K I L X B) {x : Int64} : IM K I (up2 L 456 0 x) X B := h.ro (roI.rf I) (roL.rf L).out
/-- class done, reference to come: what INV becomes -/
theorem IM.of {b d B2 : Nat} {Y : XT} (h : INV I L b d X B) (hV : XV Y B2) (hC : CI J M b d Y) (e : hiI I J) (e2 : hi2 L M) : IM (fun J M => CI J M b d Y) J M X B :=
  ⟨h.1, h.2.1.hi2 e e2, fun _ _ a c => hC.low hV a c⟩
/-- the record, and the row behind it -/
theorem n_rec {Q : TI → TL → Prop} (h : IM K I L X B) (k : ∀ J M, IM K J M (recX X) B → J 436 0 = I 436 0 → M 456 = L 456 → sameL [440] L M → (∀ j, j ≠ 6 → J 436 j = I 436 j) → Q J M) : W_X9_records I L Q :=
  m_records h.1 h.2.1 (fun J M hM hl hs hz _ hf => k J M ⟨recX_V h.1, hM, fun J2 M2 a c => h.2.2 J2 M2 (fun q hq => (a q hq).trans (hl q hq)) (fun q hq => (c q hq).trans (hs q (nin1 (by omega))))⟩ hz (hs 456 (by decide)) hs hf)
theorem n_end {Y : XT} {B2 b d : Nat} {r : RW} (h : IM (fun J M => CI J M b d (setr Y r)) I L Y B) (hV : XV (setr Y r) B2) (hr : M 437 = r) (e : ∀ k, k ≠ 437 → k ≠ 456 → k ≠ 444 → k ≠ 445 → k ≠ 446 → M k = L k) : INV I M b d (setr Y r) B2 := by
  refine ⟨hV, ?_, h.2.2 I M (fun _ _ => rfl) (fun k hk => e k (by omega) (by omega) (by omega) (by omega) (by omega))⟩
  obtain ⟨h1, h2, h3, h4, h5, h6, h7⟩ := h.2.1
  refine ⟨h1, hr, ?_, ?_, h5, h6, h7⟩
  · rw [e 440 (by decide) (by decide) (by decide) (by decide) (by decide)]
    exact h3
  · rw [e 439 (by decide) (by decide) (by decide) (by decide) (by decide)]
    exact h4
theorem n_waves {Q : TL → Prop} (h : IM K I L X B) (k : ∀ M, IM K I M X B → M 456 = L 456 → WEq (xC X) (xr X) (M 444) (M 445) (M 446) → Q M) : W_X9_waves I L Q := by
  refine s_waves h.mc h.C (fun g hg w hw => ?_) (fun M hM hW => k M (h.wv (roL.wv hM)) (hM 456 (by decide)) (by rw [← h.row]; exact hW))
  rw [h.row]
  have := (h.r.2.2.2.2.1 g hg).2.2.2 w hw
  omega
theorem n_noGate1 {Q : Int32 → TI → Prop} {x : Int32} {g : Nat} (h : IM K I L X B) (hx : x = nI (cI (xC X) + g)) (hg : g < cG (xC X)) (k : Q 0 (up2 I 436 0 0)) : W_X9_noGate x I L Q :=
  s_noGate h.mc h.C (fun _ => k) (fun e => absurd (hx ▸ rgi (Nat.le_add_right _ _) (by omega)) e)
theorem n_noTimes1 {Q : Int32 → TI → Prop} {x y z : Int32} {g f t : Nat} (h : IM K I L X B) (hz : z = nI (cI (xC X) + g)) (hg : g < cG (xC X)) (hx : x = nI f) (hy : y = nI t) (h1 : f ≤ t) (h2 : t ≤ cH (xC X)) (k : Q 0 (up2 I 436 0 0)) : W_X9_noTimes z x y I L Q := by
  have nb := h.nb
  subst hx; subst hy
  unfold W_X9_noTimes
  refine n_noGate1 h hz hg ⟨fun e => absurd rfl e, fun _ => ?_⟩
  refine s_in (a := 0) (c := cH (xC X) + 1) rfl rfl (by rw [h.thr.mc.2.2.1]; congr 1; exact (nI_pred _).symm) (by omega) (by omega) (by omega) (fun _ => ⟨fun e => absurd e (by decide), fun _ => ?_⟩) (fun e => absurd (rgi (Nat.zero_le _) (by omega)) e)
  refine s_in (a := f) (c := cH (xC X) + 1) rfl rfl (by rw [h.thr.mc.2.2.1]; congr 1; exact (nI_pred _).symm) (by omega) (by omega) (by omega) (fun _ => ⟨fun e => absurd e (by decide), fun _ => ?_⟩) (fun e => absurd (rgi h1 (by omega)) e)
  exact s_fails1 ⟨fun _ => k, fun e => absurd rfl e⟩
theorem n_delayFor {Q : Int32 → Prop} {x z : Int32} {g : Nat} {v : Bool} (h : IM K I L X B) (hx : x = nI (cI (xC X) + g)) (hg : g < cG (xC X)) (hz : z = bi v) (k : Q (nI (dl (xr X) g (if v = true then 0 else 1)))) : W_X9_delayFor x z I L Q := by
  subst hz
  unfold W_X9_delayFor B_X9_delayFor_12
  refine ⟨fun e => s_delayOf (w := 1) h.mc h.C h.row hx hg rfl (by omega) ?_, fun e => s_delayOf (w := 0) h.mc h.C h.row hx hg rfl (by omega) ?_⟩
  · rw [bi_1] at e
    rw [if_neg e] at k
    exact k
  · rw [bi_1] at e
    rw [if_pos e] at k
    exact k
theorem n_fp {Q : Int32 → TI → Prop} {x y : Int32} {g : Nat} (h : IM K I L X B) (hW : WEq (xC X) (xr X) (L 444) (L 445) (L 446)) (hx : x = nI (cI (xC X) + g)) (hg : g < cG (xC X))
    (k1 : ∀ J t i, IM K J L X B → fpI I J → y = nI i → pf (xC X) (xr X) g t = true → fb_ct (pf (xC X) (xr X) g) t = i → J 436 18 = nI t → J 436 19 = nI (en (xC X) (xr X) g t) → Q 1 J)
    (k0 : ∀ J, IM K J L X B → fpI I J → (∀ t i, y = nI i → pf (xC X) (xr X) g t = true → fb_ct (pf (xC X) (xr X) g) t = i → i < 2 ^ 31 → False) → J 436 20 = nI (fb_ct (pf (xC X) (xr X) g) 64) → Q 0 J) : W_X9_findsPulse x y I L Q :=
  s_findsPulse h.mc h.C h.row h.r.1.2 hx hg (WEq.is hW h.C (by omega)).1 (fun J t i e a1 a2 a3 a4 a5 => k1 J t i (h.ro e.ro (roL.rf L)) e a1 a2 a3 a4 a5) (fun J e a1 a2 => k0 J (h.ro e.ro (roL.rf L)) e a1 a2)
theorem n_np1 {Q : Int32 → TI → TL → Prop} {x y : Int32} {g t : Nat} (h : IM K I L X B) (hp : puA (xC X) (xr X) x y g t) (k : ∀ J M, IM K J M X B → M 456 = L 456 → WEq (xC X) (xr X) (M 444) (M 445) (M 446) → J 436 0 = 0 → J 436 18 = nI t → J 436 19 = nI (en (xC X) (xr X) g t) → Q 0 J M) : W_X9_noPulse x y I L Q := by
  have nb := h.nb
  obtain ⟨a1, a2, a3, i, a4, a5, a6⟩ := id hp
  unfold W_X9_noPulse
  refine n_noGate1 h a1 a2 ⟨fun _ => n_waves h.thr (fun M hM e hW => ?_), fun q => absurd rfl q⟩
  refine ⟨fun q => absurd q (nneg a5 a4), fun _ => n_fp hM hW a1 a2 (fun J t2 j hJ ef e1 e2 e3 e4 e5 => ?_) (fun J hJ ef q _ => (q t i a5 a3 a6 a4).elim)⟩
  have lt := pf_lt (g := g) e2
  have hj : j < 2 ^ 31 := by
    have := fb_ct_le (pf (xC X) (xr X) g) t2
    have e4 : fb_ct (pf (xC X) (xr X) g) t2 = j := e3
    omega
  have := (puA_one h.C hp ⟨a1, a2, e2, j, hj, e1, e3⟩).2
  subst this
  refine ⟨fun q => absurd q (by decide), fun _ => s_fails1 ⟨Or.inl rfl, k J M hJ e hW ?_ e4 e5⟩⟩
  rw [ef.z, up2_s]
theorem nrow4 (h : IM K I L X B) {j : Nat} (hj : j ≤ 20) : L 437 4 ≤ (nI j).toInt64 ↔ un (xr X 4) ≤ j := by
  have hc := h.r.2.2.1
  rw [h.row, nI_l (by omega)]
  conv => lhs; rw [un_e (xr X 4)]
  exact lN_le (by omega) (by omega)
theorem n_noDispute {Q : Int32 → TI → Prop} {x : Int32} (h : IM K I L X B) (h1 : rg x 0 (un (xr X 4)) → Q 0 (up2 I 436 0 0)) (h0 : ¬ rg x 0 (un (xr X 4)) → Q 1 (up2 I 436 0 1)) : W_X9_noDispute x I L Q := by
  have hc := h.r.2.2.1
  unfold W_X9_noDispute
  rw [h.row]
  have yes : rg x 0 (un (xr X 4)) → W_X9_fails 1 1 (up2 I 436 0 0) L (fun (r2659 : Int32) (I2660 : TI) => (r2659 = 0 ∨ r2659 = 1) ∧ (Q r2659 I2660)) := fun e => s_fails1 ⟨Or.inl rfl, h1 e⟩
  have no : ¬ rg x 0 (un (xr X 4)) → W_X9_fails 0 1 (up2 I 436 0 0) L (fun (r2659 : Int32) (I2660 : TI) => (r2659 = 0 ∨ r2659 = 1) ∧ (Q r2659 I2660)) := fun e => s_fails0 ⟨Or.inr rfl, by rw [up2_u]; exact h0 e⟩
  by_cases q : un (xr X 4) = 0
  · have e : xr X 4 - 1 = ((-1 : Int32)).toInt64 := by rw [un_e (xr X 4), q]; rfl
    rw [e]
    have nr : ¬ rg x 0 (un (xr X 4)) := by
      rintro ⟨n, _, n2, _⟩
      omega
    unfold W_X9_in
    rw [show (0 : Int64) = (0 : Int32).toInt64 from rfl, wide_lt, wide_lt]
    refine ⟨fun _ => no nr, fun e2 => ⟨fun _ => no nr, fun e3 => ?_⟩⟩
    rw [lt_nle, Int32.le_iff_toInt_le] at e2 e3
    rw [show (0 : Int32).toInt = 0 from rfl] at e2
    rw [show (-1 : Int32).toInt = -1 from rfl] at e3
    omega
  · refine s_in (a := 0) (c := un (xr X 4)) rfl rfl ?_ (by omega) (by omega) (by omega) yes no
    rw [show nI (un (xr X 4)) - 1 = nI (un (xr X 4) - 1) by rw [show (1 : Int32) = nI 1 from rfl, pk_sub (by omega)], nI_l (by omega)]
    conv => lhs; rw [un_e (xr X 4)]
    rw [show (1 : Int64) = lN 1 from rfl, lN_sub (by omega)]
theorem n_noD1 {Q : Int32 → TI → Prop} {x : Int32} {k : Nat} (h : IM K I L X B) (hx : x = nI k) (hk : k < un (xr X 4)) (q : Q 0 (up2 I 436 0 0)) : W_X9_noDispute x I L Q :=
  n_noDispute h (fun _ => q) (fun e => absurd (hx ▸ rgi (Nat.zero_le _) hk) e)
theorem n_loser {Q : Int32 → Prop} {k : Nat} {x : Int32} (h : IM K I L X B) (hx : x = nI k) (hk : k < un (xr X 4)) (q : Q (loF (xr X) k (dF (xr X) k 7))) : W_X9_loserOf x I L Q := by
  have hc := h.r.2.2.1
  unfold loF at q
  unfold W_X9_loserOf
  refine s_of (f := 5) h.row hx (by omega) rfl (by omega) (s_of (f := 7) h.row hx (by omega) rfl (by omega) ⟨fun e => s_of (f := 4) h.row hx (by omega) rfl (by omega) ?_, fun e => s_of (f := 4) h.row hx (by omega) rfl (by omega) ?_⟩)
  · rw [if_neg e] at q
    exact q
  · rw [if_pos e] at q
    exact q
theorem n_stake {Q : Int32 → Prop} {k : Nat} {x : Int32} (h : IM K I L X B) (hx : x = nI k) (hk : k < un (xr X 4)) (q : Q (prF (xC X) (dN (xr X) k) (dF (xr X) k 1) (dF (xr X) k 2))) : W_X9_stakeOf x I L Q := by
  have hc := h.r.2.2.1
  obtain ⟨s1, s2, s3, -⟩ := h.r.ds h.C hk
  unfold W_X9_stakeOf
  refine s_of (f := 0) h.row hx (by omega) rfl (by omega) (s_of (f := 1) h.row hx (by omega) rfl (by omega) (s_of (f := 2) h.row hx (by omega) rfl (by omega) (s_costOf h.mc h.C s3 s1.2 q)))
theorem n_replayed {Q : Int32 → Prop} {k : Nat} {x : Int32} (h : IM K I L X B) (hW : WEq (xC X) (xr X) (L 444) (L 445) (L 446)) (hx : x = nI k) (hk : k < un (xr X 4)) (q : Q (rpF (xC X) (xr X) k)) : W_X9_replayed x I L Q := by
  have nb := h.nb
  have hc := h.r.2.2.1
  obtain ⟨s1, s2, s3, s4, s5, s6, -⟩ := h.r.ds h.C hk
  unfold rpF at q
  unfold W_X9_replayed
  refine s_of (f := 0) h.row hx (by omega) rfl (by omega) ?_
  rw [s3, pk_cl (dN (xr X) k) rfl (by omega), (WEq.is hW h.C s1.2).2.2]
  refine ⟨pk_in _ 16 (by omega) rfl, ?_⟩
  rintro _ rfl
  have fin : ∀ s : Int64, s = (if dF (xr X) k 3 = 1 then deF (xC X) (xr X) (dN (xr X) k) else deF (xC X) (xr X) (dN (xr X) k) ^^^ (-1)) → B_X9_replayed_31 x s I L Q := by
    rintro s rfl
    unfold B_X9_replayed_31 W_X9_windowOf
    refine s_of (f := 1) h.row hx (by omega) rfl (by omega) (s_of (f := 2) h.row hx (by omega) rfl (by omega) ?_)
    refine s_times s4 s5 (by omega) (by omega) ⟨fun e => ?_, fun e => ?_⟩
    · rw [if_neg e] at q
      exact q
    · rw [if_pos e] at q
      exact q
  refine s_of (f := 3) h.row hx (by omega) rfl (by omega) ⟨fun e => fin _ (by rw [if_neg e]), fun e => fin _ (by rw [if_pos e])⟩
theorem n_isDisputed {Q : Int32 → Prop} {net t e : Nat} {x y z : Int32} (h : IM K I L X B) (hx : x = nI net) (hy : y = nI t) (hz : z = nI e) (h1 : (∃ k, k < un (xr X 4) ∧ hpP (xr X) net t e k) → Q 1) (h0 : ¬ (∃ k, k < un (xr X 4) ∧ hpP (xr X) net t e k) → Q 0) : W_X9_isDisputed x y z I L Q := by
  subst hx; subst hy; subst hz
  have hc := h.r.2.2.1
  unfold W_X9_isDisputed
  refine lp1 (fun n v => L_X9_isDisputed_3 (nI net) (nI t) (nI e) I L Q n v) (fun v => ∃ j, j ≤ un (xr X 4) ∧ v = nI j ∧ ∀ k, k < j → ¬ hpP (xr X) net t e k) (fun v => un (xr X 4) - v.toNatClampNeg) ?_ _ ⟨0, Nat.zero_le _, rfl, fun k hk => absurd hk (Nat.not_lt_zero _)⟩
  rintro n v ⟨j, j0, rfl, hq⟩ ih
  refine ek_if (nrow4 h (j := j) (by omega)) (fun z => ?_) (fun z => ?_)
  · refine h0 ?_
    rintro ⟨k, k1, k2⟩
    exact hq k (by omega) k2
  · have no : ¬ hpP (xr X) net t e j → B_X9_isDisputed_63 (nI net) (nI t) (nI e) (nI j) I L Q (fun v4 => L_X9_isDisputed_3 (nI net) (nI t) (nI e) I L Q n v4) := by
      intro y
      refine ih _ ⟨j + 1, by omega, nI_1 j, fun k hk => ?_⟩ (by rw [nI_1, nI_clamp (by omega), nI_clamp (by omega)]; omega)
      by_cases y2 : k = j
      · rw [y2]
        exact y
      · exact hq k (by omega)
    refine s_of (f := 0) h.row rfl (by omega) rfl (by omega) ⟨fun a => no (fun p => a p.1), fun a => s_of (f := 6) h.row rfl (by omega) rfl (by omega) ⟨fun a2 => no (fun p => p.2.1 a2), fun a2 => s_of (f := 1) h.row rfl (by omega) rfl (by omega) ⟨fun a3 => no (fun p => p.2.2.1 a3), fun a3 => s_of (f := 2) h.row rfl (by omega) rfl (by omega) ⟨fun a4 => no (fun p => p.2.2.2 a4), fun a4 => h1 ⟨j, by omega, a, a2, a3, a4⟩⟩⟩⟩⟩
end IMS
