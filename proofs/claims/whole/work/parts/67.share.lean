/-! excess, settledShare -/
section SHARE
variable {I J : TI} {L M : TL} {b d B : Nat} {X : XT}
def gcF (C : CQ) (w : Nat → Int64) (j : Nat) : Nat := fb_sm (fun g => chN (cH C) (w (cI C + g))) j
theorem gcF_cg {C : CQ} {w v : Nat → Int64} (h : ∀ n, n < cI C + cG C → w n = v n) : gcF C w (cG C) = gcF C v (cG C) := fb_sm_cong (fun g hg => by rw [h _ (by omega)])
theorem s_gateCh {Q : Int32 → Prop} {C : CQ} {p : Nat} (h : CC I (b + 1) C) (hC : CV C) (k : Q (nI (gcF C (L p) (cG C)))) : W_X0_gateChanges b p I L Q := by
  have hI := hC.1
  have hG := hC.2.1
  have hH := hC.2.2.1
  unfold W_X0_gateChanges
  rw [h.1]
  refine lp2 (fun n u v => L_X0_gateChanges_10 b p I L Q n u v) (fun u v => ∃ j, j ≤ cG C ∧ v = nI (cI C + j) ∧ u = nI (gcF C (L p) j)) (fun _ v => cI C + cG C - v.toNatClampNeg) ?_ _ _ ⟨0, Nat.zero_le _, rfl, rfl⟩
  rintro n u v ⟨j, h1, rfl, rfl⟩ ih
  show D_X0_gateChanges_10 b p I L Q _ _ (nI (cI C + j))
  unfold D_X0_gateChanges_10
  refine s_nets2 h ?_
  refine pk_le (cI C + cG C) (cI C + j) (fun hc => ?_) (fun hc => ?_) rfl rfl (by omega) (by omega)
  · have e : j = cG C := by omega
    rw [← e] at k
    exact k
  · rw [pk_cl (cI C + j) rfl (by omega)]
    refine ⟨pk_in _ 16 (by omega) rfl, s_changesC h.2.2.1 (by omega) (by omega) ?_⟩
    rw [nI_add]
    exact ih _ _ ⟨j + 1, by omega, nI_1 _, rfl⟩ (by rw [nI_1, nI_clamp (by omega), nI_clamp (by omega)]; omega)
theorem op_excess {P : UInt64 → UInt64 → TI → TL → Prop} (h : INV I L b d X B) (fin : ∀ r J M, INV J M b d X B → P r r J M) : W_X8_excess I L b d (fun r => W_X9_excess I L (fun r2 J M => P r r2 J M)) := by
  have nb := h.nb
  unfold W_X8_excess
  refine s_gateCh h.bc.1 h.C (s_gateCh h.bc.1 h.C ?_)
  obtain ⟨a, ha⟩ : ∃ a, a = nI (gcF (xC X) (L (b + 37)) (cG (xC X))) := ⟨_, rfl⟩
  obtain ⟨c, hc⟩ : ∃ c, c = nI (gcF (xC X) (L (b + 39)) (cG (xC X))) := ⟨_, rfl⟩
  rw [← ha, ← hc]
  have ref : ∀ r : UInt64, (¬ c = 0 → r = FP.ddiv (FP.i2d a) (FP.i2d c)) → (c = 0 → r = FP.dconst0) → W_X9_excess I L (fun r2 J M => P r r2 J M) := by
    intro r r1 r0
    unfold W_X9_excess
    refine m_waves h.thr (fun M hM e hW => ?_)
    have ea : gcF (xC X) (L (b + 37)) (cG (xC X)) = gcF (xC X) (M 444) (cG (xC X)) := gcF_cg (fun n hn => by rw [(h.bc.2.2 n hn).1, (WEq.is hW h.C hn).1])
    have ec : gcF (xC X) (L (b + 39)) (cG (xC X)) = gcF (xC X) (M 446) (cG (xC X)) := gcF_cg (fun n hn => by rw [(h.bc.2.2 n hn).2.2.1, (WEq.is hW h.C hn).2.2])
    rw [ea] at ha
    rw [ec] at hc
    have hmc := hM.mc
    rw [hmc.1]
    refine lp3 (fun n u v w => L_X9_excess_18 (up2 I 436 0 0) M (fun r2 J M => P r r2 J M) n u v w) (fun u v w => ∃ j, j ≤ cG (xC X) ∧ w = nI (cI (xC X) + j) ∧ u = nI (gcF (xC X) (M 444) j) ∧ v = nI (gcF (xC X) (M 446) j)) (fun _ _ w => cI (xC X) + cG (xC X) - w.toNatClampNeg) ?_ _ _ _ ⟨0, Nat.zero_le _, rfl, rfl, rfl⟩
    rintro n u v w ⟨j, h1, rfl, rfl, rfl⟩ ih
    show D_X9_excess_18 (up2 I 436 0 0) M _ _ _ _ (nI (cI (xC X) + j))
    unfold D_X9_excess_18
    refine s_nets9 hmc ?_
    refine pk_le (cI (xC X) + cG (xC X)) (cI (xC X) + j) (fun q => ?_) (fun q => ?_) rfl rfl (by omega) (by omega)
    · have e : j = cG (xC X) := by omega
      rw [e, ← ha, ← hc]
      refine ⟨fun z => ⟨fp_dd z, ?_⟩, fun z => ?_⟩
      · rw [r1 z]
        exact fin _ _ _ hM
      · rw [r0 z]
        exact fin _ _ _ hM
    · rw [pk_cl (cI (xC X) + j) rfl (by omega)]
      have v16 : vp_in (nI (cI (xC X) + j)) 16 := pk_in _ 16 (by omega) rfl
      refine ⟨v16, s_changes9 hmc.2.2.1 (by omega) ⟨v16, s_changes9 hmc.2.2.1 (by omega) ?_⟩⟩
      rw [nI_add, nI_add]
      exact ih _ _ _ ⟨j + 1, by omega, nI_1 _, rfl, rfl⟩ (by rw [nI_1, nI_clamp (by omega), nI_clamp (by omega)]; omega)
  exact ⟨fun z => ⟨fp_dd z, ref _ (fun _ => rfl) (fun e => absurd e z)⟩, fun z => ref _ (fun e => absurd z e) (fun _ => rfl)⟩
def shrF (r : RW) (j : Nat) : Nat := fb_sm (fun g => pc (r (9 + g))) j
theorem shrF_le (r : RW) : ∀ j, shrF r j ≤ 64 * j
  | 0 => Nat.le_refl _
  | j + 1 => by
    have := shrF_le r j
    have h2 := pc_le (r (9 + j))
    show fb_sm (fun g => pc (r (9 + g))) j + pc (r (9 + j)) ≤ _
    unfold shrF at this
    omega
theorem op_settledShare {P : UInt32 → UInt32 → TI → TL → Prop} (h : INV I L b d X B) (fin : ∀ r J M, INV J M b d X B → P r r J M) : W_X8_settledShare I L b d (fun r => vf_n32 r ∧ W_X9_settledShare I L (fun r2 J => P r r2 J L)) := by
  have nb := h.nb
  have e5 : I (b + 1) 5 = nI (cG (xC X)) := h.bc.1.2.1
  have e6 : I (b + 1) 6 = nI (cH (xC X)) := h.bc.1.2.2.1
  have hs := shrF_le (xr X) (cG (xC X))
  have hp : cG (xC X) * (cH (xC X) + 1) ≤ 12 * 61 := Nat.mul_le_mul nb.2.2.1 (by omega)
  have hp0 : cG (xC X) ≠ 0 → cG (xC X) * (cH (xC X) + 1) ≠ 0 := fun z y => by
    rcases Nat.mul_eq_zero.mp y with q | q <;> omega
  have ref : ∀ r : UInt32, (cG (xC X) ≠ 0 → r = FP.fdiv (FP.i2f (nI (shrF (xr X) (cG (xC X))))) (FP.i2f (nI (cG (xC X) * (cH (xC X) + 1))))) → (cG (xC X) = 0 → r = FP.fconst0) → W_X9_settledShare I L (fun r2 J => P r r2 J L) := by
    intro r r1 r0
    have hmc := h.thr (x := 0) |>.mc
    unfold W_X9_settledShare
    refine lp2 (fun n u v => L_X9_settledShare_9 (up2 I 436 0 0) L (fun r2 J => P r r2 J L) n u v) (fun u v => ∃ j, j ≤ cG (xC X) ∧ v = nI j ∧ u = nI (shrF (xr X) j)) (fun _ v => cG (xC X) - v.toNatClampNeg) ?_ _ _ ⟨0, Nat.zero_le _, rfl, rfl⟩
    rintro n u v ⟨j, h1, rfl, rfl⟩ ih
    show D_X9_settledShare_9 (up2 I 436 0 0) L _ _ _ (nI j)
    unfold D_X9_settledShare_9
    rw [hmc.2.1, hmc.2.2.1]
    refine pk_le (cG (xC X)) j (fun q => ?_) (fun q => ?_) rfl rfl (by omega) (by omega)
    · have e : j = cG (xC X) := by omega
      rw [e, nI_1, pk_mul]
      refine ⟨fun z => ?_, fun z => ?_⟩
      · have z2 : cG (xC X) ≠ 0 := fun y => z (by rw [y]; rfl)
        refine ⟨fp_ff (by omega) (by omega) (hp0 z2), ?_⟩
        rw [r1 z2]
        exact fin _ _ _ h.thr
      · rw [r0 ((nI_eq (b := 0) (by omega) (by omega)).mp z)]
        exact fin _ _ _ h.thr
    · have e9 : (9 : Int32) + nI j = nI (9 + j) := nI_add 9 j
      rw [pk_cl _ e9 (by omega), h.row]
      refine ⟨pk_in _ 241 (by omega) e9, s_ones ?_⟩
      rw [nI_add]
      exact ih _ _ ⟨j + 1, by omega, nI_1 _, rfl⟩ (by rw [nI_1, nI_clamp (by omega), nI_clamp (by omega)]; omega)
  unfold W_X8_settledShare
  rw [h.bc.1.1]
  refine lp2 (fun n u v => L_X8_settledShare_13 I L b d (fun r => vf_n32 r ∧ W_X9_settledShare I L (fun r2 J => P r r2 J L)) n u v) (fun u v => ∃ j, j ≤ cG (xC X) ∧ v = nI (cI (xC X) + j) ∧ u = nI (shrF (xr X) j)) (fun _ v => cI (xC X) + cG (xC X) - v.toNatClampNeg) ?_ _ _ ⟨0, Nat.zero_le _, rfl, rfl⟩
  rintro n u v ⟨j, h1, rfl, rfl⟩ ih
  show D_X8_settledShare_13 I L b d _ _ _ (nI (cI (xC X) + j))
  unfold D_X8_settledShare_13
  refine s_nets2 h.bc.1 ?_
  rw [e5, e6]
  refine pk_le (cI (xC X) + cG (xC X)) (cI (xC X) + j) (fun q => ?_) (fun q => ?_) rfl rfl (by omega) (by omega)
  · have e : j = cG (xC X) := by omega
    rw [e, nI_1, pk_mul]
    rintro _ rfl
    refine ⟨fun z => ?_, fun z => ?_⟩
    · have z2 : cG (xC X) ≠ 0 := fun y => z (by rw [y, Nat.zero_mul]; rfl)
      exact ⟨fp_ff (by omega) (by omega) (hp0 z2), fp_ff (by omega) (by omega) (hp0 z2), ref _ (fun _ => rfl) (fun y => absurd y z2)⟩
    · have z2 := (nI_eq (b := 0) (by omega) (by omega)).mp z
      have z3 : cG (xC X) = 0 := by
        rcases Nat.mul_eq_zero.mp z2 with y | y <;> omega
      exact ⟨show vf_n32 FP.fconst0 by unfold vf_n32; decide, ref _ (fun y => absurd z3 y) (fun _ => rfl)⟩
  · refine s_settledT h.bc.2.1 h.C rfl (by omega) ?_
    rw [nI_add]
    exact ih _ _ ⟨j + 1, by omega, nI_1 _, rfl⟩ (by rw [nI_1, nI_clamp (by omega), nI_clamp (by omega)]; omega)
end SHARE
