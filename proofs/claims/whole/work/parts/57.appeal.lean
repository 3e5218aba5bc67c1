/-! appeal -/
section APPEAL
variable {I J : TI} {L M : TL} {b d B : Nat} {X : XT}
theorem c_dearG {Q : Int32 → Prop} {C : CQ} {r : RW} {k : Nat} (hC : CV C) (hr : RV C B r) (hB : BC I L b C r) (hk : k < un (r 4)) (q : Q (rpF C r k)) : W_X0_dearVerdict b (b + 17 + k) I L Q := by
  have hI := hC.1
  have hG := hC.2.1
  have hH := hC.2.2.1
  have ds : ∀ f, f < 8 → I (b + 17 + k) f = dF r k f := fun f hf => by
    have := hB.2.1.ds hk hf
    rw [show b + 6 + 11 + k = b + 17 + k by omega] at this
    exact this
  obtain ⟨s1, s2, s3, s4, s5, s6, -⟩ := hr.ds hC hk
  have e3 := (hB.2.2 _ s1.2).2.2.1
  have vn : vp_in (nI (dN r k)) 16 := pk_in _ 16 (by omega) rfl
  unfold rpF at q
  unfold W_X0_dearVerdict B_X0_dearVerdict_33
  rw [ds 3 (by omega), ds 0 (by omega), ds 1 (by omega), ds 2 (by omega), s3, s4, s5, pk_cl (dN r k) rfl (by omega), e3]
  have fin : ∀ s : Int64, s = (if dF r k 3 = 1 then deF C r (dN r k) else deF C r (dN r k) ^^^ (-1)) → W_X8_window (nI (dA r k)) (nI (dE r k)) I L (fun (r294 : Int64) => ((s &&& r294) = 0 → Q 0) ∧ (¬ (s &&& r294) = 0 → Q 1)) := by
    rintro s rfl
    refine s_window rfl rfl (by omega) (by omega) ⟨fun e => ?_, fun e => ?_⟩
    · rw [if_pos e] at q
      exact q
    · rw [if_neg e] at q
      exact q
  exact ⟨fun e => ⟨vn, fin _ (by rw [if_neg e])⟩, fun e => ⟨vn, fin _ (by rw [if_pos e])⟩⟩
theorem c_loserG {Q : Int32 → Prop} {r : RW} {x k : Nat} {v : Int32} (h5 : I x 5 = dF r k 5) (h4 : I x 4 = dF r k 4) (hv : v = 0 ∨ v = 1) (q : Q (loF r k v)) : W_X3_loserBy x v I L Q := by
  unfold loF at q
  unfold W_X3_loserBy B_X3_loserBy_17
  rw [h5, h4]
  have fin : ∀ s, s = v → ((¬ s = dF r k 5 → Q (dF r k 4)) ∧ (s = dF r k 5 → Q ((1 : Int32) - dF r k 4))) := by
    rintro s rfl
    refine ⟨fun e => ?_, fun e => ?_⟩
    · rw [if_neg (fun z => e z.symm)] at q
      exact q
    · rw [if_pos e.symm] at q
      exact q
  refine ⟨fun _ => ⟨fun e => fin 0 ?_, fun e => fin 1 e.symm⟩, fun e => ?_⟩
  · rcases hv with z | z
    · exact z.symm
    · exact absurd z e
  · rcases hv with z | z <;> rw [z] at e <;> exact absurd e (by decide)
theorem rp_01 {C : CQ} {r : RW} {k : Nat} : rpF C r k = 0 ∨ rpF C r k = 1 := by
  unfold rpF
  split
  · split
    · exact Or.inl rfl
    · exact Or.inr rfl
  · split
    · exact Or.inl rfl
    · exact Or.inr rfl
/-- who loses by another verdict -/
theorem lo_two {r : RW} {k : Nat} {v w : Int32} (h4 : dF r k 4 = 0 ∨ dF r k 4 = 1) (h5 : dF r k 5 = 0 ∨ dF r k 5 = 1) (hv : v = 0 ∨ v = 1) (hw : w = 0 ∨ w = 1) (n : v ≠ w) : loF r k v = 1 - loF r k w := by
  unfold loF
  rcases hv with rfl | rfl <;> rcases hw with rfl | rfl
  · exact absurd rfl n
  · rcases h5 with e | e <;> rcases h4 with f | f <;> rw [e, f] <;> decide
  · rcases h5 with e | e <;> rcases h4 with f | f <;> rw [e, f] <;> decide
  · exact absurd rfl n
theorem mn_n {a c : Nat} (ha : a < 2 ^ 31) (hc : c < 2 ^ 31) : mnI (nI a) (nI c) = nI (min a c) := by
  unfold mnI
  by_cases q : c < a
  · rw [if_pos (nI_lt q ha), Nat.min_eq_right (by omega)]
  · rw [if_neg (nI_nlt (by omega) hc), Nat.min_eq_left (by omega)]
theorem app_row {r : RW} {k g p f : Nat} {v w m : Int64} (hg : g < 12) (hp : p < 2) : upR (upR (upR (upR (upR r (81 + 8 * k + 7) v) (81 + 8 * k + 6) w) (9 + g) (r (9 + g) ||| m)) (1 + p) (lN (un (r (1 + p)) - f))) 3 (lN (un (r 3) + f)) = stR (payR (upR (upR r (81 + 8 * k + 7) v) (81 + 8 * k + 6) w) p f) g m := by
  have a1 : (upR (upR r (81 + 8 * k + 7) v) (81 + 8 * k + 6) w) (1 + p) = r (1 + p) := by rw [upR_n (by omega), upR_n (by omega)]
  have a3 : (upR (upR r (81 + 8 * k + 7) v) (81 + 8 * k + 6) w) 3 = r 3 := by rw [upR_n (by omega), upR_n (by omega)]
  have a9 : payR (upR (upR r (81 + 8 * k + 7) v) (81 + 8 * k + 6) w) p f (9 + g) = r (9 + g) := by rw [payR_n (by omega) (by omega), upR_n (by omega), upR_n (by omega)]
  unfold stR
  rw [a9]
  unfold payR
  rw [a1, a3, upR_comm (show 9 + g ≠ 1 + p by omega), upR_comm (show 9 + g ≠ 3 by omega)]
theorem op_appeal {p1 : Int32} {P : Int32 → Int32 → TI → TL → Prop} (h : INV I L b d X B) (hB : B < 2 ^ 30) (fin : ∀ k r J M X2, OKL k r.toInt64 J M b d X2 (B + 10000) → P k r J M) : W_L_appeal p1 I L b d (fun k I1 L1 => W_X9_appeal p1 I1 L1 (fun r J M => P k r J M)) := by
  have nb := h.nb
  have hc := h.r.2.2.1
  have hbl := bn_lt h.2.2.1.1
  have hm : INV I L b d X (B + 10000) := h.mono (by omega)
  unfold W_L_appeal W_X8_appeal
  by_cases hk : rg p1 0 (un (xr X 4))
  · obtain ⟨k, -, hk, rfl⟩ := hk
    obtain ⟨s1, s2, s3, s4, s5, s6, s7, s8, ⟨st, st1, st2⟩, s10⟩ := h.r.ds h.C hk
    have eg : dN (xr X) k = cI (xC X) + (dN (xr X) k - cI (xC X)) := by omega
    have hg : dN (xr X) k - cI (xC X) < cG (xC X) := by omega
    have hn := s1.2
    generalize dN (xr X) k - cI (xC X) = g at eg hg
    have s3' := s3
    rw [eg] at s3'
    obtain ⟨a, ha, ea⟩ := prF_n h.C hn s2.2.1 (show dE (xr X) k ≤ 60 by omega)
    rw [← s4, ← s5] at ea
    have hw : un (xr X 3) ≤ B := h.r.2.1 2 (by omega)
    refine c_rd1 h rfl hk ⟨dis_l h (by omega), ?_⟩
    obtain ⟨p, hp, hlo⟩ := loF_01 h hk (v := dF (xr X) k 7)
    have hu := h.r.2.1 p (by omega)
    obtain ⟨v, hv⟩ : ∃ v, v = rpF (xC X) (xr X) k := ⟨_, rfl⟩
    have v1 : v = 0 ∨ v = 1 := by rw [hv]; exact rp_01
    -- the reference, up to the purse
    have mgo : ∀ (K : TI → TL → Prop) (I1 : TI) (L1 : TL) (Q : Int32 → TI → TL → Prop), IM K I1 L1 X B → (dF (xr X) k 6 = 1 → a ≤ un (xr X (1 + p)) → ∀ J M, IM K J M (recX X) B → J 436 0 = 0 → M 456 = L1 456 → (¬ v = dF (xr X) k 7 → B_X9_appeal_85 (nI k) (nI p) (nI a) v 0 J M Q) ∧ (v = dF (xr X) k 7 → B_X9_appeal_85 (nI k) (nI p) (nI a) v 1 J M Q)) → (dF (xr X) k 6 = 1 → ¬ a ≤ un (xr X (1 + p)) → Q (-3) (up2 I1 436 0 0) L1) → (¬ dF (xr X) k 6 = 1 → Q (-2) (up2 I1 436 0 0) L1) → W_X9_appeal (nI k) I1 L1 Q := by
      intro K I1 L1 Q hI k1 k2 k3
      have hI2 : IM K (up2 I1 436 0 0) L1 X B := hI.thr
      have e1 : (1 : Int32) + nI p = nI (1 + p) := nI_add 1 p
      unfold W_X9_appeal
      refine n_noD1 hI rfl hk ⟨fun _ => s_of (f := 6) hI2.row rfl (by omega) rfl (by omega) ⟨fun e => ?_, fun e => k3 e⟩, fun e => absurd rfl e⟩
      refine n_loser hI2 rfl hk (n_stake hI2 rfl hk ?_)
      rw [hlo, ea, pk_cl (1 + p) e1 (by omega)]
      refine ⟨pk_in (1 + p) 241 (by omega) e1, ek_if (row_le hI2.row rfl (by omega) (by omega)) (fun q => ?_) (fun q => k2 e q)⟩
      refine n_rec hI2 (fun J M hJ z5 e5 _ _ => n_waves hJ (fun M2 hM2 e6 hW => n_replayed hM2 hW rfl hk (s_of (f := 7) (r := xr X) hM2.row rfl (by omega) rfl (by omega) ?_)))
      have := k1 e q J M2 hM2 (by rw [z5, up2_s]) (by rw [e6, e5])
      rw [hv] at this
      exact this
    have iK : ∀ {x : Int64}, IM (fun J M => CI J M b d X) I (up2 L 456 0 x) X B := (IM.of h h.1 h.2.2 (fun _ _ => rfl) (fun _ _ => rfl)).out
    have bad : ∀ {I1 : TI} {L1 : TL} (z : Int32), IM (fun J M => CI J M b d X) I1 L1 X B → I1 436 0 = 0 → L1 456 0 = z.toInt64 → P 0 z I1 L1 := fun z hI e1 e2 => fin _ _ _ _ _ (fin0 ⟨hm.1, hI.2.1, hI.k⟩ e1 e2)
    rw [h.ds hk (show 6 < 8 by omega)]
    refine ⟨fun e6 => ?_, fun e6 => mgo _ _ _ _ iK (fun e => absurd e e6) (fun e => absurd e e6) (fun _ => bad _ iK.thr up2_s up2_s)⟩
    have v71 : dF (xr X) k 7 = 0 ∨ dF (xr X) k 7 = 1 := by
      rcases s10 with ⟨_, q⟩ | q
      · exact absurd e6 q
      · exact q
    refine c_stake h hk ?_
    rw [ea, h.ds hk (show 7 < 8 by omega)]
    refine c_loser h hk v71 ?_
    rw [hlo, pk_cl p rfl (by omega), h.bc.2.1.2.1 p (by omega)]
    refine ⟨pk_in p 3 (by omega) rfl, pk_le _ _ (fun q => ?_) (fun q => mgo _ _ _ _ iK (fun _ e => absurd e (by omega)) (fun _ _ => bad _ iK.thr up2_s up2_s) (fun e => absurd e6 e)) rfl rfl (by omega) (by omega)⟩
    obtain ⟨p2, hp2, hlo2⟩ := loF_01 h hk (v := v)
    have hu2 := h.r.2.1 p2 (by omega)
    have hff : min a (un (xr X (1 + p2))) ≤ un (xr X (1 + p2)) := Nat.min_le_right _ _
    have hfa : min a (un (xr X (1 + p2))) ≤ 10000 := Nat.le_trans (Nat.min_le_left _ _) ha
    obtain ⟨f, hf⟩ : ∃ f, f = min a (un (xr X (1 + p2))) := ⟨_, rfl⟩
    rw [← hf] at hff hfa
    refine c_record h.1 h.2.2 (fun J M hJ hi hm2 hb => ?_)
    refine c_dearG h.C h.r hJ.2.1 hk ?_
    rw [← hv]
    have hS0 : SC J M (b + 6) (xC X) (xr X) := hJ.2.1.2.1
    have hds : ∀ f, f < 8 → J (b + 17 + k) f = dF (xr X) k f := fun f hf => by
      have := hS0.ds hk hf
      rw [show b + 6 + 11 + k = b + 17 + k by omega] at this
      exact this
    have j7 : (up2 (up2 J (b + 17 + k) 7 v) (b + 17 + k) 6 2) (b + 17 + k) 7 = v := by rw [up2_n (Or.inr (by decide)), up2_s]
    have jo : ∀ f, f ≠ 7 → f ≠ 6 → (up2 (up2 J (b + 17 + k) 7 v) (b + 17 + k) 6 2) (b + 17 + k) f = J (b + 17 + k) f := fun f q1 q2 => by rw [up2_n (Or.inr q2), up2_n (Or.inr q1)]
    have jr : ∀ q, q ≠ b + 17 + k → (up2 (up2 J (b + 17 + k) 7 v) (b + 17 + k) 6 2) q = J q := fun q q1 => by rw [up2_row q1, up2_row q1]
    have hS1 : SC (up2 (up2 J (b + 17 + k) 7 v) (b + 17 + k) 6 2) M (b + 6) (xC X) (upR (upR (xr X) (81 + 8 * k + 7) v.toInt64) (81 + 8 * k + 6) (2 : Int32).toInt64) := by
      have := (hS0.dsp h.C (k := k) (f := 7) (x := v) (by omega)).dsp h.C (k := k) (f := 6) (x := 2) (by omega)
      rw [show b + 6 + 11 + k = b + 17 + k by omega] at this
      exact this
    generalize up2 (up2 J (b + 17 + k) 7 v) (b + 17 + k) 6 2 = J1 at j7 jo jr hS1
    rw [j7]
    refine c_loserG (r := xr X) (k := k) (by rw [jo 5 (by decide) (by decide), hds 5 (by omega)]) (by rw [jo 4 (by decide) (by decide), hds 4 (by omega)]) v1 ?_
    have eu : J1 (b + 15) p2 = nI (un (xr X (1 + p2))) := by rw [jr _ (by omega)]; exact hS0.2.1 p2 (by omega)
    have ew : J1 (b + 15) 2 = nI (un (xr X 3)) := by rw [jr _ (by omega)]; exact hS0.2.1 2 (by omega)
    rw [hlo2, pk_cl p2 rfl (by omega), eu, mn_n (by omega) (by omega), ← hf]
    refine ⟨pk_in p2 3 (by omega) rfl, c_pay rfl hp2 rfl (show J1 (b + 6 + 9) p2 = _ from eu) (show J1 (b + 6 + 9) 2 = _ from ew) hff ?_⟩
    have b1 : (upR (upR (xr X) (81 + 8 * k + 7) v.toInt64) (81 + 8 * k + 6) (2 : Int32).toInt64) (1 + p2) = xr X (1 + p2) := by rw [upR_n (by omega), upR_n (by omega)]
    have b3 : (upR (upR (xr X) (81 + 8 * k + 7) v.toInt64) (81 + 8 * k + 6) (2 : Int32).toInt64) 3 = xr X 3 := by rw [upR_n (by omega), upR_n (by omega)]
    have b4 : (upR (upR (xr X) (81 + 8 * k + 7) v.toInt64) (81 + 8 * k + 6) (2 : Int32).toInt64) 4 = xr X 4 := by rw [upR_n (by omega), upR_n (by omega)]
    have hR1 : RV (xC X) B (upR (upR (xr X) (81 + 8 * k + 7) v.toInt64) (81 + 8 * k + 6) (2 : Int32).toInt64) := (h.r.v7 h.C hk v1).v6 h.C (s := 2) (by rw [upR_n (by omega)]; exact hk) rfl (by omega) (Or.inl (by decide))
    have hS2 := hS1.pay (p := p2) (f := f) hp2 (by rw [b1]; omega) (by rw [b3]; omega)
    rw [b1, b3] at hS2
    have hR2 := hR1.pay h.C (p := p2) (f := f) (B2 := B + 10000) hp2 (by omega) (by omega)
    have i0 : ∀ q, q ≠ b + 15 → (up2 (up2 J1 (b + 6 + 9) p2 (nI (un (xr X (1 + p2)) - f))) (b + 6 + 9) 2 (nI (un (xr X 3) + f))) q = J1 q := fun q q1 => by rw [up2_row (by omega), up2_row (by omega)]
    generalize up2 (up2 J1 (b + 6 + 9) p2 (nI (un (xr X (1 + p2)) - f))) (b + 6 + 9) 2 (nI (un (xr X 3) + f)) = J2 at hS2 i0
    have f0 : J2 (b + 17 + k) 0 = nI (cI (xC X) + g) := by rw [i0 _ (by omega), jo 0 (by decide) (by decide), hds 0 (by omega), s3']
    have f1 : J2 (b + 17 + k) 1 = nI (dA (xr X) k) := by rw [i0 _ (by omega), jo 1 (by decide) (by decide), hds 1 (by omega), s4]
    have f2 : J2 (b + 17 + k) 2 = nI (dE (xr X) k) := by rw [i0 _ (by omega), jo 2 (by decide) (by decide), hds 2 (by omega), s5]
    have f7 : J2 (b + 17 + k) 7 = v := by rw [i0 _ (by omega), j7]
    have hc2 : CC J2 (b + 1) (xC X) := CC.fr hJ.2.1.1 (fun q2 y1 y2 => by rw [i0 _ (by omega), jr _ (by omega)])
    refine c_settle h.2.2.1.1 h.C hR2 hc2 hS2 f0 hg f1 f2 s2.2.1 (by omega) (fun J3 M3 hJ3 hM3 hR3 hBC => ?_)
    rw [hJ3 (b + 17 + k) (by omega), f7]
    obtain ⟨r2, hr2⟩ : ∃ r2, r2 = stR (payR (upR (upR (xr X) (81 + 8 * k + 7) v.toInt64) (81 + 8 * k + 6) (2 : Int32).toInt64) p2 f) g (win (dA (xr X) k) (dE (xr X) k)) := ⟨_, rfl⟩
    rw [← hr2] at hR3 hBC
    have hC2 : CI J3 M3 b d (setr (recX X) r2) := hJ.bench (recX_V h.1) (fun q2 y1 y2 => by rw [hJ3 q2 (by omega), i0 _ (by omega), jr _ (by omega)]) (fun q2 y1 y2 => hM3 q2 (by omega) (by omega) (by omega) (by omega)) hBC
    have hV2 : XV (setr (recX X) r2) (B + 10000) := setr_V ((recX_V h.1).mono (by omega)) hR3
    have hIM := IM.of h hV2 hC2 (fun q2 hq2 => by rw [hJ3 q2 (by omega), i0 _ (by omega), jr _ (by omega), hi q2 hq2]) (fun q2 hq2 => by rw [hM3 q2 (by omega) (by omega) (by omega) (by omega), hm2 q2 hq2])
    refine mgo _ _ _ _ hIM.out (fun _ _ J5 M5 hJ5 z5 e5 => ?_) (fun _ e => absurd q e) (fun e => absurd e6 e)
    have r5 : M5 437 = xr X := hJ5.row
    have last : ∀ s0, s0 = nI p2 → B_X9_appeal_99 (nI k) (nI a) v s0 J5 M5 (fun r J M => P 0 r J M) := by
      rintro s0 rfl
      have e1 : (1 : Int32) + nI p2 = nI (1 + p2) := nI_add 1 p2
      have e9 : ((9 : Int32) + nI (cI (xC X) + g)) - (J5 436 10) = nI (9 + g) := by
        rw [hJ5.mc.1, show (9 : Int32) + nI (cI (xC X) + g) = nI (9 + (cI (xC X) + g)) from nI_add 9 _]
        show nI (9 + (cI (xC X) + g)) - nI (cI (xC X)) = _
        rw [pk_sub (by omega)]
        congr 1
        omega
      have v9 : vp_in (((9 : Int32) + nI (cI (xC X) + g)) - (J5 436 10)) 241 := pk_in _ 241 (by omega) e9
      unfold B_X9_appeal_99
      refine s_sets rfl (show k < 20 by omega) (f := 7) rfl (by omega) (s_sets rfl (show k < 20 by omega) (f := 6) rfl (by omega) ?_)
      have r6 : (up2 (up2 M5 437 (81 + 8 * k + 7) v.toInt64) 437 (81 + 8 * k + 6) (2 : Int32).toInt64) 437 = upR (upR (xr X) (81 + 8 * k + 7) v.toInt64) (81 + 8 * k + 6) (2 : Int32).toInt64 := by rw [upR_row, upR_row, r5]
      have d6 : ∀ f, f < 3 → dF (upR (upR (xr X) (81 + 8 * k + 7) v.toInt64) (81 + 8 * k + 6) (2 : Int32).toInt64) k f = dF (xr X) k f := fun f hf => by
        unfold dF
        rw [upR_n (by omega), upR_n (by omega)]
      refine s_of (f := 0) r6 rfl (by omega) rfl (by omega) ?_
      rw [d6 0 (by omega), s3', pk_cl _ e9 (by omega)]
      refine ⟨v9, ?_⟩
      unfold W_X9_windowOf
      refine s_of (f := 1) r6 rfl (by omega) rfl (by omega) (s_of (f := 2) r6 rfl (by omega) rfl (by omega) ?_)
      rw [d6 1 (by omega), d6 2 (by omega)]
      refine s_times s4 s5 (by omega) (by omega) ⟨v9, ?_⟩
      have e96 : (up2 (up2 M5 437 (81 + 8 * k + 7) v.toInt64) 437 (81 + 8 * k + 6) (2 : Int32).toInt64) 437 (9 + g) = xr X (9 + g) := by rw [up2_n (Or.inr (by omega)), up2_n (Or.inr (by omega)), r5]
      rw [e96]
      rintro _ rfl
      rw [pk_cl (1 + p2) e1 (by omega)]
      have e1p : (up2 (up2 (up2 M5 437 (81 + 8 * k + 7) v.toInt64) 437 (81 + 8 * k + 6) (2 : Int32).toInt64) 437 (9 + g) (xr X (9 + g) ||| win (dA (xr X) k) (dE (xr X) k))) 437 (1 + p2) = lN (un (xr X (1 + p2))) := by rw [up2_n (Or.inr (by omega)), up2_n (Or.inr (by omega)), up2_n (Or.inr (by omega)), r5]; exact un_e _
      have e3p : (up2 (up2 (up2 M5 437 (81 + 8 * k + 7) v.toInt64) 437 (81 + 8 * k + 6) (2 : Int32).toInt64) 437 (9 + g) (xr X (9 + g) ||| win (dA (xr X) k) (dE (xr X) k))) 437 3 = lN (un (xr X 3)) := by rw [up2_n (Or.inr (by omega)), up2_n (Or.inr (by omega)), up2_n (Or.inr (by omega)), r5]; exact un_e _
      refine ⟨pk_in (1 + p2) 241 (by omega) e1, s_lesser (a := a) (b := un (xr X (1 + p2))) rfl (by rw [e1p, lN_i]) (by omega) (by omega) ?_⟩
      rw [← hf]
      refine m_pay (a := f) (u := un (xr X (1 + p2))) (w := un (xr X 3)) rfl hp2 rfl e1p e3p hff (by omega) ?_
      refine fin _ _ _ _ _ (fin0 (X := setr (recX X) r2) (n_end hJ5 hV2 ?_ (fun q2 y1 y2 y3 y4 y5 => ?_)) z5 ?_)
      · rw [upR_row, upR_row, upR_row, r6, hr2]
        exact app_row (by omega) hp2
      · rw [up2_row y1, up2_row y1, up2_row y1, up2_row y1, up2_row y1]
      · rw [up2_row (by decide), up2_row (by decide), up2_row (by decide), up2_row (by decide), up2_row (by decide), e5, up2_s]
    refine ⟨fun e => ⟨fun _ => last _ ?_, fun e2 => absurd rfl e2⟩, fun e => ⟨fun e2 => absurd e2 (by decide), fun _ => last _ ?_⟩⟩
    · rw [← hlo, ← hlo2]
      exact (lo_two s7 s8 v1 v71 e).symm
    · rw [← hlo, ← hlo2, e]
  · refine c_rd0 h hk ⟨rfl, ?_⟩
    unfold W_X9_appeal
    exact m_noD0 h hk ⟨fun e => absurd e (by decide), fun _ => fin _ _ _ _ _ (fin1 hm.thr up2_s (by decide))⟩
end APPEAL
