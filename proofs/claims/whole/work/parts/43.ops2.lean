/-! calls that ask: size, stateAt, allWrong, worst, errorPosition, dependsOn, touches, longest, cost -/
section OPS2
variable {I J : TI} {L M : TL} {b d B : Nat} {X : XT}
theorem op_dependsOn {p1 : Int32} {P : Int32 → Int32 → TI → TL → Prop} (h : INV I L b d X B) (fin : ∀ k r J M, OKL k r.toInt64 J M b d X B → P k r J M) : W_L_dependsOn p1 I L b d (fun k L1 => W_X9_dependsOn p1 I L1 (fun r J => P k r J L1)) := by
  have nb := h.nb
  unfold W_L_dependsOn W_X8_dependsOn
  by_cases hg : rg p1 (cI (xC X)) (cI (xC X) + cG (xC X))
  · obtain ⟨n, n1, hn, rfl⟩ := hg
    obtain ⟨g, rfl⟩ : ∃ g, n = cI (xC X) + g := ⟨n - cI (xC X), by omega⟩
    have hg : g < cG (xC X) := by omega
    have e5 : I (b + 5) (cI (xC X) + g) = nI (cD (xC X) (cI (xC X) + g)) := h.bc.1.2.2.2.2.2.2 _ hn
    refine c_gate1 h rfl hg ?_
    rw [pk_cl (cI (xC X) + g) rfl (by omega), e5]
    refine ⟨pk_in _ 16 (by omega) rfl, ?_⟩
    unfold W_X9_dependsOn
    refine m_noGate1 h.out rfl hg ⟨fun _ => s_dep h.thr.mc h.C rfl hn ?_, fun e => absurd rfl e⟩
    rw [lN_i]
    exact fin _ _ _ _ (fin0 h.out.thr up2_s up2_s)
  · refine c_gate0 h hg ⟨rfl, ?_⟩
    unfold W_X9_dependsOn
    exact m_noGate0 h hg ⟨fun e => absurd e (by decide), fun _ => fin _ _ _ _ (fin1 h.thr up2_s (by decide))⟩
theorem op_touches {p1 : Int32} {P : Int32 → Int32 → TI → TL → Prop} (h : INV I L b d X B) (fin : ∀ k r J M, OKL k r.toInt64 J M b d X B → P k r J M) : W_L_touches p1 I L b d (fun k L1 => W_X9_touches p1 I L1 (fun r J => P k r J L1)) := by
  have nb := h.nb
  unfold W_L_touches W_X8_touches
  by_cases hn : rg p1 0 (cI (xC X) + cG (xC X))
  · obtain ⟨n, -, hn, rfl⟩ := hn
    refine c_net1 h rfl hn (s_touchedBy h.bc.1 h.C rfl hn ?_)
    unfold W_X9_touches
    refine m_noNet1 h.out rfl hn ⟨fun _ => s_touched h.thr.mc h.C rfl hn ?_, fun e => absurd rfl e⟩
    rw [lN_i]
    exact fin _ _ _ _ (fin0 h.out.thr up2_s up2_s)
  · refine c_net0 h hn ⟨rfl, ?_⟩
    unfold W_X9_touches
    exact m_noNet0 h hn ⟨fun e => absurd e (by decide), fun _ => fin _ _ _ _ (fin1 h.thr up2_s (by decide))⟩
theorem s_delayOf {Q : Int32 → Prop} {C : CQ} {r : RW} {g w : Nat} {x y : Int32} (hM : MC I C) (hC : CV C) (hr : L 437 = r) (hx : x = nI (cI C + g)) (hg : g < cG C) (hy : y = nI w) (hw : w < 3) (k : Q (nI (dl r g w))) : W_X9_delayOf x y I L Q := by
  subst hx; subst hy
  have := hC.2.1
  have e : ((45 : Int32) + ((3 : Int32) * (nI (cI C + g) - (I 436 10)))) + nI w = nI (45 + 3 * g + w) := by
    rw [hM.1, pk_sub (Nat.le_add_right _ _), Nat.add_sub_cancel_left, show (3 : Int32) = nI 3 from rfl, show (45 : Int32) = nI 45 from rfl, pk_mul, nI_add, nI_add]
  unfold W_X9_delayOf
  rw [pk_cl _ e (by omega), hr, un_i]
  exact ⟨pk_in _ 241 (by omega) e, k⟩
theorem s_greater {Q : Int32 → Prop} {a c : Nat} {x y : Int32} (hx : x = nI a) (hy : y = nI c) (ha : a < 2 ^ 31) (hb : c < 2 ^ 31) (k : Q (nI (max a c))) : W_X9_greater x y I L Q := by
  subst hx; subst hy
  unfold W_X9_greater
  refine pk_le a c (fun h => ?_) (fun h => ?_) rfl rfl ha hb
  · rw [Nat.max_eq_right h] at k
    exact k
  · rw [Nat.max_eq_left (Nat.le_of_lt h)] at k
    exact k
theorem s_longest9 {Q : Int32 → TI → Prop} {C : CQ} {r : RW} {net : Nat} {x : Int32} (hM : MC I C) (hC : CV C) (hV : DV C r) (hr : L 437 = r) (hx : x = nI net) (hn : net < cI C + cG C) (k : ∀ J, sameI [451] I J → Q (nI (paF C r net)) J) : ∃ n, L_X9_longest_12 x L Q n 0 I := by
  subst hx
  have hI := hC.1
  have hG := hC.2.1
  have hp := paF_ok hC r
  have hb := PEqn.bd hC hV _ (Nat.le_refl _) hp
  refine lp2 (fun n v i => L_X9_longest_12 (nI net) L Q n v i) (fun v i => ∃ j, j ≤ net + 1 ∧ v = nI j ∧ sameI [451] I i ∧ ∀ n, n < j → i 451 n = nI (paF C r n)) (fun v _ => net + 2 - v.toNatClampNeg) ?_ _ _ ⟨0, by omega, rfl, sameI.rf _ _, fun n hn => absurd hn (Nat.not_lt_zero _)⟩
  rintro n v i ⟨j, h1, rfl, h2, h3⟩ ih
  refine pk_lt net j (fun hc => ?_) (fun hc => ?_) rfl rfl (by omega) (by omega)
  · rw [pk_cl net rfl (by omega), h3 net (by omega)]
    exact ⟨pk_in net 16 (by omega) rfl, k i h2⟩
  · have hm : MC i C := by
      unfold MC
      rw [h2 436 (by decide), h2 441 (by decide), h2 442 (by decide), h2 443 (by decide)]
      exact hM
    have hm2 : MC (up2 i 451 j 0) C := by
      unfold MC
      rw [up2_row (by decide), up2_row (by decide), up2_row (by decide), up2_row (by decide)]
      exact hm
    have vj : vp_in (nI j) 16 := pk_in j 16 (by omega) rfl
    rw [pk_cl j rfl (by omega), hm2.1]
    have nx : ∀ i2 : TI, sameI [451] I i2 → (∀ n, n < j → i2 451 n = nI (paF C r n)) → i2 451 j = nI (paF C r j) → B_X9_longest_103 (nI net) (nI j) i2 L Q (fun v2 I => L_X9_longest_12 (nI net) L Q n v2 I) := by
      intro i2 a1 a2 a3
      refine ih _ _ ⟨j + 1, by omega, nI_1 j, a1, fun m hm => ?_⟩ (by rw [nI_1, nI_clamp (by omega), nI_clamp (by omega)]; omega)
      by_cases q : m = j
      · rw [q]
        exact a3
      · exact a2 m (by omega)
    have keep : ∀ y m, m < j → (up2 i 451 j y) 451 m = nI (paF C r m) := fun y m hm => by
      rw [up2_n (Or.inr (by omega))]
      exact h3 m hm
    refine ⟨vj, pk_le (cI C) j (fun hc2 => ?_) (fun hc2 => ?_) rfl rfl (by omega) (by omega)⟩
    · obtain ⟨g, rfl⟩ : ∃ g, j = cI C + g := ⟨j - cI C, by omega⟩
      have hg : g < cG C := by omega
      obtain ⟨n1, n2, n3, n4⟩ := hC.net hg
      obtain ⟨g1, g2, g3⟩ := hm2.2.2.2.2.2 g hg
      have v12 : vp_in (nI g) 12 := pk_in g 12 (by omega) rfl
      have w0 := hV g hg 0 (by omega)
      have w1 := hV g hg 1 (by omega)
      have bo := hb (cO C g) (by omega)
      rw [pk_sub (Nat.le_add_right _ _), Nat.add_sub_cancel_left, pk_cl g rfl (by omega), g2, g3, pk_cl (cO C g) rfl (by omega), keep _ _ n1]
      refine ⟨v12, ?_⟩
      rintro _ rfl
      refine s_delayOf (w := 0) hm2 hC hr rfl hg rfl (by omega) (s_delayOf (w := 1) hm2 hC hr rfl hg rfl (by omega) (s_greater rfl rfl (by omega) (by omega) ⟨v12, pk_in (cO C g) 16 (by omega) rfl, ?_⟩))
      have fin : ∀ (s : Int32) (q : Nat), s = nI q → q < 1000 → q = (if cT C g = 16 then 0 else paF C r (cT C g)) → B_X9_longest_98 (nI net) (nI (cI C + g)) (nI (cI C + g)) (nI (max (dl r g 0) (dl r g 1))) (nI (paF C r (cO C g))) s (up2 i 451 (cI C + g) 0) L Q (fun v2 I => L_X9_longest_12 (nI net) L Q n v2 I) := by
        rintro s q rfl hq e
        unfold B_X9_longest_98
        refine s_greater rfl rfl (by omega) (by omega) ⟨vj, ?_⟩
        rw [pk_cl (cI C + g) rfl (by omega), nI_add]
        refine nx _ ((h2.up in1).up in1) (fun m hm => ?_) ?_
        · rw [up2_n (Or.inr (by omega))]
          exact keep _ _ hm
        · rw [up2_s, hp.2 g hg, e, Nat.add_comm]
      by_cases e : cT C g = 16
      · rw [e, tx_16]
        exact ⟨fun q => absurd rfl q, fun _ => fin 0 0 rfl (by omega) (by rw [if_pos e])⟩
      · have := n2 e
        have b2 := hb (cT C g) (by omega)
        rw [tx_n e]
        refine ⟨fun _ => ⟨pk_in (cT C g) 16 (by omega) rfl, ?_⟩, fun q => absurd q (nI_nm1 (by omega))⟩
        rw [pk_cl (cT C g) rfl (by omega), keep _ _ (n2 e)]
        exact fin _ _ rfl (by omega) (by rw [if_neg e])
    · exact nx _ (h2.up in1) (fun m hm => keep _ _ hm) (by rw [up2_s, hp.1 j hc2]; rfl)
theorem INV.dv (h : INV I L b d X B) : DV (xC X) (xr X) := fun g hg => (h.r.2.2.2.2.1 g hg).2.2.2
theorem op_longest {p1 : Int32} {P : Int32 → Int32 → TI → TL → Prop} (h : INV I L b d X B) (fin : ∀ k r J M, OKL k r.toInt64 J M b d X B → P k r J M) : W_L_longest p1 I L b d (fun k L1 => W_X9_longest p1 I L1 (fun r J => P k r J L1)) := by
  have nb := h.nb
  unfold W_L_longest W_X8_longest
  by_cases hn : rg p1 0 (cI (xC X) + cG (xC X))
  · obtain ⟨n, -, hn, rfl⟩ := hn
    refine c_net1 h rfl hn ?_
    rw [pk_cl n rfl (by omega), (h.bc.2.2 n hn).2.2.2]
    refine ⟨pk_in n 16 (by omega) rfl, ?_⟩
    unfold W_X9_longest
    refine m_noNet1 h.out rfl hn ⟨fun _ => s_longest9 (r := xr X) h.thr.mc h.C h.dv h.out.row rfl hn (fun J hJ => ?_), fun e => absurd rfl e⟩
    refine fin _ _ _ _ (fin0 (h.out.thr.ro ⟨fun k a c => hJ k (nin1 c), fun j _ _ _ _ => by rw [hJ 436 (by decide)]⟩ (roL.rf _)) ?_ up2_s)
    rw [hJ 436 (by decide), up2_s]
  · refine c_net0 h hn ⟨rfl, ?_⟩
    unfold W_X9_longest
    exact m_noNet0 h hn ⟨fun e => absurd e (by decide), fun _ => fin _ _ _ _ (fin1 h.thr up2_s (by decide))⟩
theorem op_errorPosition {P : Int32 → Int32 → TI → TL → Prop} (h : INV I L b d X B) (fin : ∀ r J M, INV J M b d X B → P r r J M) : W_X8_errorPosition I L (fun r => W_X9_errorPosition I L (fun r2 J => P r r2 J L)) := by
  unfold W_X8_errorPosition W_X9_errorPosition
  rw [h.2.2.2.2.2.2.2.1, up2_n (Or.inr (by decide)), h.2.1.2.2.2.2.2.1]
  exact fin _ _ _ h.thr
/-! sums of wrong times -/
def wsF (C : CQ) (sh de : Nat → Int64) : Nat := fb_sm (fun n => pc (sh n ^^^ de n)) (cI C + cG C)
theorem wsF_cong {C : CQ} {a c e f : Nat → Int64} (h : ∀ n, n < cI C + cG C → a n = e n ∧ c n = f n) : wsF C a c = wsF C e f := fb_sm_cong (fun k hk => by rw [(h k hk).1, (h k hk).2])
theorem s_wrongSum {Q : Int32 → Prop} {C : CQ} {p : Nat} (h : CC I (b + 1) C) (hC : CV C) (k : Q (nI (wsF C (L p) (L (b + 39))))) : W_X0_wrongSum b p I L Q := by
  have hI := hC.1
  have hG := hC.2.1
  unfold W_X0_wrongSum
  refine lp2 (fun n u v => L_X0_wrongSum_4 b p I L Q n u v) (fun u v => ∃ j, j ≤ cI C + cG C ∧ v = nI j ∧ u = nI (fb_sm (fun n => pc (L p n ^^^ L (b + 39) n)) j)) (fun _ v => cI C + cG C - v.toNatClampNeg) ?_ _ _ ⟨0, Nat.zero_le _, rfl, rfl⟩
  rintro n u v ⟨j, h1, rfl, rfl⟩ ih
  show D_X0_wrongSum_4 b p I L Q _ _ (nI j)
  unfold D_X0_wrongSum_4
  refine s_nets2 h ?_
  refine pk_le (cI C + cG C) j (fun hc => ?_) (fun hc => ?_) rfl rfl (by omega) (by omega)
  · have e : j = cI C + cG C := by omega
    rw [e]
    exact k
  · have vj : vp_in (nI j) 16 := pk_in j 16 (by omega) rfl
    rw [pk_cl j rfl (by omega)]
    refine ⟨vj, vj, s_bcL ?_⟩
    rw [nI_add]
    exact ih _ _ ⟨j + 1, by omega, nI_1 j, rfl⟩ (by rw [nI_1, nI_clamp (by omega), nI_clamp (by omega)]; omega)
theorem s_wrongs {Q : Int32 → Prop} {C : CQ} (hM : MC I C) (hC : CV C) (k : Q (nI (wsF C (L 444) (L 446)))) : W_X9_wrongs I L Q := by
  have hI := hC.1
  have hG := hC.2.1
  unfold W_X9_wrongs
  refine lp2 (fun n u v => L_X9_wrongs_4 I L Q n u v) (fun u v => ∃ j, j ≤ cI C + cG C ∧ v = nI j ∧ u = nI (fb_sm (fun n => pc (L 444 n ^^^ L 446 n)) j)) (fun _ v => cI C + cG C - v.toNatClampNeg) ?_ _ _ ⟨0, Nat.zero_le _, rfl, rfl⟩
  rintro n u v ⟨j, h1, rfl, rfl⟩ ih
  show D_X9_wrongs_4 I L Q _ _ (nI j)
  unfold D_X9_wrongs_4
  refine s_nets9 hM ?_
  refine pk_le (cI C + cG C) j (fun hc => ?_) (fun hc => ?_) rfl rfl (by omega) (by omega)
  · have e : j = cI C + cG C := by omega
    rw [e]
    exact k
  · have vj : vp_in (nI j) 16 := pk_in j 16 (by omega) rfl
    rw [pk_cl j rfl (by omega)]
    refine ⟨vj, vj, s_ones ?_⟩
    rw [nI_add]
    exact ih _ _ ⟨j + 1, by omega, nI_1 j, rfl⟩ (by rw [nI_1, nI_clamp (by omega), nI_clamp (by omega)]; omega)
theorem op_allWrong {P : Int32 → Int32 → TI → TL → Prop} (h : INV I L b d X B) (fin : ∀ r J M, INV J M b d X B → P r r J M) : W_X8_allWrong I L b d (fun r => W_X9_allWrong I L (fun r2 J M => P r r2 J M)) := by
  unfold W_X8_allWrong W_X9_allWrong
  refine s_wrongSum h.bc.1 h.C (m_waves h.thr (fun M hM e hW => s_wrongs hM.mc h.C ?_))
  have ec : wsF (xC X) (L (b + 37)) (L (b + 39)) = wsF (xC X) (M 444) (M 446) := wsF_cong (fun n hn => by
    obtain ⟨a, -, c, -⟩ := h.bc.2.2 n hn
    obtain ⟨a2, -, c2⟩ := WEq.is hW h.C hn
    rw [a, c, a2, c2]
    exact ⟨rfl, rfl⟩)
  rw [ec]
  exact fin _ _ _ hM
def woN (f : Nat → Nat) : Nat → Nat
  | 0 => 0
  | n + 1 => if f (woN f n) < f (n + 1) then n + 1 else woN f n
theorem woN_le (f : Nat → Nat) : ∀ n, woN f n ≤ n
  | 0 => Nat.le_refl _
  | n + 1 => by
    have := woN_le f n
    unfold woN
    split <;> omega
theorem op_worst {P : Int32 → Int32 → TI → TL → Prop} (h : INV I L b d X B) (fin : ∀ r J M, INV J M b d X B → P r r J M) : W_X8_worst I L b d (fun r => W_X9_worst I L (fun r2 J M => P r r2 J M)) := by
  have nb := h.nb
  have hf : ∀ n, pc (wrF (xC X) (xr X) n) ≤ 64 := fun n => pc_le _
  have cls : ∀ Q : Int32 → Prop, Q (nI (woN (fun n => pc (wrF (xC X) (xr X) n)) (cI (xC X) + cG (xC X) - 1))) → W_X8_worst I L b d Q := by
    intro Q k
    unfold W_X8_worst
    refine lp2 (fun n u v => L_X8_worst_4 I L b d Q n u v) (fun u v => ∃ j, j + 1 ≤ cI (xC X) + cG (xC X) ∧ v = nI (j + 1) ∧ u = nI (woN (fun n => pc (wrF (xC X) (xr X) n)) j)) (fun _ v => cI (xC X) + cG (xC X) - v.toNatClampNeg) ?_ _ _ ⟨0, by omega, rfl, rfl⟩
    rintro n u v ⟨j, h1, rfl, rfl⟩ ih
    show D_X8_worst_4 I L b d Q _ _ (nI (j + 1))
    unfold D_X8_worst_4
    refine s_nets2 h.bc.1 ?_
    refine pk_le (cI (xC X) + cG (xC X)) (j + 1) (fun hc => ?_) (fun hc => ?_) rfl rfl (by omega) (by omega)
    · rw [show cI (xC X) + cG (xC X) - 1 = j by omega] at k
      exact k
    · have wl := woN_le (fun n => pc (wrF (xC X) (xr X) n)) j
      refine c_wrongTimes h rfl hc (s_bcL (c_wrongTimes h rfl (by omega) (s_bcL ?_)))
      have b1 := hf (j + 1)
      have b2 := hf (woN (fun n => pc (wrF (xC X) (xr X) n)) j)
      have nx : ∀ c : Int32, c = nI (woN (fun n => pc (wrF (xC X) (xr X) n)) (j + 1)) → L_X8_worst_4 I L b d Q n c (nI (j + 1) + 1) := fun c hc2 => ih _ _ ⟨j + 1, by omega, nI_1 _, hc2⟩ (by rw [nI_1, nI_clamp (by omega), nI_clamp (by omega)]; omega)
      refine pk_le _ _ (fun q => nx _ ?_) (fun q => nx _ ?_) rfl rfl (by omega) (by omega)
      · show _ = nI (if _ then _ else _)
        dsimp only
        rw [if_neg (Nat.not_lt.mpr q)]
      · show _ = nI (if _ then _ else _)
        dsimp only
        rw [if_pos q]
  refine cls _ ?_
  unfold W_X9_worst
  refine m_waves h.thr (fun M hM e hW => ?_)
  have ev : ∀ n, n < cI (xC X) + cG (xC X) → M 444 n ^^^ M 446 n = wrF (xC X) (xr X) n := fun n hn => by
    obtain ⟨a2, -, c2⟩ := WEq.is hW h.C hn
    rw [a2, c2]
    rfl
  refine lp2 (fun n u v => L_X9_worst_13 (up2 I 436 0 0) M _ n u v) (fun u v => ∃ j, j + 1 ≤ cI (xC X) + cG (xC X) ∧ v = nI (j + 1) ∧ u = nI (woN (fun n => pc (wrF (xC X) (xr X) n)) j)) (fun _ v => cI (xC X) + cG (xC X) - v.toNatClampNeg) ?_ _ _ ⟨0, by omega, rfl, rfl⟩
  rintro n u v ⟨j, h1, rfl, rfl⟩ ih
  show D_X9_worst_13 (up2 I 436 0 0) M _ _ _ (nI (j + 1))
  unfold D_X9_worst_13
  refine s_nets9 hM.mc ?_
  refine pk_le (cI (xC X) + cG (xC X)) (j + 1) (fun hc => ?_) (fun hc => ?_) rfl rfl (by omega) (by omega)
  · rw [show cI (xC X) + cG (xC X) - 1 = j by omega]
    exact fin _ _ _ hM
  · have wl := woN_le (fun n => pc (wrF (xC X) (xr X) n)) j
    have v1 : vp_in (nI (j + 1)) 16 := pk_in _ 16 (by omega) rfl
    have v2 : vp_in (nI (woN (fun n => pc (wrF (xC X) (xr X) n)) j)) 16 := pk_in _ 16 (by omega) rfl
    rw [pk_cl (j + 1) rfl (by omega), pk_cl (woN (fun n => pc (wrF (xC X) (xr X) n)) j) rfl (by omega), ev _ hc, ev _ (by omega)]
    refine ⟨v1, v1, s_ones ⟨v2, v2, s_ones ?_⟩⟩
    have b1 := hf (j + 1)
    have b2 := hf (woN (fun n => pc (wrF (xC X) (xr X) n)) j)
    have nx : ∀ c : Int32, c = nI (woN (fun n => pc (wrF (xC X) (xr X) n)) (j + 1)) → L_X9_worst_13 (up2 I 436 0 0) M _ n c (nI (j + 1) + 1) := fun c hc2 => ih _ _ ⟨j + 1, by omega, nI_1 _, hc2⟩ (by rw [nI_1, nI_clamp (by omega), nI_clamp (by omega)]; omega)
    refine pk_le _ _ (fun q => nx _ ?_) (fun q => nx _ ?_) rfl rfl (by omega) (by omega)
    · show _ = nI (if _ then _ else _)
      dsimp only
      rw [if_neg (Nat.not_lt.mpr q)]
    · show _ = nI (if _ then _ else _)
      dsimp only
      rw [if_pos q]
end OPS2
