/-! sets of nets, properties of nets: for queries -/
section SETS
def mk (N : Nat) (p : Nat → Bool) : Int32 := nI (mkn p N)
theorem mkn_bit (p : Nat → Bool) (N t : Nat) : (mkn p N).testBit t = (decide (t < N) && p t) := by
  by_cases h : t < N
  · rw [mkn_tb p N t h, decide_eq_true h, Bool.true_and]
  · rw [Nat.testBit_lt_two_pow (Nat.lt_of_lt_of_le (mkn_lt p N) (Nat.pow_le_pow_right (by decide) (show N ≤ t by omega))), decide_eq_false h, Bool.false_and]
theorem mkn_cg {p q : Nat → Bool} {N : Nat} (h : ∀ t, t < N → p t = q t) : mkn p N = mkn q N := by
  apply Nat.eq_of_testBit_eq
  intro t
  rw [mkn_bit, mkn_bit]
  by_cases z : t < N
  · rw [h t z]
  · rw [decide_eq_false z, Bool.false_and, Bool.false_and]
theorem mkn_32 {N : Nat} (p : Nat → Bool) (h : N ≤ 16) : mkn p N < 2 ^ 32 := Nat.lt_of_lt_of_le (mkn_lt p N) (Nat.pow_le_pow_right (by decide) (by omega))
theorem mk_or (N : Nat) (p q : Nat → Bool) : mk N p ||| mk N q = mk N (fun k => p k || q k) := by
  unfold mk
  rw [nI_or]
  congr 1
  apply Nat.eq_of_testBit_eq
  intro t
  rw [Nat.testBit_or, mkn_bit, mkn_bit, mkn_bit]
  cases decide (t < N) <;> simp
theorem mk_and (N : Nat) (p q : Nat → Bool) : mk N p &&& mk N q = mk N (fun k => p k && q k) := by
  unfold mk
  rw [nI_and]
  congr 1
  apply Nat.eq_of_testBit_eq
  intro t
  rw [Nat.testBit_and, mkn_bit, mkn_bit, mkn_bit]
  cases decide (t < N) <;> simp
theorem mkn_all (N : Nat) : mkn (fun _ => true) N = 2 ^ N - 1 := by
  apply Nat.eq_of_testBit_eq
  intro t
  rw [mkn_bit, Nat.testBit_two_pow_sub_one, Bool.and_true]
theorem mk_all {N : Nat} (h : N ≤ 16) : ((1 : Int32) <<< (nI N &&& 31)) - 1 = mk N (fun _ => true) := by
  unfold mk
  have : 0 < 2 ^ N := Nat.pow_pos (by decide)
  rw [shI1 (by omega), show (1 : Int32) = nI 1 from rfl, pk_sub this, mkn_all]
theorem mk_none (N : Nat) : mk N (fun _ => false) = 0 := by
  have : mkn (fun _ => false) N = 0 := by
    apply Nat.eq_of_testBit_eq
    intro t
    rw [mkn_bit, Bool.and_false, Nat.zero_testBit]
  unfold mk
  rw [this]
  rfl
theorem mk_not {N : Nat} (h : N ≤ 16) (p : Nat → Bool) : mk N (fun _ => true) &&& (mk N p ^^^ (-1)) = mk N (fun k => !p k) := by
  unfold mk
  apply Int32.toBitVec_inj.mp
  rw [Int32.toBitVec_and, Int32.toBitVec_xor, show (-1 : Int32).toBitVec = BitVec.allOnes 32 by decide]
  show BitVec.ofNat 32 (mkn (fun _ => true) N) &&& (BitVec.ofNat 32 (mkn p N) ^^^ BitVec.allOnes 32) = BitVec.ofNat 32 (mkn (fun k => !p k) N)
  apply BitVec.eq_of_getLsbD_eq
  intro i hi
  rw [BitVec.getLsbD_and, BitVec.getLsbD_xor, BitVec.getLsbD_ofNat, BitVec.getLsbD_ofNat, BitVec.getLsbD_ofNat, BitVec.getLsbD_allOnes, mkn_bit, mkn_bit, mkn_bit, decide_eq_true hi]
  cases decide (i < N) <;> cases p i <;> rfl
theorem mk_z {N : Nat} (h : N ≤ 16) (p : Nat → Bool) : mk N p = 0 ↔ ∀ t, t < N → p t = false := by
  unfold mk
  rw [nI_z (mkn_32 p h)]
  constructor
  · intro e t ht
    have := mkn_tb p N t ht
    rw [e, Nat.zero_testBit] at this
    exact this.symm
  · intro e
    apply Nat.eq_of_testBit_eq
    intro t
    rw [mkn_bit, Nat.zero_testBit]
    by_cases z : t < N
    · rw [e t z, Bool.and_false]
    · rw [decide_eq_false z, Bool.false_and]
theorem ct_mk (p : Nat → Bool) (N : Nat) : ∀ K, fb_ct (mkn p N).testBit (N + K) = fb_ct p N
  | 0 => fb_ct_cong (fun t ht => mkn_tb p N t ht)
  | K + 1 => by
    show fb_ct (mkn p N).testBit (N + K) + (if (mkn p N).testBit (N + K) = true then 1 else 0) = _
    rw [ct_mk p N K, mkn_bit, decide_eq_false (show ¬ N + K < N by omega), Bool.false_and]
    rfl
theorem mk_ct {N : Nat} (h : N ≤ 16) (p : Nat → Bool) : fb_ct (mkn p N).testBit 32 = fb_ct p N := by
  have := ct_mk p N (32 - N)
  rw [show N + (32 - N) = 32 by omega] at this
  exact this
/-- one net more -/
theorem mk_put {p : Nat → Bool} {j : Nat} (hj : j < 16) (h : p j = true) : mk j p ||| ((1 : Int32) <<< (nI j &&& 31)) = mk (j + 1) p := by
  unfold mk
  rw [or_shI _ (by omega)]
  congr 1
  apply Nat.eq_of_testBit_eq
  intro t
  rw [or_tb, mkn_bit, mkn_bit]
  by_cases q : j = t
  · subst q
    rw [decide_eq_true rfl, decide_eq_true (show j < j + 1 by omega), h]
    simp
  · rw [decide_eq_false q, Bool.or_false]
    congr 1
    by_cases z : t < j
    · rw [decide_eq_true z, decide_eq_true (show t < j + 1 by omega)]
    · rw [decide_eq_false z, decide_eq_false (show ¬ t < j + 1 by omega)]
theorem mk_skip {p : Nat → Bool} {j : Nat} (h : p j = false) : mk j p = mk (j + 1) p := by
  unfold mk
  show nI (mkn p j) = nI (mkn p j + (if p j = true then 2 ^ j else 0))
  rw [h, if_neg (by decide), Nat.add_zero]
end SETS
section PROPS
variable {I J : TI} {L M : TL} {b d B : Nat} {X : XT}
/-- a property of a net -/
def pvF (C : CQ) (r : RW) (n : Nat) : Nat → Nat
  | 0 => n
  | 1 => if n < cI C then 0 else 1 + cK C (n - cI C)
  | 2 => if n < cI C then 0 else fb_ct (cD C n).testBit 32
  | 3 => chN (cH C) (shF C r n)
  | 4 => pc (wrF C r n)
  | 5 => if n < cI C then 0 else pc (r (9 + (n - cI C)))
  | 6 => if n < cI C then 0 else pc (r (21 + (n - cI C)) &&& (r (9 + (n - cI C)) ^^^ (-1)))
  | 7 => if n < cI C then 0 else fb_ct (pf C r (n - cI C)) 64
  | _ => if bw (shF C r n) (cH C) = true then 1 else 0
theorem pvF_1 {C : CQ} {r : RW} {n : Nat} : pvF C r n 1 = if n < cI C then 0 else 1 + cK C (n - cI C) := rfl
theorem pvF_2 {C : CQ} {r : RW} {n : Nat} : pvF C r n 2 = if n < cI C then 0 else fb_ct (cD C n).testBit 32 := rfl
theorem pvF_5 {C : CQ} {r : RW} {n : Nat} : pvF C r n 5 = if n < cI C then 0 else pc (r (9 + (n - cI C))) := rfl
theorem pvF_6 {C : CQ} {r : RW} {n : Nat} : pvF C r n 6 = if n < cI C then 0 else pc (r (21 + (n - cI C)) &&& (r (9 + (n - cI C)) ^^^ (-1))) := rfl
theorem pvF_7 {C : CQ} {r : RW} {n : Nat} : pvF C r n 7 = if n < cI C then 0 else fb_ct (pf C r (n - cI C)) 64 := rfl
theorem pvF_le {C : CQ} {r : RW} {n : Nat} (hC : CV C) (hn : n < cI C + cG C) (p : Nat) : pvF C r n p ≤ 100 := by
  have hI := hC.1
  have hG := hC.2.1
  unfold pvF
  split
  · omega
  · split
    · omega
    · have := (hC.2.2.2.2.2.1 (n - cI C) (by omega)).1
      omega
  · split
    · omega
    · have := fb_ct_le (cD C n).testBit 32
      omega
  · have := fb_ct_le (chP (cH C) (shF C r n)) 64
    unfold chN
    omega
  · have := pc_le (wrF C r n)
    omega
  · split
    · omega
    · have := pc_le (r (9 + (n - cI C)))
      omega
  · split
    · omega
    · have := pc_le (r (21 + (n - cI C)) &&& (r (9 + (n - cI C)) ^^^ (-1)))
      omega
  · split
    · omega
    · have := fb_ct_le (pf C r (n - cI C)) 64
      omega
  · split <;> omega
theorem c_propertyOf {Q : Int32 → Prop} {x y : Int32} {n p : Nat} (h : INV I L b d X B) (hx : x = nI n) (hn : n < cI (xC X) + cG (xC X)) (hy : y = nI p) (hp : p < 9) (k : Q (nI (pvF (xC X) (xr X) n p))) : W_X0_propertyOf b x y I L Q := by
  have nb := h.nb
  subst hx; subst hy
  have vn : vp_in (nI n) 16 := pk_in n 16 (by omega) rfl
  obtain ⟨wa, -, wc, -⟩ := h.bc.2.2 n hn
  have z : ∀ m, m < 9 → nI p = nI m → p = m := fun m hm e => (nI_eq (by omega) (by omega)).mp e
  have e6 : I (b + 1) 6 = nI (cH (xC X)) := h.bc.1.2.2.1
  unfold W_X0_propertyOf
  refine s_hasGate h.bc.1 h.C (fun hg => ?_) (fun hg => ?_)
  · obtain ⟨n2, n1, nn2, e2⟩ := hg
    have en : n = n2 := (nI_eq (by omega) (by omega)).mp e2
    subst en
    have hlt : ¬ n < cI (xC X) := by omega
    obtain ⟨g, rfl⟩ : ∃ g, n = cI (xC X) + g := ⟨n - cI (xC X), by omega⟩
    have hg : g < cG (xC X) := by omega
    obtain ⟨q1, -, -⟩ := h.bc.1.2.2.2.2.2.1 g hg
    replace q1 : I (b + 2) (cI (xC X) + g) = nI (cK (xC X) g) := q1
    rw [pk_cl (cI (xC X) + g) rfl (by omega), q1, wa, e6]
    have c0 : cI (xC X) + g - cI (xC X) = g := Nat.add_sub_cancel_left _ _
    refine ⟨fun e => ?_, fun e => ⟨fun y => absurd y (by decide), fun _ => ⟨vn, ?_⟩⟩, fun e => ⟨fun y => absurd y (by decide), fun _ => s_cone h.bc.1 h.C rfl hn ?_⟩, fun e => ⟨vn, s_changesC rfl (by omega) (by omega) ?_⟩, fun e => c_wrongTimes h rfl hn (s_bcL ?_), fun e => s_settledT h.bc.2.1 h.C rfl hg ?_, fun e => s_ruledT h.bc.2.1 h.C rfl hg ?_, fun e => ⟨fun y => absurd y (by decide), fun _ => c_pulses h rfl hg ?_⟩, fun e => ⟨vn, s_bitOf rfl (by omega) ?_⟩⟩
    · have := z 0 (by omega) e; subst this; exact k
    · have := z 1 (by omega) e; subst this
      rw [pvF_1, if_neg hlt, c0] at k
      rw [show (1 : Int32) = nI 1 from rfl, nI_add]
      exact k
    · have := z 2 (by omega) e; subst this
      rw [pvF_2, if_neg hlt] at k
      exact k
    · have := z 3 (by omega) e; subst this; exact k
    · have := z 4 (by omega) e; subst this; exact k
    · have := z 5 (by omega) e; subst this
      rw [pvF_5, if_neg hlt, c0] at k
      exact k
    · have := z 6 (by omega) e; subst this
      rw [pvF_6, if_neg hlt, c0] at k
      exact k
    · have := z 7 (by omega) e; subst this
      rw [pvF_7, if_neg hlt, c0] at k
      exact k
    · have p8 : p = 8 := by
        rcases e with e | e
        · exact absurd e (nI_pos (by omega))
        · have := (nI_ltI (a := 7) (by omega) (by omega)).mp e
          omega
      subst p8
      rw [bi_nI]
      exact k
  · have hlt : n < cI (xC X) := by
      rcases Nat.lt_or_ge n (cI (xC X)) with q | q
      · exact q
      · exact absurd (rgi q hn) hg
    obtain ⟨-, q6, q7⟩ := h.bc.2.1.2.2.2.1 n hlt
    replace q6 : L (b + 6 + 6) n = 0 := q6
    replace q7 : L (b + 6 + 7) n = 0 := q7
    refine ⟨fun e => ?_, fun e => ⟨fun _ => ?_, fun y => absurd rfl y⟩, fun e => ⟨fun _ => ?_, fun y => absurd rfl y⟩, fun e => ⟨vn, ?_⟩, fun e => c_wrongTimes h rfl hn (s_bcL ?_), fun e => ?_, fun e => ?_, fun e => ⟨fun _ => ?_, fun y => absurd rfl y⟩, fun e => ⟨vn, ?_⟩⟩
    · have := z 0 (by omega) e; subst this; exact k
    · have := z 1 (by omega) e; subst this
      rw [pvF_1, if_pos hlt] at k
      exact k
    · have := z 2 (by omega) e; subst this
      rw [pvF_2, if_pos hlt] at k
      exact k
    · have := z 3 (by omega) e; subst this
      rw [pk_cl n rfl (by omega), wa, e6]
      exact s_changesC rfl (by omega) (by omega) k
    · have := z 4 (by omega) e; subst this; exact k
    · have := z 5 (by omega) e; subst this
      rw [pvF_5, if_pos hlt] at k
      unfold W_X6_settledTimes
      rw [pk_cl n rfl (by omega), q6]
      refine ⟨vn, s_bcL ?_⟩
      rw [pc_0]
      exact k
    · have := z 6 (by omega) e; subst this
      rw [pvF_6, if_pos hlt] at k
      unfold W_X6_ruledTimes
      rw [pk_cl n rfl (by omega), q6, q7]
      refine ⟨vn, vn, s_bcL ?_⟩
      rw [show ((0 : Int64) &&& (0 ^^^ (-1))) = 0 by decide, pc_0]
      exact k
    · have := z 7 (by omega) e; subst this
      rw [pvF_7, if_pos hlt] at k
      exact k
    · have p8 : p = 8 := by
        rcases e with e | e
        · exact absurd e (nI_pos (by omega))
        · have := (nI_ltI (a := 7) (by omega) (by omega)).mp e
          omega
      subst p8
      rw [pk_cl n rfl (by omega), wa, e6]
      refine s_bitOf rfl (by omega) ?_
      rw [bi_nI]
      exact k
/-- the reference's -/
theorem m_propertyOf {Q : Int32 → TI → Prop} {x y : Int32} {n p : Nat} (h : INV I L b d X B) (hW : WEq (xC X) (xr X) (L 444) (L 445) (L 446)) (hx : x = nI n) (hn : n < cI (xC X) + cG (xC X)) (hy : y = nI p) (hp : p < 9) (k : ∀ J, INV J L b d X B → fpI I J → Q (nI (pvF (xC X) (xr X) n p)) J) : W_X9_propertyOf y x I L Q := by
  have nb := h.nb
  subst hx; subst hy
  have vn : vp_in (nI n) 16 := pk_in n 16 (by omega) rfl
  obtain ⟨wa, -, wc⟩ := WEq.is hW h.C hn
  have z : ∀ m, m < 9 → nI p = nI m → p = m := fun m hm e => (nI_eq (by omega) (by omega)).mp e
  obtain ⟨m1, m2, m3, m4, m5, m6⟩ := h.mc
  have k0 : Q (nI (pvF (xC X) (xr X) n p)) I := k I h ⟨sameI.rf _ _, fun _ _ _ _ => rfl⟩
  unfold W_X9_propertyOf
  rw [pk_cl n rfl (by omega), wa, wc, m1, m3, h.row]
  by_cases hlt : n < cI (xC X)
  · have hneg : nI n - nI (cI (xC X)) < 0 := pk_sneg (by omega) hlt
    refine ⟨fun e => ?_, fun e => ⟨fun y => absurd hneg (lt_nle.mpr y), fun _ => ?_⟩, fun e => ⟨fun y => absurd hneg (lt_nle.mpr y), fun _ => ?_⟩, fun e => ⟨vn, ?_⟩, fun e => ⟨vn, vn, s_ones ?_⟩, fun e => ⟨fun y => absurd hneg (lt_nle.mpr y), fun _ => ?_⟩, fun e => ⟨fun y => absurd hneg (lt_nle.mpr y), fun _ => ?_⟩, fun e => ⟨fun y => absurd hneg (lt_nle.mpr y), fun _ => ?_⟩, fun e => ⟨vn, ?_⟩⟩
    · have := z 0 (by omega) e; subst this; exact k0
    · have := z 1 (by omega) e; subst this
      rw [pvF_1, if_pos hlt] at k0
      exact k0
    · have := z 2 (by omega) e; subst this
      rw [pvF_2, if_pos hlt] at k0
      exact k0
    · have := z 3 (by omega) e; subst this
      exact s_changes9 m3 (by omega) k0
    · have := z 4 (by omega) e; subst this; exact k0
    · have := z 5 (by omega) e; subst this
      rw [pvF_5, if_pos hlt] at k0
      exact k0
    · have := z 6 (by omega) e; subst this
      rw [pvF_6, if_pos hlt] at k0
      exact k0
    · have := z 7 (by omega) e; subst this
      rw [pvF_7, if_pos hlt] at k0
      exact k0
    · have p8 : p = 8 := by
        rcases e with e | e
        · exact absurd e (nI_pos (by omega))
        · have := (nI_ltI (a := 7) (by omega) (by omega)).mp e
          omega
      subst p8
      refine s_bit rfl (by omega) ?_
      rw [bi_nI]
      exact k0
  · obtain ⟨g, rfl⟩ : ∃ g, n = cI (xC X) + g := ⟨n - cI (xC X), by omega⟩
    have hg : g < cG (xC X) := by omega
    have c0 : cI (xC X) + g - cI (xC X) = g := Nat.add_sub_cancel_left _ _
    have hpos : (0 : Int32) ≤ nI g := nI_pos' (by omega)
    obtain ⟨q1, -, -⟩ := m6 g hg
    rw [pk_sub (Nat.le_add_right _ _), c0, pk_cl g rfl (by omega), q1, show (9 : Int32) + nI g = nI (9 + g) from nI_add 9 g, show (21 : Int32) + nI g = nI (21 + g) from nI_add 21 g, pk_cl (9 + g) rfl (by omega), pk_cl (21 + g) rfl (by omega)]
    have v9 : vp_in (nI (9 + g)) 241 := pk_in _ 241 (by omega) rfl
    have v21 : vp_in (nI (21 + g)) 241 := pk_in _ 241 (by omega) rfl
    refine ⟨fun e => ?_, fun e => ⟨fun _ => ⟨pk_in g 12 (by omega) rfl, ?_⟩, fun y => absurd hpos y⟩, fun e => ⟨fun _ => s_dep h.mc h.C rfl hn (s_ones ?_), fun y => absurd hpos y⟩, fun e => ⟨vn, ?_⟩, fun e => ⟨vn, vn, s_ones ?_⟩, fun e => ⟨fun _ => ⟨v9, s_ones ?_⟩, fun y => absurd hpos y⟩, fun e => ⟨fun _ => ⟨v21, v9, s_ones ?_⟩, fun y => absurd hpos y⟩, fun e => ⟨fun _ => ?_, fun y => absurd hpos y⟩, fun e => ⟨vn, ?_⟩⟩
    · have := z 0 (by omega) e; subst this; exact k0
    · have := z 1 (by omega) e; subst this
      rw [pvF_1, if_neg hlt, c0] at k0
      rw [show (1 : Int32) = nI 1 from rfl, nI_add]
      exact k0
    · have := z 2 (by omega) e; subst this
      rw [pvF_2, if_neg hlt] at k0
      rw [pc_lN, ct_64 (cD_lt h.C hn)]
      exact k0
    · have := z 3 (by omega) e; subst this
      exact s_changes9 m3 (by omega) k0
    · have := z 4 (by omega) e; subst this; exact k0
    · have := z 5 (by omega) e; subst this
      rw [pvF_5, if_neg hlt, c0] at k0
      exact k0
    · have := z 6 (by omega) e; subst this
      rw [pvF_6, if_neg hlt, c0] at k0
      exact k0
    · have := z 7 (by omega) e; subst this
      rw [pvF_7, if_neg hlt, c0] at k
      unfold W_X9_pulsesOf
      refine m_fp h hW rfl hg (fun J t i hJ ef e1 e2 e3 _ _ => ?_) (fun J hJ ef _ e => by rw [e]; exact k J hJ ef)
      have lt := pf_lt (g := g) e2
      have := fb_ct_le (pf (xC X) (xr X) g) t
      exact absurd e1.symm (nI_nm1 (by omega))
    · have p8 : p = 8 := by
        rcases e with e | e
        · exact absurd e (nI_pos (by omega))
        · have := (nI_ltI (a := 7) (by omega) (by omega)).mp e
          omega
      subst p8
      refine s_bit rfl (by omega) ?_
      rw [bi_nI]
      exact k0
end PROPS
