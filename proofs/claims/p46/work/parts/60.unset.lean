/-! unsettle and forgets -/
section UNSET
variable {I J : TI} {L M : TL} {b d B : Nat} {X : XT}
def fgF (C : CQ) (r : RW) (net : Nat) : RW := fgR r (fun g => tcB C net (cI C + g)) (fun k => tcB C net (dN r k))
def fgN (C : CQ) (r : RW) (net : Nat) : Nat := fb_ct (fun k => tcB C net (dN r k) && dP r k) (un (r 4))
theorem FG.cg {C : CQ} {r : RW} {T T2 D D2 : Nat → Bool} {i : TI} {l : TL} (f : FG I L b C r T D i l) (h : ∀ g, g < cG C → T2 g = T g) (h2 : ∀ k, k < un (r 4) → (D2 k && dP r k) = (D k && dP r k)) : FG I L b C r T2 D2 i l := by
  refine ⟨f.1, f.2.1, f.2.2.1, fun w hw g hg => by rw [h g hg]; exact f.2.2.2.1 w hw g hg, fun k hk f0 hf => ?_⟩
  have e := h2 k hk
  rw [f.2.2.2.2 k hk f0 hf]
  by_cases q : f0 = 6 ∧ D k = true ∧ dP r k = true
  · rw [q.2.1, q.2.2, Bool.and_true, Bool.and_true] at e
    rw [if_pos q, if_pos ⟨q.1, e, q.2.2⟩]
  · rw [if_neg q, if_neg (fun z => q ⟨z.1, ?_, z.2.2⟩)]
    rw [z.2.1, z.2.2, Bool.and_true, Bool.and_true] at e
    exact e.symm
theorem dP_of {r : RW} {k : Nat} : dP r k = true ↔ (dF r k 6 = 0 ∨ dF r k 6 = 1) := by
  unfold dP
  exact decide_eq_true_iff
theorem s_drop {Q : Int32 → TI → Prop} {C : CQ} {r : RW} {T D : Nat → Bool} {i : TI} {l : TL} {j : Nat} {x : Int32} (hC : CV C) (hr : RV C B r) (f : FG I L b C r T D i l) (h7 : I (b + 6) 7 = nI (un (r 4))) (hx : x = nI j) (hj : j < 16) (hD : ∀ k, k < un (r 4) → dN r k = j → D k = false)
    (k : ∀ i2, FG I L b C r T (fun k => D k || decide (dN r k = j)) i2 l → Q (nI (fb_ct (fun k => decide (dN r k = j) && dP r k) (un (r 4)))) i2) : W_X6_dropPending (b + 6) x i l Q := by
  subst hx
  have hI := hC.1
  have hG := hC.2.1
  have hc := hr.2.2.1
  unfold W_X6_dropPending
  refine lp3 (fun n u v i => L_X6_dropPending_4 (b + 6) (nI j) l Q n u v i) (fun u v i => ∃ m, m ≤ un (r 4) ∧ v = nI m ∧ u = nI (fb_ct (fun k => decide (dN r k = j) && dP r k) m) ∧ FG I L b C r T (fun k => D k || (decide (k < m) && decide (dN r k = j))) i l) (fun _ v _ => un (r 4) - v.toNatClampNeg) ?_ _ _ _ ⟨0, Nat.zero_le _, rfl, rfl, f.cg (fun _ _ => rfl) (fun k _ => by rw [decide_eq_false (Nat.not_lt_zero k), Bool.false_and, Bool.or_false])⟩
  rintro n u v i ⟨m, m0, rfl, rfl, fi⟩ ih
  have e7 : i (b + 6) 7 = nI (un (r 4)) := by rw [fi.1 _ (by omega), h7]
  refine pk_le (un (r 4)) m (fun q => ?_) (fun q => ?_) e7 rfl (by omega) (by omega)
  · have : m = un (r 4) := by omega
    subst this
    exact k i (fi.cg (fun _ _ => rfl) (fun k hk => by rw [decide_eq_true hk, Bool.true_and]))
  · obtain ⟨s1, s2, s3, s4, s5, s6, s7, s8, ⟨st, st1, st2⟩, s10⟩ := hr.ds hC q
    have ej : b + 6 + 11 + m = b + 17 + m := by omega
    have d0 : i (b + 17 + m) 0 = nI (dN r m) := by
      have := fi.2.2.2.2 m q 0 (by omega)
      rw [if_neg (fun z => absurd z.1 (by decide)), s3] at this
      exact this
    have v20 : vp_in (nI m) 20 := pk_in m 20 (by omega) rfl
    have hst : fb_ct (fun k => decide (dN r k = j) && dP r k) (m + 1) = fb_ct (fun k => decide (dN r k = j) && dP r k) m + (if (decide (dN r m = j) && dP r m) = true then 1 else 0) := rfl
    have same : (decide (dN r m = j) && dP r m) = false → B_X6_dropPending_50 (b + 6) (nI j) (nI (fb_ct (fun k => decide (dN r k = j) && dP r k) m)) (nI m) i l Q (fun v2 v3 I => L_X6_dropPending_4 (b + 6) (nI j) l Q n v2 v3 I) := by
      intro y
      refine ih _ _ _ ⟨m + 1, by omega, nI_1 m, by rw [hst, y]; rfl, fi.cg (fun _ _ => rfl) (fun k hk => ?_)⟩ (by rw [nI_1, nI_clamp (by omega), nI_clamp (by omega)]; omega)
      by_cases z : k = m
      · subst z
        have : (D k || (decide (k < k + 1) && decide (dN r k = j))) = (D k || decide (dN r k = j)) := by rw [decide_eq_true (Nat.lt_succ_self k), Bool.true_and]
        rw [this, decide_eq_false (Nat.lt_irrefl k), Bool.false_and, Bool.or_false]
        cases h1 : decide (dN r k = j) <;> cases h2 : dP r k <;> rw [h1, h2] at y
        · rw [Bool.or_false]
        · rw [Bool.or_false]
        · rw [Bool.and_false, Bool.and_false]
        · exact absurd y (by decide)
      · rw [show decide (k < m + 1) = decide (k < m) from decide_eq_decide.mpr (by omega)]
    rw [pk_cl m rfl (by omega), ej]
    refine ⟨v20, ?_⟩
    rw [d0]
    refine ⟨fun e => same ?_, fun e => ⟨v20, ?_⟩⟩
    · rw [decide_eq_false (fun z => e (by rw [z])), Bool.false_and]
    · have ej2 : dN r m = j := (nI_eq (by omega) (by omega)).mp e
      have d6 : i (b + 17 + m) 6 = dF r m 6 := by
        have := fi.2.2.2.2 m q 6 (by omega)
        rw [this, if_neg]
        rintro ⟨_, z, _⟩
        change (D m || (decide (m < m) && decide (dN r m = j))) = true at z
        rw [hD m q ej2, decide_eq_false (Nat.lt_irrefl m), Bool.false_and, Bool.or_false] at z
        exact absurd z (by decide)
      have yes : dP r m = true → vp_in (nI m) 20 ∧ B_X6_dropPending_50 (b + 6) (nI j) (nI (fb_ct (fun k => decide (dN r k = j) && dP r k) m) + 1) (nI m) (up2 i (b + 17 + m) 6 4) l Q (fun v2 v3 I => L_X6_dropPending_4 (b + 6) (nI j) l Q n v2 v3 I) := by
        intro y
        refine ⟨v20, ih _ _ _ ⟨m + 1, by omega, nI_1 m, by rw [hst, decide_eq_true ej2, y]; exact nI_1 _, fun q2 hq2 => by rw [up2_row (by omega)]; exact fi.1 q2 hq2, fi.2.1, fi.2.2.1, fi.2.2.2.1, fun k hk f0 hf => ?_⟩ (by rw [nI_1, nI_clamp (by omega), nI_clamp (by omega)]; omega)⟩
        by_cases z : k = m
        · subst z
          rw [up2_at]
          by_cases z2 : f0 = 6
          · rw [if_pos z2, if_pos ⟨z2, by show (D k || (decide (k < k + 1) && decide (dN r k = j))) = true; rw [decide_eq_true (Nat.lt_succ_self k), decide_eq_true ej2]; exact Bool.or_true _, y⟩]
          · rw [if_neg z2, fi.2.2.2.2 k hk f0 hf, if_neg (fun z3 => z2 z3.1), if_neg (fun z3 => z2 z3.1)]
        · rw [up2_row (by omega)]
          show i (b + 17 + k) f0 = if f0 = 6 ∧ (D k || (decide (k < m + 1) && decide (dN r k = j))) = true ∧ dP r k = true then 4 else dF r k f0
          rw [show decide (k < m + 1) = decide (k < m) from decide_eq_decide.mpr (by omega)]
          exact fi.2.2.2.2 k hk f0 hf
      unfold W_X3_isPending
      rw [d6]
      refine ⟨fun e0 => ⟨fun z => absurd z (by decide), fun _ => yes (dP_of.mpr (Or.inl e0))⟩, fun e0 => ⟨fun e1 => ⟨fun _ => same ?_, fun z => absurd rfl z⟩, fun e1 => ⟨fun z => absurd z (by decide), fun _ => yes (dP_of.mpr (Or.inr e1))⟩⟩⟩
      have : dP r m = false := by
        unfold dP
        exact decide_eq_false (fun z => z.elim e0 e1)
      rw [this, Bool.and_false]
theorem bitI {T n : Nat} (hT : T < 2 ^ 32) (hn : n < 32) : ((ushI (nI T) (nI n)) &&& 1) = 1 ↔ T.testBit n = true := by
  have h1 : T / 2 ^ n % 2 < 2 := Nat.mod_lt _ (by decide)
  rw [ush_nI hT hn, show (1 : Int32) = nI 1 from rfl, nI_and, Nat.and_one_is_mod, nI_eq (by omega) (by omega), Nat.testBit_eq_decide_div_mod_eq, decide_eq_true_iff]
theorem c_unsettle {Q : Int32 → TI → TL → Prop} {C : CQ} {r : RW} {net : Nat} {x : Int32} (hb : bnOK b) (hC : CV C) (hr : RV C B r) (h : CC I (b + 1) C) (hS : SC I L (b + 6) C r) (hx : x = nI net) (hn : net < cI C + cG C)
    (k : ∀ J M, (∀ q, q ≠ b + 41 → (q < b + 17 ∨ b + 36 < q) → J q = I q) → (∀ q, q ≠ b + 12 → q ≠ b + 13 → q ≠ b + 14 → q ≠ b + 37 → q ≠ b + 38 → q ≠ b + 39 → M q = L q) → RV C B (fgF C r net) → BC J M b C (fgF C r net) → Q (nI (fgN C r net)) J M) : W_X0_unsettle b x I L Q := by
  have hI := hC.1
  have hG := hC.2.1
  have hc := hr.2.2.1
  unfold W_X0_unsettle
  refine s_touchedBy h hC hx hn ?_
  rw [h.1]
  refine lp4 (fun n u v i l => L_X0_unsettle_20 b (nI (tcF C net)) Q n u v i l) (fun u v i l => ∃ j, j ≤ cG C ∧ v = nI (cI C + j) ∧ u = nI (fb_ct (fun k => (decide (dN r k < cI C + j) && tcB C net (dN r k)) && dP r k) (un (r 4))) ∧ FG I L b C r (fun g => decide (g < j) && tcB C net (cI C + g)) (fun k => decide (dN r k < cI C + j) && tcB C net (dN r k)) i l) (fun _ v _ _ => cI C + cG C - v.toNatClampNeg) ?_ _ _ _ _ ⟨0, Nat.zero_le _, rfl, ?_, ?_⟩
  · rintro n u v i l ⟨j, j0, rfl, rfl, f⟩ ih
    have hci : CC i (b + 1) C := CC.fr h (fun q a c => f.1 q (by omega))
    show D_X0_unsettle_20 b (nI (tcF C net)) Q _ _ (nI (cI C + j)) i l
    unfold D_X0_unsettle_20
    refine s_nets2 hci ?_
    refine pk_le (cI C + cG C) (cI C + j) (fun q => ?_) (fun q => ?_) rfl rfl (by omega) (by omega)
    · have : j = cG C := by omega
      subst this
      have tn : ∀ n, (decide (n < cI C + cG C) && tcB C net n) = tcB C net n := fun n => by
        by_cases z : n < cI C + cG C
        · rw [decide_eq_true z, Bool.true_and]
        · have : tcB C net n = false := by
            unfold tcB
            rw [decide_eq_false (by omega), Bool.false_and]
          rw [this, Bool.and_false]
      have f2 : FG I L b C r (fun g => tcB C net (cI C + g)) (fun k => tcB C net (dN r k)) i l := f.cg (fun g hg => by rw [decide_eq_true hg, Bool.true_and]) (fun k hk => by rw [tn])
      have e : fb_ct (fun k => (decide (dN r k < cI C + cG C) && tcB C net (dN r k)) && dP r k) (un (r 4)) = fgN C r net := fb_ct_cong (fun k hk => by rw [tn])
      rw [e]
      have hr2 : RV C B (fgF C r net) := hr.fg hC
      have hS2 : SC i l (b + 6) C (fgF C r net) := f2.sc hC hr hS
      refine c_refresh hb hC hr2 hci hS2 (fun J M hJ hM hB => k J M (fun q a c => by rw [hJ q a, f.1 q c]) (fun q a1 a2 a3 a4 a5 a6 => by rw [hM q a4 a5 a6, f.2.1 q a1 a2 a3]) hr2 hB)
    · have hj : j < cG C := by omega
      have bt := bitI (T := tcF C net) (n := cI C + j) (Nat.lt_trans (tcF_lt C net) (by decide)) (by omega)
      rw [tcF_tb hC] at bt
      have dd : ∀ k, k < un (r 4) → (decide (dN r k < cI C + (j + 1)) && tcB C net (dN r k)) = ((decide (dN r k < cI C + j) && tcB C net (dN r k)) || (decide (dN r k = cI C + j) && tcB C net (cI C + j))) := fun k hk => by
        by_cases z : dN r k = cI C + j
        · rw [z, decide_eq_true (show cI C + j < cI C + (j + 1) by omega), decide_eq_false (Nat.lt_irrefl _), decide_eq_true (rfl : cI C + j = cI C + j)]
          rfl
        · rw [decide_eq_false z, Bool.false_and, Bool.or_false, show decide (dN r k < cI C + (j + 1)) = decide (dN r k < cI C + j) from decide_eq_decide.mpr (by omega)]
      refine ⟨fun e => ?_, fun e => ?_⟩
      · have t0 : tcB C net (cI C + j) = false := by
          cases z : tcB C net (cI C + j) with
          | true => exact absurd (bt.mpr z) e
          | false => rfl
        refine ih _ _ _ _ ⟨j + 1, by omega, nI_1 _, ?_, f.cg (fun g hg => ?_) (fun k hk => ?_)⟩ (by rw [nI_1, nI_clamp (by omega), nI_clamp (by omega)]; omega)
        · congr 1
          refine fb_ct_cong (fun k hk => ?_)
          rw [dd k hk, t0, Bool.and_false, Bool.or_false]
        · by_cases z : g = j
          · rw [z, t0, Bool.and_false, Bool.and_false]
          · rw [show decide (g < j + 1) = decide (g < j) from decide_eq_decide.mpr (by omega)]
        · rw [dd k hk, t0, Bool.and_false, Bool.or_false]
      · have t1 : tcB C net (cI C + j) = true := bt.mp e
        have v16 : vp_in (nI (cI C + j)) 16 := pk_in _ 16 (by omega) rfl
        unfold W_X6_forget
        rw [pk_cl (cI C + j) rfl (by omega)]
        refine ⟨v16, v16, ?_⟩
        rintro _ rfl
        refine ⟨v16, ?_⟩
        have f2 : FG I L b C r (fun g => decide (g < j + 1) && tcB C net (cI C + g)) (fun k => decide (dN r k < cI C + j) && tcB C net (dN r k)) i (up2 (up2 (up2 l (b + 6 + 6) (cI C + j) 0) (b + 6 + 7) (cI C + j) 0) (b + 6 + 8) (cI C + j) 0) := by
          refine ⟨f.1, fun q a1 a2 a3 => by rw [up2_row (by omega), up2_row (by omega), up2_row (by omega)]; exact f.2.1 q a1 a2 a3, fun w hw n hn => ?_, fun w hw g hg => ?_, f.2.2.2.2⟩
          · rw [← f.2.2.1 w hw n hn, up2_n (Or.inr (by omega)), up2_n (Or.inr (by omega)), up2_n (Or.inr (by omega))]
          · by_cases z : g = j
            · subst z
              show _ = if (decide (g < g + 1) && tcB C net (cI C + g)) = true then 0 else L (b + 12 + w) (cI C + g)
              rw [decide_eq_true (Nat.lt_succ_self g), t1, Bool.and_true, if_pos rfl]
              have w3 : w = 0 ∨ w = 1 ∨ w = 2 := by omega
              rcases w3 with rfl | rfl | rfl
              · rw [up2_row (by omega), up2_row (by omega), show b + 6 + 6 = b + 12 + 0 by omega, up2_s]
              · rw [up2_row (by omega), show b + 6 + 7 = b + 12 + 1 by omega, up2_s]
              · rw [show b + 6 + 8 = b + 12 + 2 by omega, up2_s]
            · show _ = if (decide (g < j + 1) && tcB C net (cI C + g)) = true then 0 else L (b + 12 + w) (cI C + g)
              rw [up2_n (Or.inr (by omega)), up2_n (Or.inr (by omega)), up2_n (Or.inr (by omega)), show decide (g < j + 1) = decide (g < j) from decide_eq_decide.mpr (by omega)]
              exact f.2.2.2.1 w hw g hg
        refine s_drop hC hr f2 hS.2.2.1 rfl (by omega) (fun k hk z => by rw [z, decide_eq_false (Nat.lt_irrefl _), Bool.false_and]) (fun i2 fi => ?_)
        refine ih _ _ _ _ ⟨j + 1, by omega, nI_1 _, ?_, fi.cg (fun g hg => rfl) (fun k hk => ?_)⟩ (by rw [nI_1, nI_clamp (by omega), nI_clamp (by omega)]; omega)
        · rw [nI_add]
          congr 1
          rw [← fb_ct_or]
          · refine fb_ct_cong (fun k hk => ?_)
            rw [dd k hk, t1, Bool.and_true, Bool.and_or_distrib_right]
          · rintro k hk ⟨z1, z2⟩
            rw [Bool.and_eq_true, Bool.and_eq_true, decide_eq_true_iff] at z1
            rw [Bool.and_eq_true, decide_eq_true_iff] at z2
            omega
        · rw [dd k hk, t1, Bool.and_true]
  · have : fb_ct (fun k => (decide (dN r k < cI C + 0) && tcB C net (dN r k)) && dP r k) (un (r 4)) = 0 := fb_ct_zero.mpr (fun k hk => by
      have := (hr.ds hC hk).1
      rw [decide_eq_false (by omega), Bool.false_and, Bool.false_and])
    rw [this]
    rfl
  · refine ⟨fun _ _ => rfl, fun _ _ _ _ => rfl, fun _ _ _ _ => rfl, fun w hw g hg => ?_, fun k hk f0 hf => ?_⟩
    · show _ = if (decide (g < 0) && tcB C net (cI C + g)) = true then 0 else L (b + 12 + w) (cI C + g)
      rw [decide_eq_false (Nat.not_lt_zero g), Bool.false_and, if_neg (by decide)]
    · have := (hr.ds hC hk).1
      rw [if_neg (fun z => ?_)]
      · have := hS.ds hk hf
        rw [show b + 6 + 11 + k = b + 17 + k by omega] at this
        exact this
      · have z2 := z.2.1
        change (decide (dN r k < cI C + 0) && tcB C net (dN r k)) = true at z2
        rw [decide_eq_false (by omega), Bool.false_and] at z2
        exact absurd z2 (by decide)
end UNSET
