/-! open, judge -/
section OPEN
variable {I J : TI} {L M : TL} {b d B : Nat} {X : XT}
def DPV (C : CQ) (r : RW) (d : Nat) : Prop := (∃ g, g < cG C ∧ r (81 + 8 * d) = lN (cI C + g)) ∧ (∃ a b, 1 ≤ a ∧ a ≤ b ∧ b < cH C ∧ r (82 + 8 * d) = lN a ∧ r (83 + 8 * d) = lN b) ∧ (r (84 + 8 * d) = 0 ∨ r (84 + 8 * d) = 1) ∧ (r (85 + 8 * d) = 0 ∨ r (85 + 8 * d) = 1) ∧ (r (86 + 8 * d) = 0 ∨ r (86 + 8 * d) = 1) ∧ (∃ s, s ≤ 4 ∧ r (87 + 8 * d) = lN s) ∧ ((r (88 + 8 * d) = -1 ∧ r (87 + 8 * d) ≠ 1) ∨ r (88 + 8 * d) = 0 ∨ r (88 + 8 * d) = 1)
theorem RV.dp {C : CQ} {r : RW} (h : RV C B r) {k : Nat} (hk : k < un (r 4)) : DPV C r k := h.2.2.2.2.2 k hk
theorem DPV.same {C : CQ} {r s : RW} {k : Nat} (h : DPV C r k) (e : ∀ f, f < 8 → s (81 + 8 * k + f) = r (81 + 8 * k + f)) : DPV C s k := by
  unfold DPV
  have e0 : s (81 + 8 * k) = r (81 + 8 * k) := e 0 (by omega)
  have e1 : s (82 + 8 * k) = r (82 + 8 * k) := by have := e 1 (by omega); rw [show 81 + 8 * k + 1 = 82 + 8 * k by omega] at this; exact this
  have e2 : s (83 + 8 * k) = r (83 + 8 * k) := by have := e 2 (by omega); rw [show 81 + 8 * k + 2 = 83 + 8 * k by omega] at this; exact this
  have e3 : s (84 + 8 * k) = r (84 + 8 * k) := by have := e 3 (by omega); rw [show 81 + 8 * k + 3 = 84 + 8 * k by omega] at this; exact this
  have e4 : s (85 + 8 * k) = r (85 + 8 * k) := by have := e 4 (by omega); rw [show 81 + 8 * k + 4 = 85 + 8 * k by omega] at this; exact this
  have e5 : s (86 + 8 * k) = r (86 + 8 * k) := by have := e 5 (by omega); rw [show 81 + 8 * k + 5 = 86 + 8 * k by omega] at this; exact this
  have e6 : s (87 + 8 * k) = r (87 + 8 * k) := by have := e 6 (by omega); rw [show 81 + 8 * k + 6 = 87 + 8 * k by omega] at this; exact this
  have e7 : s (88 + 8 * k) = r (88 + 8 * k) := by have := e 7 (by omega); rw [show 81 + 8 * k + 7 = 88 + 8 * k by omega] at this; exact this
  rw [e0, e1, e2, e3, e4, e5, e6, e7]
  exact h
/-- a dispute of the row, out of its ints -/
theorem DPV.of {C : CQ} {s : RW} {k g a e : Nat} {v3 v4 v5 v6 v7 : Int32} (hC : CV C) (hg : g < cG C) (h1 : 1 ≤ a) (h2 : a ≤ e) (h3 : e < cH C) (q0 : s (81 + 8 * k) = (nI (cI C + g)).toInt64) (q1 : s (82 + 8 * k) = (nI a).toInt64) (q2 : s (83 + 8 * k) = (nI e).toInt64) (q3 : s (84 + 8 * k) = v3.toInt64) (q4 : s (85 + 8 * k) = v4.toInt64) (q5 : s (86 + 8 * k) = v5.toInt64) (q6 : s (87 + 8 * k) = v6.toInt64) (q7 : s (88 + 8 * k) = v7.toInt64)
    (p3 : v3 = 0 ∨ v3 = 1) (p4 : v4 = 0 ∨ v4 = 1) (p5 : v5 = 0 ∨ v5 = 1) (p6 : ∃ t, t ≤ 4 ∧ v6 = nI t) (p7 : (v7 = -1 ∧ v6 ≠ 1) ∨ v7 = 0 ∨ v7 = 1) : DPV C s k := by
  have hI := hC.1
  have hG := hC.2.1
  have hH := hC.2.2.1
  have z0 : ∀ v : Int32, v = 0 → v.toInt64 = 0 := fun v q => by rw [q]; rfl
  have z1 : ∀ v : Int32, v = 1 → v.toInt64 = 1 := fun v q => by rw [q]; rfl
  obtain ⟨t, t1, rfl⟩ := p6
  refine ⟨⟨g, hg, by rw [q0, nI_l (by omega)]⟩, ⟨a, e, h1, h2, h3, by rw [q1, nI_l (by omega)], by rw [q2, nI_l (by omega)]⟩, by rw [q3]; exact p3.imp (z0 _) (z1 _), by rw [q4]; exact p4.imp (z0 _) (z1 _), by rw [q5]; exact p5.imp (z0 _) (z1 _), ⟨t, t1, by rw [q6, nI_l (by omega)]⟩, ?_⟩
  rw [q6, q7]
  rcases p7 with ⟨p, p2⟩ | p | p
  · refine Or.inl ⟨by rw [p]; rfl, fun q => p2 ?_⟩
    rw [show (1 : Int64) = (1 : Int32).toInt64 from rfl, wide_eq] at q
    exact q
  · exact Or.inr (Or.inl (z0 _ p))
  · exact Or.inr (Or.inr (z1 _ p))
theorem SC.upd {C : CQ} {r s : RW} {a : Nat} (hC : CV C) (h : SC I L a C r) (eR : ∀ k, 5 ≤ k → k < 81 → s k = r k) (eI : ∀ q, a + 2 ≤ q → q ≤ a + 4 → J q = I q) (h0 : J a 8 = nI (un (s 0))) (hp : ∀ p, p < 3 → J (a + 9) p = nI (un (s (1 + p)))) (h7 : J a 7 = nI (un (s 4))) (hd : ∀ k, k < un (s 4) → ∀ f, f < 8 → (J (a + 11 + k) f).toInt64 = s (81 + 8 * k + f)) : SC J L a C s := by
  have hI := hC.1
  have hG := hC.2.1
  refine ⟨h0, hp, h7, fun n hn => by rw [eR (5 + n) (by omega) (by omega)]; exact h.2.2.2.1 n hn, fun g hg => ?_, hd⟩
  obtain ⟨q1, q2, q3, q4⟩ := h.2.2.2.2.1 g hg
  rw [eR (9 + g) (by omega) (by omega), eR (21 + g) (by omega) (by omega), eR (33 + g) (by omega) (by omega)]
  refine ⟨q1, q2, q3, fun w hw => ?_⟩
  rw [eI (a + 2 + w) (by omega) (by omega), q4 w hw]
  unfold dl
  rw [eR (45 + 3 * g + w) (by omega) (by omega)]
theorem RV.upd {C : CQ} {B2 : Nat} {r s : RW} (hC : CV C) (h : RV C B r) (eR : ∀ k, 5 ≤ k → k < 81 → s k = r k) (h0 : 1 ≤ un (s 0) ∧ un (s 0) ≤ 20) (hp : ∀ p, p < 3 → un (s (1 + p)) ≤ B2) (h4 : un (s 4) ≤ 20) (hd : ∀ k, k < un (s 4) → DPV C s k) : RV C B2 s := by
  have hI := hC.1
  have hG := hC.2.1
  refine ⟨h0, hp, h4, fun n hn => by rw [eR (5 + n) (by omega) (by omega)]; exact h.2.2.2.1 n hn, fun g hg => ?_, hd⟩
  obtain ⟨q1, q2, q3, q4⟩ := h.2.2.2.2.1 g hg
  rw [eR (9 + g) (by omega) (by omega), eR (21 + g) (by omega) (by omega), eR (33 + g) (by omega) (by omega)]
  refine ⟨q1, q2, q3, fun w hw => ?_⟩
  unfold dl
  rw [eR (45 + 3 * g + w) (by omega) (by omega)]
  exact q4 w hw
theorem s_start {Q : TI → Prop} {x : Nat} {v0 v1 v2 v3 v4 v5 : Int32} (h5 : v5 = 0 ∨ v5 = 1) (k : ∀ J, sameI [x] I J → J x 0 = v0 → J x 1 = v1 → J x 2 = v2 → J x 3 = v3 → J x 4 = v4 → J x 5 = v5 → J x 6 = 0 → J x 7 = -1 → Q J) : W_X3_start x v0 v1 v2 v3 v4 v5 I L Q := by
  unfold W_X3_start
  rintro _ rfl
  refine ⟨h5, k _ ((((((((sameI.rf [x] I).up in1).up in1).up in1).up in1).up in1).up in1).up in1 |>.up in1) ?_ ?_ ?_ ?_ ?_ ?_ ?_ ?_⟩ <;> simp [up2_at]
/-- a pending dispute of the net meets the times -/
def hpP (r : RW) (net t e k : Nat) : Prop := dF r k 0 = nI net ∧ ¬ 1 < dF r k 6 ∧ ¬ nI e < dF r k 1 ∧ ¬ dF r k 2 < nI t
theorem c_hasPending {Q : Int32 → Prop} {net t e : Nat} {x y z : Int32} (h : INV I L b d X B) (hx : x = nI net) (hy : y = nI t) (hz : z = nI e) (h1 : (∃ k, k < un (xr X 4) ∧ hpP (xr X) net t e k) → Q 1) (h0 : ¬ (∃ k, k < un (xr X 4) ∧ hpP (xr X) net t e k) → Q 0) : W_X6_hasPending (b + 6) x y z I L Q := by
  subst hx; subst hy; subst hz
  have hc := h.r.2.2.1
  have e7 : I (b + 6) 7 = nI (un (xr X 4)) := h.bc.2.1.2.2.1
  unfold W_X6_hasPending
  refine lp2 (fun n u v => L_X6_hasPending_6 (b + 6) (nI net) (nI t) (nI e) I L Q n u v) (fun u v => ∃ (q : Bool) (j : Nat), j ≤ un (xr X 4) ∧ v = nI j ∧ u = bi q ∧ (q = true ↔ ∃ k, k < j ∧ hpP (xr X) net t e k)) (fun _ v => un (xr X 4) - v.toNatClampNeg) ?_ _ _ ⟨false, 0, Nat.zero_le _, rfl, rfl, ⟨fun z => absurd z (by decide), fun ⟨k, hk, _⟩ => absurd hk (Nat.not_lt_zero _)⟩⟩
  rintro n u v ⟨q, j, j0, rfl, rfl, hq⟩ ih
  refine pk_le (un (xr X 4)) j (fun z => ?_) (fun z => ?_) e7 rfl (by omega) (by omega)
  · have : j = un (xr X 4) := by omega
    subst this
    refine ⟨bi_01 q, ?_⟩
    cases q with
    | true => exact h1 (hq.mp rfl)
    | false => exact h0 (fun y => absurd (hq.mpr y) (by decide))
  · have ej : b + 6 + 11 + j = b + 17 + j := by omega
    obtain ⟨s1, s2, s3, s4, s5, s6, s7, s8, ⟨st, st1, st2⟩, s10⟩ := h.r.ds h.C z
    rw [pk_cl j rfl (by omega), ej, h.ds z (by omega), h.ds z (by omega), h.ds z (by omega)]
    have fin : ∀ (c : Bool), (c = true ↔ hpP (xr X) net t e j) → ∀ w : Int32, w = bi c → B_X6_hasPending_66 (b + 6) (nI net) (nI t) (nI e) (nI j) (bi q) w I L Q (fun v4 v5 => L_X6_hasPending_6 (b + 6) (nI net) (nI t) (nI e) I L Q n v4 v5) := by
      rintro c hcp w rfl
      refine ih _ _ ⟨q || c, j + 1, by omega, nI_1 j, ?_, ?_⟩ (by rw [nI_1, nI_clamp (by omega), nI_clamp (by omega)]; omega)
      · cases q <;> cases c <;> rfl
      · rw [Bool.or_eq_true, hq, hcp]
        constructor
        · rintro (⟨k, k1, k2⟩ | k2)
          · exact ⟨k, by omega, k2⟩
          · exact ⟨j, by omega, k2⟩
        · rintro ⟨k, k1, k2⟩
          by_cases y : k = j
          · rw [y] at k2
            exact Or.inr k2
          · exact Or.inl ⟨k, by omega, k2⟩
    have no : ¬ hpP (xr X) net t e j → B_X6_hasPending_65 (b + 6) (nI net) (nI t) (nI e) (nI j) (bi q) I L Q (fun v4 v5 => L_X6_hasPending_6 (b + 6) (nI net) (nI t) (nI e) I L Q n v4 v5) := fun y => fin false ⟨fun z => absurd z (by decide), fun z => absurd z y⟩ 0 rfl
    refine ⟨pk_in j 20 (by omega) rfl, ?_⟩
    unfold W_X3_isPending
    rw [h.ds z (by omega)]
    have rest : ¬ 1 < dF (xr X) j 6 → (¬ dF (xr X) j 0 = nI net → B_X6_hasPending_65 (b + 6) (nI net) (nI t) (nI e) (nI j) (bi q) I L Q (fun v4 v5 => L_X6_hasPending_6 (b + 6) (nI net) (nI t) (nI e) I L Q n v4 v5)) ∧ (dF (xr X) j 0 = nI net → (nI e < dF (xr X) j 1 → B_X6_hasPending_65 (b + 6) (nI net) (nI t) (nI e) (nI j) (bi q) I L Q (fun v4 v5 => L_X6_hasPending_6 (b + 6) (nI net) (nI t) (nI e) I L Q n v4 v5)) ∧ (¬ nI e < dF (xr X) j 1 → (dF (xr X) j 2 < nI t → B_X6_hasPending_65 (b + 6) (nI net) (nI t) (nI e) (nI j) (bi q) I L Q (fun v4 v5 => L_X6_hasPending_6 (b + 6) (nI net) (nI t) (nI e) I L Q n v4 v5)) ∧ (¬ dF (xr X) j 2 < nI t → B_X6_hasPending_66 (b + 6) (nI net) (nI t) (nI e) (nI j) (bi q) 1 I L Q (fun v4 v5 => L_X6_hasPending_6 (b + 6) (nI net) (nI t) (nI e) I L Q n v4 v5)))) := by
      intro y
      refine ⟨fun a => no (fun p => a p.1), fun a => ⟨fun a2 => no (fun p => p.2.2.1 a2), fun a2 => ⟨fun a3 => no (fun p => p.2.2.2 a3), fun a3 => fin true ⟨fun _ => ⟨a, y, a2, a3⟩, fun _ => rfl⟩ 1 rfl⟩⟩⟩
    refine ⟨fun y => ⟨fun z => absurd z (by decide), fun _ => rest (by rw [y]; decide)⟩, fun y => ⟨fun y2 => ⟨fun _ => no ?_, fun z => absurd rfl z⟩, fun y2 => ⟨fun z => absurd z (by decide), fun _ => rest (by rw [y2]; decide)⟩⟩⟩
    rintro ⟨_, p2, _⟩
    rw [st2] at y y2 p2
    apply p2
    have : st ≠ 0 := fun q => y (by rw [q]; rfl)
    have : st ≠ 1 := fun q => y2 (by rw [q]; rfl)
    exact nI_lt (show 1 < st by omega) (by omega)
end OPEN
