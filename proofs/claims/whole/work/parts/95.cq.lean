/-! the class reads a query: operands, comparisons -/
section CQ1
variable {I J : TI} {L M : TL} {b d B : Nat} {X : XT} {c : Nat → Nat} {ln : Nat} {S : PS}
def ph (j : Nat) : Nat := match j with
  | 0 => 10361
  | 1 => 223456
  | 2 => 70367
  | 3 => 1277864983
  | 4 => 12588757
  | 5 => 7443765193
  | 6 => 9988168
  | 7 => 240992974
  | _ => 237458
def pl9 (j : Nat) : Nat := match j with
  | 0 => 13
  | 1 => 14
  | 2 => 26
  | 3 => 27
  | 4 => 28
  | 5 => 29
  | 6 => 30
  | 7 => 31
  | _ => 32
theorem w_prop : ∀ j, j < 9 → wOK (pl9 j) (ph j) := by unfold wOK; decide +kernel
theorem w_not : wOK 9 10631 := by unfold wOK; decide +kernel
theorem w_and : wOK 4 1111 := by unfold wOK; decide +kernel
theorem w_or : wOK 5 423 := by unfold wOK; decide +kernel
theorem w_many : wOK 24 257011 := by unfold wOK; decide +kernel
theorem w_first : wOK 25 3379448 := by unfold wOK; decide +kernel
def prR (c : Nat → Nat) (S : PS) : Nat → Nat → Nat
  | 0, j => j
  | n + 1, j => if wdB c S (ph j) = true then j else prR c S n (j + 1)
def prF9 (c : Nat → Nat) (S : PS) : Nat := prR c S 9 0
theorem prR_le (c : Nat → Nat) (S : PS) : ∀ n j, prR c S n j ≤ j + n
  | 0, j => Nat.le_refl _
  | n + 1, j => by
    have := prR_le c S n (j + 1)
    unfold prR
    split <;> omega
theorem prF9_le : prF9 c S ≤ 9 := by
  have := prR_le c S 9 0
  unfold prF9
  omega
def odS (c : Nat → Nat) (ln : Nat) (S : PS) : PS := if prF9 c S = 9 then takeN c ln 0 9999 S else advF c ln S
def odV (c : Nat → Nat) (S : PS) : Nat := if prF9 c S = 9 then peekV c 0 9999 S else 10000 + prF9 c S
theorem px_od (v : PX c ln S) : PX c ln (odS c ln S) := by
  unfold odS
  split
  · exact v.takeN
  · exact v.adv
theorem odV_le : odV c S ≤ 10008 := by
  have := prF9_le (c := c) (S := S)
  have pb := peekV_b (c := c) (lo := 0) (hi := 9999) (S := S) (by omega)
  unfold odV
  split <;> omega
theorem c_propWord {Q : Nat → Prop} {x : Int32} {j : Nat} (hx : x = nI j) (hj : j < 9) (k : Q (458 + pl9 j)) : W_X8_propertyWord x I L Q := by
  subst hx
  have z : ∀ m, m < 9 → nI j = nI m → j = m := fun m hm e => (nI_eq (by omega) (by omega)).mp e
  unfold W_X8_propertyWord
  refine ⟨fun e => ?_, fun e => ?_, fun e => ?_, fun e => ?_, fun e => ?_, fun e => ?_, fun e => ?_, fun e => ?_, fun e => ?_⟩
  · have := z 0 (by omega) e; subst this; exact k
  · have := z 1 (by omega) e; subst this; exact k
  · have := z 2 (by omega) e; subst this; exact k
  · have := z 3 (by omega) e; subst this; exact k
  · have := z 4 (by omega) e; subst this; exact k
  · have := z 5 (by omega) e; subst this; exact k
  · have := z 6 (by omega) e; subst this; exact k
  · have := z 7 (by omega) e; subst this; exact k
  · have p8 : j = 8 := by
      rcases e with e | e
      · exact absurd e (nI_pos (by omega))
      · have := (nI_ltI (a := 7) (by omega) (by omega)).mp e
        omega
    subst p8
    exact k
theorem c_readOperand {Q : Int32 → TI → Prop} (hc : txV c ln) (h : TC I c ln S) (v : PX c ln S) (k : ∀ J, (∀ q, q ≠ 344 → J q = I q) → TC J c ln (odS c ln S) → Q (nI (odV c S)) J) : W_X5_readOperand I L 350 Q := by
  unfold odS odV at k
  unfold W_X5_readOperand
  refine lp1 (fun n m => L_X5_readOperand_2 I L 350 Q n m) (fun m => ∃ j, m = nI j ∧ j ≤ 9 ∧ prR c S (9 - j) j = prF9 c S) (fun m => 10 - m.toNatClampNeg) ?_ _ ⟨0, rfl, Nat.zero_le _, rfl⟩
  rintro n m ⟨j, rfl, j1, je⟩ ih
  refine pk_le 9 j (fun q => ?_) (fun q => ?_) rfl rfl (by omega) (by omega)
  · have : j = 9 := by omega
    subst this
    have e : prF9 c S = 9 := je.symm
    refine c_takeNumber (lo := 0) (hi := 9999) rfl rfl (by omega) (by omega) hc h v (fun J a b => ?_)
    have := k J a (by rw [if_pos e]; exact b)
    rw [if_pos e] at this
    exact this
  · obtain ⟨m2, hm2⟩ : ∃ m2, 9 - j = m2 + 1 := ⟨8 - j, by omega⟩
    rw [hm2] at je
    unfold prR at je
    refine c_propWord rfl q (c_isWord (w_prop j q) rfl hc h v (fun e => ⟨fun y => absurd y (by decide), fun _ => c_adv hc h v.1 (fun J a b => ?_)⟩) (fun e => ⟨fun _ => ?_, fun y => absurd rfl y⟩))
    · rw [if_pos e] at je
      have ne : ¬ prF9 c S = 9 := by omega
      have := k J a (by rw [if_neg ne]; exact b)
      rw [if_neg ne, ← je] at this
      rw [show (10000 : Int32) = nI 10000 from rfl, nI_add]
      exact this
    · rw [if_neg (by rw [e]; decide)] at je
      rw [nI_1]
      exact ih _ ⟨j + 1, rfl, by omega, by rw [show 9 - (j + 1) = m2 by omega]; exact je⟩ (by rw [nI_clamp (by omega), nI_clamp (by omega)]; omega)
/-- the value of an operand at a net -/
def vlF (C : CQ) (r : RW) (x k : Nat) : Nat := if x < 10000 then x else pvF C r k (x - 10000)
def csA (c : Nat → Nat) (ln : Nat) (S : PS) : PS := odS c ln S
def csB (c : Nat → Nat) (ln : Nat) (S : PS) : PS := if sgB c 60 (csA c ln S) = true ∨ sgB c 62 (csA c ln S) = true ∨ sgB c 61 (csA c ln S) = true then advF c ln (csA c ln S) else advF c ln (failF 1 (csA c ln S))
def csC (c : Nat → Nat) (ln : Nat) (S : PS) : PS := odS c ln (csB c ln S)
/-- what a sign says of two values -/
def cpB (l g : Bool) (x y : Nat) : Bool := (l && decide (x < y)) || (g && decide (y < x)) || (!l && !g && decide (x = y))
def csH (C : CQ) (r : RW) (c : Nat → Nat) (ln : Nat) (S : PS) (k : Nat) : Bool := cpB (sgB c 60 (csA c ln S)) (sgB c 62 (csA c ln S)) (vlF C r (odV c S) k) (vlF C r (odV c (csB c ln S)) k)
theorem px_csB (v : PX c ln S) : PX c ln (csB c ln S) := by
  unfold csB csA
  split
  · exact (px_od v).adv
  · exact ((px_od v).fail (by omega)).adv
theorem px_csC (v : PX c ln S) : PX c ln (csC c ln S) := px_od (px_csB v)
theorem vlF_le {C : CQ} {r : RW} {x k : Nat} (hC : CV C) (hk : k < cI C + cG C) (hx : x ≤ 10008) : vlF C r x k < 20000 := by
  have := pvF_le (r := r) hC hk (x - 10000)
  unfold vlF
  split <;> omega
/-- rows of the class's query -/
def qO (I J : TI) : Prop := ∀ q, q ≠ 344 → (q < 346 ∨ 349 < q) → J q = I q
theorem qO.rf (I : TI) : qO I I := fun _ _ _ => rfl
theorem qO.tr {K : TI} (h : qO I J) (h2 : qO J K) : qO I K := fun q a b => (h2 q a b).trans (h q a b)
theorem qO.tk (h : ∀ q, q ≠ 344 → J q = I q) : qO I J := fun q a _ => h q a
theorem qO.up {r j : Nat} {x : Int32} (h : qO I J) (h1 : 346 ≤ r) (h2 : r ≤ 349) : qO I (up2 J r j x) := fun q a b => by rw [up2_row (by omega)]; exact h q a b
theorem inv_qO (h : INV I L b d X B) (e : qO I J) : INV J L b d X B := by
  obtain ⟨-, -, -, -, ⟨c7, c8⟩, c9, c10, c11⟩ := id h.2.2
  refine ⟨h.1, h.2.1.hi (fun q hq => e q (by omega) (by omega)) (fun _ _ _ => rfl), ?_⟩
  have := h.2.2.io h.1 (J := J) (M := L) (f := (xf X, xb X)) (e := xe X) (l := (xl X, xt X)) (fun q y1 y2 y3 => e q (by omega) (by omega)) (fun _ _ => rfl) (by rw [e 0 (by decide) (by omega)]; exact c7) (fun i hi => by rw [e 350 (by decide) (by omega)]; exact c8 i hi) (by rw [e 0 (by decide) (by omega)]; exact c9) (by rw [e 0 (by decide) (by omega)]; exact c10) (fun i hi => by rw [e 351 (by decide) (by omega)]; exact c11 i hi)
  exact this
theorem c_cmp {p2 t : Nat} {v3 v6 u w : Int32} {Q : Int32 → TI → Prop} {R : Int32 → Int32 → Prop} {l g : Bool} {x y : Nat} (hx : x < 20000) (hy : y < 20000) (put : cpB l g x y = true → B_X5_comparison_165 p2 v3 (bi l) (bi g) v6 u w I L t Q R) (skip : cpB l g x y = false → B_X5_comparison_174 p2 v3 (bi l) (bi g) v6 u w I L t Q R) : B_X5_comparison_122 p2 v3 (bi l) (bi g) v6 u w (nI x) (nI y) I L t Q R := by
  have e1 : nI x < nI y ↔ x < y := nI_ltI (by omega) (by omega)
  have e2 : nI y < nI x ↔ y < x := nI_ltI (by omega) (by omega)
  have e3 : nI x = nI y ↔ x = y := nI_eq (by omega) (by omega)
  unfold B_X5_comparison_122 B_X5_comparison_136 B_X5_comparison_148
  cases l with
  | false =>
    cases g with
    | false =>
      have key : cpB false false x y = decide (x = y) := by simp [cpB]
      rw [key] at put skip
      exact ⟨fun _ => ⟨fun _ => ⟨fun z => absurd rfl z, fun _ => ⟨fun z => absurd rfl z, fun _ => ⟨fun z => skip (decide_eq_false (fun q => z (e3.mpr q))), fun z => put (decide_eq_true (e3.mp z))⟩⟩⟩, fun z => absurd rfl z⟩, fun z => absurd rfl z⟩
    | true =>
      have key : cpB false true x y = decide (y < x) := by simp [cpB]
      rw [key] at put skip
      exact ⟨fun _ => ⟨fun z => absurd z (by decide), fun _ => ⟨fun z => put (decide_eq_true (e2.mp z)), fun z => ⟨fun z2 => absurd rfl z2, fun _ => ⟨fun _ => skip (decide_eq_false (fun q => z (e2.mpr q))), fun z2 => absurd z2 (by decide)⟩⟩⟩⟩, fun z => absurd rfl z⟩
  | true =>
    cases g with
    | false =>
      have key : cpB true false x y = decide (x < y) := by simp [cpB]
      rw [key] at put skip
      exact ⟨fun z => absurd z (by decide), fun _ => ⟨fun z => put (decide_eq_true (e1.mp z)), fun z => ⟨fun _ => ⟨fun _ => skip (decide_eq_false (fun q => z (e1.mpr q))), fun z2 => absurd z2 (by decide)⟩, fun z2 => absurd rfl z2⟩⟩⟩
    | true =>
      have key : cpB true true x y = (decide (x < y) || decide (y < x)) := by simp [cpB]
      rw [key] at put skip
      exact ⟨fun z => absurd z (by decide), fun _ => ⟨fun z => put (by rw [decide_eq_true (e1.mp z)]; rfl), fun z => ⟨fun z2 => absurd z2 (by decide), fun _ => ⟨fun z2 => put (by rw [decide_eq_true (e2.mp z2), Bool.or_true]), fun z2 => ⟨fun _ => skip (by rw [decide_eq_false (fun q => z (e1.mpr q)), decide_eq_false (fun q => z2 (e2.mpr q))]; rfl), fun z3 => absurd z3 (by decide)⟩⟩⟩⟩⟩
theorem c_opv {F : Int32 → Prop} {x j : Nat} (h : INV I L b d X B) (hj : j < cI (xC X) + cG (xC X)) (hx : x ≤ 10008) (k : F (nI (vlF (xC X) (xr X) x j))) : (10000 ≤ nI x → W_X0_propertyOf b (nI j) (nI x - 10000) I L F) ∧ (¬ 10000 ≤ nI x → F (nI x)) := by
  unfold vlF at k
  refine pk_le 10000 x (fun q => ?_) (fun q => ?_) rfl rfl (by omega) (by omega)
  · rw [if_neg (by omega)] at k
    exact c_propertyOf h rfl hj (by rw [show (10000 : Int32) = nI 10000 from rfl, pk_sub q]) (by omega) k
  · rw [if_pos q] at k
    exact k
theorem c_comparison {Q : Int32 → TI → Prop} (hI : INV I L b d X B) (hc : txV c ln) (h : TC I c ln S) (v : PX c ln S) (k : ∀ J, (∀ q, q ≠ 344 → J q = I q) → TC J c ln (csC c ln S) → Q (mk (cI (xC X) + cG (xC X)) (csH (xC X) (xr X) c ln S)) J) : W_X5_comparison b I L 350 Q := by
  have nb := hI.nb
  unfold W_X5_comparison
  refine c_readOperand hc h v (fun J1 a1 t1 => ?_)
  have vA : PX c ln (csA c ln S) := px_od v
  replace t1 : TC J1 c ln (csA c ln S) := t1
  -- behind the sign
  have go : ∀ (l g : Bool) (J2 : TI), l = sgB c 60 (csA c ln S) → g = sgB c 62 (csA c ln S) → (∀ q, q ≠ 344 → J2 q = I q) → (∀ Q2 : TI → Prop, (∀ J3, (∀ q, q ≠ 344 → J3 q = J2 q) → TC J3 c ln (csB c ln S) → Q2 J3) → W_X7_advance J2 L 350 Q2) → B_X5_comparison_45 b (nI (odV c S)) (bi l) (bi g) J2 L 350 Q := by
    intro l g J2 hl hg a2 adv
    unfold B_X5_comparison_45
    refine adv _ (fun J3 a3 t3 => ?_)
    refine c_readOperand hc t3 (px_csB v) (fun J4 a4 t4 => ?_)
    replace t4 : TC J4 c ln (csC c ln S) := t4
    have a : ∀ q, q ≠ 344 → J4 q = I q := fun q hq => by rw [a4 q hq, a3 q hq, a2 q hq]
    have h4 : INV J4 L b d X B := inv_qO hI (qO.tk a)
    have o1 := odV_le (c := c) (S := S)
    have o2 := odV_le (c := c) (S := csB c ln S)
    have eH : ∀ n, csH (xC X) (xr X) c ln S n = cpB l g (vlF (xC X) (xr X) (odV c S) n) (vlF (xC X) (xr X) (odV c (csB c ln S)) n) := fun n => by rw [hl, hg]; rfl
    have kk := k J4 a t4
    generalize csH (xC X) (xr X) c ln S = H at eH kk
    generalize odV c S = x at o1 eH
    generalize odV c (csB c ln S) = y at o2 eH
    refine lp2 (fun z u w => L_X5_comparison_61 b (nI x) (bi l) (bi g) (nI y) J4 L 350 Q z u w) (fun u w => ∃ j, w = nI j ∧ j ≤ cI (xC X) + cG (xC X) ∧ u = mk j H) (fun _ w => cI (xC X) + cG (xC X) - w.toNatClampNeg) ?_ _ _ ⟨0, rfl, Nat.zero_le _, rfl⟩
    rintro z u w ⟨j, rfl, j1, rfl⟩ ih
    show D_X5_comparison_61 b (nI x) (bi l) (bi g) (nI y) J4 L 350 Q (fun v7 v8 => L_X5_comparison_61 b (nI x) (bi l) (bi g) (nI y) J4 L 350 Q z v7 v8) (mk j H) (nI j)
    unfold D_X5_comparison_61
    refine s_nets2 h4.bc.1 ?_
    refine pk_le _ j (fun q => ?_) (fun q => ?_) rfl rfl (by omega) (by omega)
    · have : j = cI (xC X) + cG (xC X) := by omega
      subst this
      exact kk
    · have nx : ∀ u2, u2 = mk (j + 1) H → B_X5_comparison_174 b (nI x) (bi l) (bi g) (nI y) u2 (nI j) J4 L 350 Q (fun v7 v8 => L_X5_comparison_61 b (nI x) (bi l) (bi g) (nI y) J4 L 350 Q z v7 v8) := by
        rintro u2 rfl
        unfold B_X5_comparison_174
        rw [nI_1]
        exact ih _ _ ⟨j + 1, rfl, by omega, rfl⟩ (by rw [nI_clamp (by omega), nI_clamp (by omega)]; omega)
      have l1 := vlF_le (r := xr X) hI.C q o1
      have l2 := vlF_le (r := xr X) hI.C q o2
      have ej := eH j
      refine c_opv h4 q o1 ?_
      unfold B_X5_comparison_95
      refine c_opv h4 q o2 ?_
      refine c_cmp l1 l2 (fun e => ?_) (fun e => nx _ (mk_skip (ej.trans e)))
      unfold B_X5_comparison_165
      rintro _ rfl
      exact nx _ (mk_put (by omega) (ej.trans e))
  refine c_isSign (b := 60) rfl (by omega) hc t1 vA.1 (fun s1 => ?_) (fun s1 => ?_)
  · have sB : csB c ln S = advF c ln (csA c ln S) := by unfold csB; rw [if_pos (Or.inl s1)]
    refine c_isSign (b := 62) rfl (by omega) hc t1 vA.1 (fun s2 => ⟨fun _ => ?_, fun z => absurd z (by decide)⟩) (fun s2 => ⟨fun _ => ?_, fun z => absurd z (by decide)⟩)
    · exact go true true J1 s1.symm s2.symm a1 (fun Q2 k2 => c_adv hc t1 vA.1 (fun J3 a3 t3 => k2 J3 a3 (by rw [sB]; exact t3)))
    · exact go true false J1 s1.symm s2.symm a1 (fun Q2 k2 => c_adv hc t1 vA.1 (fun J3 a3 t3 => k2 J3 a3 (by rw [sB]; exact t3)))
  · refine c_isSign (b := 62) rfl (by omega) hc t1 vA.1 (fun s2 => ⟨fun z => absurd rfl z, fun _ => ⟨fun _ => ?_, fun z => absurd z (by decide)⟩⟩) (fun s2 => ⟨fun z => absurd rfl z, fun _ => ⟨fun z => absurd rfl z, fun _ => ?_⟩⟩)
    · have sB : csB c ln S = advF c ln (csA c ln S) := by unfold csB; rw [if_pos (Or.inr (Or.inl s2))]
      exact go false true J1 s1.symm s2.symm a1 (fun Q2 k2 => c_adv hc t1 vA.1 (fun J3 a3 t3 => k2 J3 a3 (by rw [sB]; exact t3)))
    · refine c_isSign (b := 61) rfl (by omega) hc t1 vA.1 (fun s3 => ⟨fun _ => ?_, fun z => absurd z (by decide)⟩) (fun s3 => ⟨fun z => absurd rfl z, fun _ => c_fail (code := 1) t1 vA.1 rfl (fun J2 a2 t2 => ?_)⟩)
      · have sB : csB c ln S = advF c ln (csA c ln S) := by unfold csB; rw [if_pos (Or.inr (Or.inr s3))]
        exact go false false J1 s1.symm s2.symm a1 (fun Q2 k2 => c_adv hc t1 vA.1 (fun J3 a3 t3 => k2 J3 a3 (by rw [sB]; exact t3)))
      · have sB : csB c ln S = advF c ln (failF 1 (csA c ln S)) := by unfold csB; rw [if_neg (by rw [s1, s2, s3]; decide)]
        exact go false false J2 s1.symm s2.symm (fun q hq => by rw [a2 q hq, a1 q hq]) (fun Q2 k2 => c_adv hc t2 (vA.fail (by omega)).1 (fun J3 a3 t3 => k2 J3 a3 (by rw [sB]; exact t3)))
end CQ1
