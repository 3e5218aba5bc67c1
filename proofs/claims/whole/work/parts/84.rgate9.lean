/-! the reference reads a gate -/
section RGATE9
variable {I J : TI} {L M : TL}
theorem m_kindHere {Q : Int32 → Prop} {c : Nat → Nat} {ln : Nat} {S : PS} (hc : txV c ln) (h : TR I L c ln S) (v : PX c ln S) (k : Q (if kdF c S = 7 then -1 else nI (kdF c S))) : W_X9_kindHere I L Q := by
  have e : kdF c S = (if wdB c S 1111 = true then 0 else if wdB c S 423 = true then 1 else if wdB c S 17919 = true then 2 else if wdB c S 276673 = true then 3 else if wdB c S 10629 = true then 4 else if wdB c S 10631 = true then 5 else if wdB c S 375062 = true then 6 else 7) := rfl
  unfold W_X9_kindHere
  refine m_isWord (w := 1111) rfl (by omega) h v hc.1 (fun a => ⟨fun z => absurd z (by decide), fun _ => ?_⟩) (fun a => ⟨fun _ => ?_, fun z => absurd rfl z⟩)
  · rw [if_pos a] at e
    rw [e, if_neg (by decide)] at k
    exact k
  rw [if_neg (show ¬ wdB c S 1111 = true by rw [a]; decide)] at e
  refine m_isWord (w := 423) rfl (by omega) h v hc.1 (fun a => ⟨fun z => absurd z (by decide), fun _ => ?_⟩) (fun a => ⟨fun _ => ?_, fun z => absurd rfl z⟩)
  · rw [if_pos a] at e
    rw [e, if_neg (by decide)] at k
    exact k
  rw [if_neg (show ¬ wdB c S 423 = true by rw [a]; decide)] at e
  refine m_isWord (w := 17919) rfl (by omega) h v hc.1 (fun a => ⟨fun z => absurd z (by decide), fun _ => ?_⟩) (fun a => ⟨fun _ => ?_, fun z => absurd rfl z⟩)
  · rw [if_pos a] at e
    rw [e, if_neg (by decide)] at k
    exact k
  rw [if_neg (show ¬ wdB c S 17919 = true by rw [a]; decide)] at e
  refine m_isWord (w := 276673) rfl (by omega) h v hc.1 (fun a => ⟨fun z => absurd z (by decide), fun _ => ?_⟩) (fun a => ⟨fun _ => ?_, fun z => absurd rfl z⟩)
  · rw [if_pos a] at e
    rw [e, if_neg (by decide)] at k
    exact k
  rw [if_neg (show ¬ wdB c S 276673 = true by rw [a]; decide)] at e
  refine m_isWord (w := 10629) rfl (by omega) h v hc.1 (fun a => ⟨fun z => absurd z (by decide), fun _ => ?_⟩) (fun a => ⟨fun _ => ?_, fun z => absurd rfl z⟩)
  · rw [if_pos a] at e
    rw [e, if_neg (by decide)] at k
    exact k
  rw [if_neg (show ¬ wdB c S 10629 = true by rw [a]; decide)] at e
  refine m_isWord (w := 10631) rfl (by omega) h v hc.1 (fun a => ⟨fun z => absurd z (by decide), fun _ => ?_⟩) (fun a => ⟨fun _ => ?_, fun z => absurd rfl z⟩)
  · rw [if_pos a] at e
    rw [e, if_neg (by decide)] at k
    exact k
  rw [if_neg (show ¬ wdB c S 10631 = true by rw [a]; decide)] at e
  refine m_isWord (w := 375062) rfl (by omega) h v hc.1 (fun a => ⟨fun z => absurd z (by decide), fun _ => ?_⟩) (fun a => ⟨fun _ => ?_, fun z => absurd rfl z⟩)
  · rw [if_pos a] at e
    rw [e, if_neg (by decide)] at k
    exact k
  rw [if_neg (show ¬ wdB c S 375062 = true by rw [a]; decide)] at e
  rw [e, if_pos rfl] at k
  exact k
theorem qF_er {c : Nat → Nat} {ln n : Nat} {S : PS} (h : er (kdS c ln S) ≠ 0) : qF c ln n S = kdS c ln S := by
  have a : qA c ln n S = kdS c ln S := by unfold qA; exact (takeN_er h).1
  have b : qB c ln n S = kdS c ln S := by
    unfold qB
    rw [a]
    split
    · rfl
    · exact (takeN_er h).1
  have d : qC c ln n S = kdS c ln S := by unfold qC; rw [b]; exact (takeN_er h).1
  have e : qD c ln n S = kdS c ln S := by unfold qD; rw [d]; exact (takeN_er h).1
  have f : qE c ln n S = kdS c ln S := by unfold qE; rw [e]; exact (takeN_er h).1
  unfold qF
  rw [f]
  exact takeS_er h
/-- the delays of a gate, and what is behind them -/
theorem m_delays {Q : TI → TL → Prop} {c : Nat → Nat} {ln n g t : Nat} {S : PS} {r : RW} {x y : Int32} (hc : txV c ln) (hx : x = nI g) (hg : g < 12) (hy : y = tx t) (h11 : I 436 11 = nI g) (h : TR I L c ln (qB c ln n S)) (v : PX c ln (qB c ln n S)) (hr : ∀ i, i < 241 → L 437 i = r i)
    (k : ∀ J M, fI I J ∨ True → (∀ q, q ≠ 436 → q ≠ 443 → J q = I q) → (∀ j, (j < 11 ∨ (11 < j ∧ j < 24) ∨ 30 < j) → J 436 j = I 436 j) → J 443 = (up2 I 443 g (tx t)) 443 → hL L M → TR J M c ln (qF c ln n S) → PX c ln (qF c ln n S) → (er (qF c ln n S) = 0 → J 436 11 = nI (g + 1) ∧ ∀ i, i < 241 → M 437 i = upR (upR (upR r (45 + 3 * g + 0) (lN (peekV c 1 9 (qB c ln n S)))) (45 + 3 * g + 1) (lN (peekV c 1 9 (qC c ln n S)))) (45 + 3 * g + 2) (lN (peekV c 1 9 (qD c ln n S))) i) → Q J M) : B_X9_gateRead_113 x y I L Q := by
  subst hx; subst hy
  unfold B_X9_gateRead_113
  rw [pk_cl g rfl (by omega)]
  refine ⟨pk_in g 12 hg rfl, 4, ?_⟩
  -- one delay
  have step : ∀ (z j : Nat) (i : TI) (l : TL) (S2 : PS) (r2 : RW), j < 3 → (∀ q, q ≠ 436 → q ≠ 443 → i q = I q) → (∀ j, (j < 24 ∨ 30 < j) → i 436 j = I 436 j) → i 443 = (up2 I 443 g (tx t)) 443 → hL L l → TR i l c ln S2 → PX c ln S2 → (∀ i, i < 241 → l 437 i = r2 i) → (∀ i2 l2, (∀ q, q ≠ 436 → q ≠ 443 → i2 q = I q) → (∀ j, (j < 24 ∨ 30 < j) → i2 436 j = I 436 j) → i2 443 = (up2 I 443 g (tx t)) 443 → hL L l2 → TR i2 l2 c ln (takeN c ln 1 9 S2) → (∀ i, i < 241 → l2 437 i = upR r2 (45 + 3 * g + j) (lN (peekV c 1 9 S2)) i) → L_X9_gateRead_116 Q z (nI (j + 1)) i2 l2) → L_X9_gateRead_116 Q (z + 1) (nI j) i l := by
    intro z j i l S2 r2 hj a1 a2 a3 a4 t2 v2 a5 nx
    show D_X9_gateRead_116 Q (fun v2 I L => L_X9_gateRead_116 Q z v2 I L) (nI j) i l
    unfold D_X9_gateRead_116
    refine ⟨fun y => (lt_le_f (nI_lt hj (by omega)) y).elim, fun _ => m_number (lo := 1) (hi := 9) rfl rfl (by omega) (by omega) hc t2 v2 (fun J M aJ aM aT => ?_)⟩
    have i11 : i 436 11 = nI g := by rw [a2 11 (by omega)]; exact h11
    have pb := peekV_b (c := c) (lo := 1) (hi := 9) (S := S2) (by omega)
    have ei : ((45 : Int32) + ((3 : Int32) * (i 436 11))) + nI j = nI (45 + 3 * g + j) := by
      rw [i11, show (3 : Int32) = nI 3 from rfl, show (45 : Int32) = nI 45 from rfl, pk_mul, nI_add, nI_add]
    rw [pk_cl _ ei (by omega), nI_1, nI_l (by omega)]
    refine ⟨pk_in _ 241 (by omega) ei, ?_⟩
    rintro _ rfl
    refine nx J _ (fun q y1 y2 => by rw [aJ.1 q y1]; exact a1 q y1 y2) (fun j hj => by rw [aJ.2 j hj]; exact a2 j hj) (by rw [aJ.1 443 (by decide)]; exact a3) (fun q y1 y2 => by rw [up2_row y2, aM q y1]; exact a4 q y1 y2) (aT.fr (fun _ _ _ => rfl) rfl (up2_row (by decide))) (fun i2 hi2 => ?_)
    rw [up2_at]
    unfold upR
    by_cases z : i2 = 45 + 3 * g + j
    · rw [if_pos z, if_pos z]
    · rw [if_neg z, if_neg z, aM 437 (by decide)]
      exact a5 i2 hi2
  have v3 : PX c ln (qC c ln n S) := v.takeN
  have v4 : PX c ln (qD c ln n S) := v3.takeN
  have v5 : PX c ln (qE c ln n S) := v4.takeN
  refine step 3 0 _ L (qB c ln n S) r (by omega) (fun q _ y2 => up2_row y2) (fun j _ => by rw [up2_row (by decide)]) rfl (fun _ _ _ => rfl) (h.fr (fun j _ _ => by rw [up2_row (by decide)]) (up2_row (by decide)) rfl) v hr (fun i1 l1 a1 a2 a3 a4 t1 a5 => ?_)
  refine step 2 1 i1 l1 (qC c ln n S) _ (by omega) a1 a2 a3 a4 t1 v3 a5 (fun i2 l2 b1 b2 b3 b4 t2 b5 => ?_)
  refine step 1 2 i2 l2 (qD c ln n S) _ (by omega) b1 b2 b3 b4 t2 v4 b5 (fun i3 l3 d1 d2 d3 d4 t3 d5 => ?_)
  show D_X9_gateRead_116 Q (fun v2 I L => L_X9_gateRead_116 Q 0 v2 I L) (nI (2 + 1)) i3 l3
  unfold D_X9_gateRead_116
  refine ⟨fun _ => m_must (b := 59) (S := qE c ln n S) rfl (by omega) hc t3 v5 (fun J M aJ aM aT => ?_), fun y => absurd (show (3 : Int32) ≤ nI (2 + 1) by decide) y⟩
  have aT : TR J M c ln (qF c ln n S) := by unfold qF; exact aT
  have v6 : PX c ln (qF c ln n S) := by unfold qF; exact v5.takeS
  have f1 : ∀ q, q ≠ 436 → q ≠ 443 → J q = I q := fun q y1 y2 => by rw [aJ.1 q y1]; exact d1 q y1 y2
  have f2 : ∀ j, (j < 24 ∨ 30 < j) → J 436 j = I 436 j := fun j hj => by rw [aJ.2 j hj]; exact d2 j hj
  have f3 : J 443 = (up2 I 443 g (tx t)) 443 := by rw [aJ.1 443 (by decide)]; exact d3
  have f4 : hL L M := fun q y1 y2 => by rw [aM q y1]; exact d4 q y1 y2
  refine m_good aT v6.1 (fun e => ⟨fun _ => k J M (Or.inr trivial) f1 (fun j hj => f2 j (by omega)) f3 f4 aT v6 (fun z => absurd z e), fun z => absurd rfl z⟩) (fun e => ⟨fun z => absurd z (by decide), fun _ => ?_⟩)
  have j11 : J 436 11 = nI g := by rw [f2 11 (by omega)]; exact h11
  rw [j11, nI_1]
  refine k _ M (Or.inr trivial) (fun q y1 y2 => by rw [up2_row y1]; exact f1 q y1 y2) (fun j hj => by rw [up2_n (Or.inr (by omega))]; exact f2 j (by omega)) (by rw [up2_row (by decide)]; exact f3) f4 (aT.fr (fun j y1 y2 => up2_n (Or.inr (by omega))) (up2_row (by decide)) rfl) v6 (fun _ => ⟨up2_s, fun i hi => by rw [aM 437 (by decide)]; exact d5 i hi⟩)
end RGATE9
