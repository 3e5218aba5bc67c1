/-! the reference goes to the next token, and asks it -/
section RNEXT
variable {I J : TI} {L M : TL}
theorem tI.rf (I : TI) : tI I I := ⟨fun _ _ => rfl, fun _ _ => rfl⟩
theorem tL.rf (L : TL) : tL L L := fun _ _ => rfl
theorem tI.tr {K : TI} (h : tI I J) (h2 : tI J K) : tI I K := ⟨fun q hq => (h2.1 q hq).trans (h.1 q hq), fun j hj => (h2.2 j hj).trans (h.2 j hj)⟩
theorem tL.tr {K : TL} (h : tL L M) (h2 : tL M K) : tL L K := fun q hq => (h2 q hq).trans (h q hq)
theorem s_byteAt2 {Q : Int32 → Prop} {c : Nat → Nat} {ln p : Nat} {x : Int32} (hc : txV c ln) (h : I 436 23 = nI ln) (ht : ∀ i, i < ln → I 447 i = nI (c i)) (hx : x = nI p) (hp : p ≤ ln) (k : Q (if p < ln then nI (c p) else -1)) : W_X9_byteAt x I L Q :=
  s_byteAt hc h ht hx hp (fun z => by rw [if_neg (by omega)] at k; exact k) (fun z => by rw [if_pos z] at k; exact k)
theorem m_next0 {Q : TI → TL → Prop} {c : Nat → Nat} {ln : Nat} {S : PS} (hc : txV c ln) (hev : te S ≤ ln) (h1 : I 436 23 = nI ln) (h2 : I 436 24 = nI (te S)) (h7 : I 436 29 = nI (er S)) (h8 : I 436 30 = ep S) (ht : ∀ i, i < ln → I 447 i = nI (c i)) (k : ∀ J M, tI I J → tL L M → TR J M c ln (tkN c ln (te S), S.2) → Q J M) : W_X9_next I L Q := by
  have hl := hc.1
  unfold W_X9_next
  refine lp1 (fun n i => L_X9_next_0 L Q n i) (fun i => ∃ p, te S ≤ p ∧ p ≤ ln ∧ i 436 24 = nI p ∧ runT (wsB c) ln (te S) = runT (wsB c) ln p ∧ tI I i ∧ ∀ j, j ≠ 24 → i 436 j = I 436 j) (fun i => ln - (i 436 24).toNatClampNeg) ?_ _ ⟨te S, Nat.le_refl _, hev, h2, rfl, tI.rf I, fun _ _ => rfl⟩
  rintro n i ⟨p, p1, p2, i24, ir, iq, ij⟩ ih
  have e23 : i 436 23 = nI ln := by rw [ij 23 (by decide), h1]
  have et : ∀ x, x < ln → i 447 x = nI (c x) := fun x hx => by rw [iq.1 447 (by decide)]; exact ht x hx
  show D_X9_next_0 L Q (fun I => L_X9_next_0 L Q n I) i
  unfold D_X9_next_0
  have nx : p < ln → wsB c p = true → B_X9_next_26 i L Q (fun I => L_X9_next_0 L Q n I) := by
    intro q hw
    unfold B_X9_next_26
    rw [i24, nI_1]
    exact ih _ ⟨p + 1, by omega, by omega, up2_s, by rw [ir]; exact runT_1 q hw, iq.up (by omega) (by omega), fun j hj => by rw [up2_n (Or.inr hj)]; exact ij j hj⟩ (by rw [up2_s, i24, nI_clamp (by omega), nI_clamp (by omega)]; omega)
  have f24 : (up2 i 436 25 (i 436 24)) 436 24 = nI p := by rw [up2_n (Or.inr (by decide)), i24]
  have f25 : (up2 i 436 25 (i 436 24)) 436 25 = nI p := by rw [up2_s, i24]
  have f23 : (up2 i 436 25 (i 436 24)) 436 23 = nI ln := by rw [up2_n (Or.inr (by decide)), e23]
  have f29 : (up2 i 436 25 (i 436 24)) 436 29 = nI (er S) := by rw [up2_n (Or.inr (by decide)), ij 29 (by decide), h7]
  have f30 : (up2 i 436 25 (i 436 24)) 436 30 = ep S := by rw [up2_n (Or.inr (by decide)), ij 30 (by decide), h8]
  have ft : ∀ x, x < ln → (up2 i 436 25 (i 436 24)) 447 x = nI (c x) := fun x hx => by rw [up2_row (by decide)]; exact et x hx
  have fq : tI I (up2 i 436 25 (i 436 24)) := iq.up (by omega) (by omega)
  generalize up2 i 436 25 (i 436 24) = i1 at f23 f24 f25 f29 f30 ft fq
  -- behind the spaces
  have tok : runT (wsB c) ln p = p → ((i1 436 24) < (i1 436 23) → vp_in (i1 436 24) 600 ∧ (W_X9_isLetter (i1 447 ((i1 436 24).toNatClampNeg)) i1 L (fun (r1776 : Int32) => (r1776 = 0 → vp_in (i1 436 24) 600 ∧ (W_X9_isFigure (i1 447 ((i1 436 24).toNatClampNeg)) i1 L (fun (r1778 : Int32) => (r1778 = 0 → ∀ I1779 : TI, I1779 = (up2 (up2 i1 436 26 3) 436 24 (((up2 i1 436 26 3) 436 24) + 1)) → (Q I1779 L)) ∧ (¬ r1778 = 0 → W_X9_readsNumber i1 L (fun (I1780 : TI) => Q I1780 L))))) ∧ (¬ r1776 = 0 → W_X9_readsWord i1 L (fun (I1781 : TI) (L1782 : TL) => Q I1781 L1782))))) ∧ (¬ (i1 436 24) < (i1 436 23) → Q (up2 i1 436 26 0) L) := by
    intro err
    rw [err] at ir
    have t0 : tkN c ln (te S) = if p < ln then (if ltB c p = true then (1, p, runT (ltB c) ln p) else if dgB c p = true then (2, p, runT (dgB c) ln p) else (3, p, p + 1)) else (0, p, p) := by unfold tkN; rw [ir]
    have last : ∀ (J : TI) (M : TL) (t s e2 : Nat), tkN c ln (te S) = (t, s, e2) → tI I J → tL L M → J 436 23 = nI ln → J 436 24 = nI e2 → J 436 25 = nI s → J 436 26 = nI t → (t = 2 → ∃ m, J 436 27 = nI m ∧ m < 2 ^ 31 ∧ (m = nvF c s (e2 - s) ∨ (9999999 < m ∧ m ≤ nvF c s (e2 - s)))) → (t = 1 → M 436 28 = lN (hsF c s (min (e2 - s) 10))) → J 436 29 = nI (er S) → J 436 30 = ep S → Q J M := by
      intro J M t s e2 hk hq hm a1 a2 a3 a4 a5 a6 a7 a8
      refine k J M hq hm ?_
      rw [hk]
      exact ⟨⟨a1, a2, a3, a4, a5, a6, a7, a8⟩, fun x hx => by rw [hq.1 447 (by decide)]; exact ht x hx⟩
    rw [f24, f23]
    refine pk_lt p ln (fun q => ?_) (fun q => ?_) rfl rfl (by omega) (by omega)
    · rw [if_pos q] at t0
      have vp : vp_in (nI p) 600 := pk_in p 600 (by omega) rfl
      have cb := hc.2 p q
      rw [pk_cl p rfl (by omega), ft p q]
      refine ⟨vp, s_letter9 rfl cb (fun y => ⟨fun _ => ⟨vp, s_figure9 rfl cb (fun y2 => ⟨fun _ => ?_, fun z => absurd rfl z⟩) (fun y2 => ⟨fun z => absurd z (by decide), fun _ => ?_⟩)⟩, fun z => absurd rfl z⟩) (fun y => ⟨fun z => absurd z (by decide), fun _ => ?_⟩)⟩
      · have hl0 : ltB c p = false := by unfold ltB; exact decide_eq_false y
        have hd0 : dgB c p = false := by unfold dgB; exact decide_eq_false y2
        rw [hl0, hd0, if_neg (by decide), if_neg (by decide)] at t0
        rintro _ rfl
        have e24 : (up2 i1 436 26 3) 436 24 = nI p := by rw [up2_n (Or.inr (by decide))]; exact f24
        rw [e24, nI_1]
        refine last _ L _ _ _ t0 ((fq.up (by omega) (by omega)).up (by omega) (by omega)) (tL.rf L) ?_ up2_s ?_ ?_ (fun z => absurd z (by decide)) (fun z => absurd z (by decide)) ?_ ?_
        · rw [up2_n (Or.inr (by decide)), up2_n (Or.inr (by decide))]; exact f23
        · rw [up2_n (Or.inr (by decide)), up2_n (Or.inr (by decide))]; exact f25
        · rw [up2_n (Or.inr (by decide)), up2_s]; rfl
        · rw [up2_n (Or.inr (by decide)), up2_n (Or.inr (by decide))]; exact f29
        · rw [up2_n (Or.inr (by decide)), up2_n (Or.inr (by decide))]; exact f30
      · have hl0 : ltB c p = false := by unfold ltB; exact decide_eq_false y
        have hd0 : dgB c p = true := by unfold dgB; exact decide_eq_true y2
        rw [hl0, hd0, if_neg (by decide), if_pos rfl] at t0
        refine m_readsNumber hc f23 f24 (by omega) ft (fun J m a1 a2 a3 a4 a5 a6 a7 => ?_)
        exact last J L _ _ _ t0 (fq.tr a1) (tL.rf L) (by rw [a2 23 (by decide) (by decide) (by decide)]; exact f23) a3 (by rw [a2 25 (by decide) (by decide) (by decide)]; exact f25) a4 (fun _ => ⟨m, a5, a6, a7⟩) (fun z => absurd z (by decide)) (by rw [a2 29 (by decide) (by decide) (by decide)]; exact f29) (by rw [a2 30 (by decide) (by decide) (by decide)]; exact f30)
      · have hl0 : ltB c p = true := by unfold ltB; exact decide_eq_true y
        rw [hl0, if_pos rfl] at t0
        refine m_readsWord hc f23 f24 f25 (by omega) ft (fun J M a1 a2 a3 a4 a5 a6 => ?_)
        exact last J M _ _ _ t0 (fq.tr a1) a2 (by rw [a3 23 (by decide) (by decide)]; exact f23) a4 (by rw [a3 25 (by decide) (by decide)]; exact f25) a5 (fun z => absurd z (by decide)) (fun _ => a6) (by rw [a3 29 (by decide) (by decide)]; exact f29) (by rw [a3 30 (by decide) (by decide)]; exact f30)
    · rw [if_neg (by omega)] at t0
      refine last _ L _ _ _ t0 (fq.up (by omega) (by omega)) (tL.rf L) ?_ ?_ ?_ up2_s (fun z => absurd z (by decide)) (fun z => absurd z (by decide)) ?_ ?_
      · rw [up2_n (Or.inr (by decide))]; exact f23
      · rw [up2_n (Or.inr (by decide))]; exact f24
      · rw [up2_n (Or.inr (by decide))]; exact f25
      · rw [up2_n (Or.inr (by decide))]; exact f29
      · rw [up2_n (Or.inr (by decide))]; exact f30
  by_cases q : p < ln
  · have cb := hc.2 p q
    have e32 : nI (c p) = 32 ↔ c p = 32 := nI_eq (b := 32) (by omega) (by omega)
    have e10 : nI (c p) = 10 ↔ c p = 10 := nI_eq (b := 10) (by omega) (by omega)
    refine s_byteAt2 hc e23 et i24 p2 ?_
    rw [if_pos q]
    refine ⟨fun z => nx q (by unfold wsB; rw [e32.mp z]; rfl), fun z1 => s_byteAt2 hc e23 et i24 p2 ?_⟩
    rw [if_pos q]
    refine ⟨fun z2 => tok (runT_0 ?_), fun z => nx q (by unfold wsB; rw [e10.mp z]; rfl)⟩
    unfold wsB
    rw [Bool.or_eq_false_iff]
    exact ⟨beq_eq_false_iff_ne.mpr (fun y => z1 (e32.mpr y)), beq_eq_false_iff_ne.mpr (fun y => z2 (e10.mpr y))⟩
  · refine s_byteAt2 hc e23 et i24 p2 ?_
    rw [if_neg q]
    refine ⟨fun z => absurd z (by decide), fun _ => s_byteAt2 hc e23 et i24 p2 ?_⟩
    rw [if_neg q]
    exact ⟨fun _ => tok (runT_e (by omega)), fun z => absurd z (by decide)⟩
theorem m_next {Q : TI → TL → Prop} {c : Nat → Nat} {ln : Nat} {S : PS} (hc : txV c ln) (h : TR I L c ln S) (v : PV ln S) (e0 : er S = 0) (k : ∀ J M, tI I J → tL L M → TR J M c ln (advF c ln S) → Q J M) : W_X9_next I L Q := by
  obtain ⟨⟨h1, h2, h3, h4, h5, h6, h7, h8⟩, ht⟩ := h
  have ea : advF c ln S = (tkN c ln (te S), S.2) := by unfold advF; rw [if_pos e0]
  rw [ea] at k
  exact m_next0 hc v.1.2 h1 h2 h7 h8 ht k
theorem m_good {Q : Int32 → Prop} {c : Nat → Nat} {ln : Nat} {S : PS} (h : TR I L c ln S) (v : PV ln S) (k0 : er S ≠ 0 → Q 0) (k1 : er S = 0 → Q 1) : W_X9_isGood I L Q := by
  have := v.2.2
  unfold W_X9_isGood
  rw [h.1.2.2.2.2.2.2.1]
  exact ⟨fun e => k0 (fun z => e (by rw [z]; rfl)), fun e => k1 ((nI_eq (b := 0) (by omega) (by omega)).mp e)⟩
/-- a fault -/
def fI (I J : TI) : Prop := (∀ q, q ≠ 436 → J q = I q) ∧ ∀ j, (j < 24 ∨ 30 < j) → J 436 j = I 436 j
theorem tI.f (h : tI I J) : fI I J := ⟨h.1, fun j hj => h.2 j (by omega)⟩
theorem fI.tr {K : TI} (h : fI I J) (h2 : fI J K) : fI I K := ⟨fun q hq => (h2.1 q hq).trans (h.1 q hq), fun j hj => (h2.2 j hj).trans (h.2 j hj)⟩
theorem fI.rf (I : TI) : fI I I := ⟨fun _ _ => rfl, fun _ _ => rfl⟩
theorem m_faults {Q : Int32 → TI → Prop} {c : Nat → Nat} {ln code : Nat} {S : PS} {x : Int32} (hx : x = nI code) (h : TR I L c ln S) (v : PV ln S) (k : ∀ J, fI I J → TR J L c ln (failF code S) → Q 0 J) : W_X9_faults x I L Q := by
  subst hx
  have := v.2.2
  unfold W_X9_faults
  rw [h.1.2.2.2.2.2.2.1]
  refine ⟨fun e => ?_, fun e => ?_⟩
  · have e0 : er S ≠ 0 := fun z => e (by rw [z]; rfl)
    refine k I (fI.rf I) ?_
    rw [er_fail e0]
    exact h
  · have e0 : er S = 0 := (nI_eq (b := 0) (by omega) (by omega)).mp e
    refine k _ ⟨fun q hq => by rw [up2_row hq, up2_row hq], fun j hj => by rw [up2_n (Or.inr (by omega)), up2_n (Or.inr (by omega))]⟩ ?_
    obtain ⟨⟨h1, h2, h3, h4, h5, h6, h7, h8⟩, ht⟩ := h
    unfold failF
    rw [if_pos e0]
    refine ⟨⟨?_, ?_, ?_, ?_, fun z => ?_, h6, ?_, ?_⟩, fun i hi => by rw [up2_row (by decide), up2_row (by decide)]; exact ht i hi⟩
    · rw [up2_n (Or.inr (by decide)), up2_n (Or.inr (by decide))]; exact h1
    · rw [up2_n (Or.inr (by decide)), up2_n (Or.inr (by decide))]; exact h2
    · rw [up2_n (Or.inr (by decide)), up2_n (Or.inr (by decide))]; exact h3
    · rw [up2_n (Or.inr (by decide)), up2_n (Or.inr (by decide))]; exact h4
    · rw [up2_n (Or.inr (by decide)), up2_n (Or.inr (by decide))]; exact h5 z
    · rw [up2_n (Or.inr (by decide)), up2_s]; rfl
    · rw [up2_s, up2_n (Or.inr (by decide))]; exact h3
end RNEXT
