/-! the reference reads the head and the inputs -/
section RHEAD9
variable {I J : TI} {L M : TL}
/-- the reference holds what is laid down -/
def RK (I : TI) (L : TL) (Z : ZT) : Prop := MC I Z.1 ∧ ∀ i, i < 241 → L 437 i = Z.2 i
def hI (I J : TI) : Prop := (∀ q, q ≠ 436 → q ≠ 441 → q ≠ 442 → q ≠ 443 → J q = I q) ∧ ∀ j, (j < 7 ∨ (11 < j ∧ j < 24) ∨ 30 < j) → J 436 j = I 436 j
def hL (L M : TL) : Prop := ∀ q, q ≠ 436 → q ≠ 437 → M q = L q
theorem fI.h (h : fI I J) : hI I J := ⟨fun q a _ _ _ => h.1 q a, fun j hj => h.2 j (by omega)⟩
theorem tL.h (h : tL L M) : hL L M := fun q a _ => h q a
theorem hI.tr {K : TI} (h : hI I J) (h2 : hI J K) : hI I K := ⟨fun q a b c d => (h2.1 q a b c d).trans (h.1 q a b c d), fun j hj => (h2.2 j hj).trans (h.2 j hj)⟩
theorem hL.tr {K : TL} (h : hL L M) (h2 : hL M K) : hL L K := fun q a b => (h2 q a b).trans (h q a b)
theorem hI.up {j : Nat} {x : Int32} (h : hI I J) (h1 : 7 ≤ j) (h2 : j ≤ 11) : hI I (up2 J 436 j x) := ⟨fun q a b c d => by rw [up2_row a]; exact h.1 q a b c d, fun k hk => by rw [up2_n (Or.inr (by omega))]; exact h.2 k hk⟩
theorem RK.f {Z : ZT} (h : RK I L Z) (e : fI I J) (e2 : tL L M) : RK J M Z := by
  obtain ⟨h1, h2⟩ := h
  unfold MC at h1
  refine ⟨?_, fun i hi => by rw [e2 437 (by decide)]; exact h2 i hi⟩
  unfold MC
  rw [e.2 10 (by omega), e.2 11 (by omega), e.2 7 (by omega), e.2 8 (by omega), e.2 9 (by omega), e.1 441 (by decide), e.1 442 (by decide), e.1 443 (by decide)]
  exact h1
theorem TR.fr {c : Nat → Nat} {ln : Nat} {S : PS} (h : TR I L c ln S) (e : ∀ j, 23 ≤ j → j ≤ 30 → J 436 j = I 436 j) (e2 : J 447 = I 447) (e3 : M 436 = L 436) : TR J M c ln S := by
  obtain ⟨⟨h1, h2, h3, h4, h5, h6, h7, h8⟩, ht⟩ := h
  refine ⟨⟨?_, ?_, ?_, ?_, fun z => ?_, fun z => ?_, ?_, ?_⟩, fun i hi => by rw [e2]; exact ht i hi⟩
  · rw [e 23 (by omega) (by omega)]; exact h1
  · rw [e 24 (by omega) (by omega)]; exact h2
  · rw [e 25 (by omega) (by omega)]; exact h3
  · rw [e 26 (by omega) (by omega)]; exact h4
  · rw [e 27 (by omega) (by omega)]; exact h5 z
  · rw [e3]; exact h6 z
  · rw [e 29 (by omega) (by omega)]; exact h7
  · rw [e 30 (by omega) (by omega)]; exact h8
theorem m_begins {Q : TI → TL → Prop} {H l R F : Nat} {x y z w : Int32} (hx : x = nI H) (hy : y = nI l) (hz : z = nI R) (hw : w = nI F) (hl : l < 2 ^ 31) (k : ∀ J M, hI I J → (∀ j, 12 ≤ j → J 436 j = I 436 j) → J 447 = I 447 → (∀ q, q ≠ 437 → M q = L q) → RK J M (hdZ H l R F) → Q J M) : W_X9_begins x y z w I L Q := by
  subst hx; subst hy; subst hz; subst hw
  unfold W_X9_begins
  rintro _ rfl
  have g : ∀ j, (up2 (up2 (up2 (up2 (up2 I 436 7 (nI H)) 436 8 (nI R)) 436 9 (nI F)) 436 10 0) 436 11 0) 436 j = if j = 11 then 0 else if j = 10 then 0 else if j = 9 then nI F else if j = 8 then nI R else if j = 7 then nI H else I 436 j := fun j => by
    rw [up2_at, up2_at, up2_at, up2_at, up2_at]
  have r : ∀ q, q ≠ 436 → (up2 (up2 (up2 (up2 (up2 I 436 7 (nI H)) 436 8 (nI R)) 436 9 (nI F)) 436 10 0) 436 11 0) q = I q := fun q hq => by rw [up2_row hq, up2_row hq, up2_row hq, up2_row hq, up2_row hq]
  generalize up2 (up2 (up2 (up2 (up2 I 436 7 (nI H)) 436 8 (nI R)) 436 9 (nI F)) 436 10 0) 436 11 0 = i1 at g r
  refine lp2 (fun n v l2 => L_X9_begins_29 (nI l) i1 Q n v l2) (fun v l2 => ∃ j, j ≤ 241 ∧ v = nI j ∧ (∀ q, q ≠ 437 → l2 q = L q) ∧ ∀ i, i < j → l2 437 i = 0) (fun v _ => 241 - v.toNatClampNeg) ?_ _ _ ⟨0, Nat.zero_le _, rfl, fun _ _ => rfl, fun i hi => absurd hi (Nat.not_lt_zero i)⟩
  rintro n v l2 ⟨j, j1, rfl, a1, a2⟩ ih
  refine pk_le 241 j (fun q => ?_) (fun q => ?_) rfl rfl (by omega) (by omega)
  · refine k i1 _ ⟨fun q a _ _ _ => r q a, fun j hj => ?_⟩ (fun j hj => ?_) (r 447 (by decide)) (fun q hq => by rw [up2_row hq]; exact a1 q hq) ⟨⟨?_, ?_, ?_, ?_, ?_, fun g hg => absurd hg (Nat.not_lt_zero _)⟩, fun i hi => ?_⟩
    · rw [g, if_neg (by omega), if_neg (by omega), if_neg (by omega), if_neg (by omega), if_neg (by omega)]
    · rw [g, if_neg (by omega), if_neg (by omega), if_neg (by omega), if_neg (by omega), if_neg (by omega)]
    · rw [g]; rfl
    · rw [g]; rfl
    · rw [g]; rfl
    · rw [g]; rfl
    · rw [g]; rfl
    · show _ = upR (fun _ => 0) 0 (lN l) i
      rw [up2_at, nI_l hl]
      unfold upR
      by_cases z : i = 0
      · rw [if_pos z, if_pos z]
      · rw [if_neg z, if_neg z]
        exact a2 i (by omega)
  · rw [pk_cl j rfl (by omega)]
    refine ⟨pk_in j 241 (by omega) rfl, ?_⟩
    refine ih _ _ ⟨j + 1, by omega, nI_1 j, fun q hq => by rw [up2_row hq]; exact a1 q hq, fun i hi => ?_⟩ (by rw [nI_1, nI_clamp (by omega), nI_clamp (by omega)]; omega)
    rw [up2_at]
    by_cases z : i = j
    · rw [if_pos z]
    · rw [if_neg z]
      exact a2 i (by omega)
theorem m_headRead {Q : TI → TL → Prop} {c : Nat → Nat} {ln : Nat} {S : PS} (hc : txV c ln) (h : TR I L c ln S) (v : PX c ln S) (k : ∀ J M, hI I J → hL L M → TR J M c ln (hF c ln S) → (er (hF c ln S) = 0 → RK J M (hZ c ln S)) → Q J M) : W_X9_headRead I L Q := by
  have go : ∀ I0 L0, fI I I0 → tL L L0 → TR I0 L0 c ln (hA c ln S) → B_X9_headRead_16 I0 L0 Q := by
    intro I0 L0 o0 m0 t0
    have v1 : PX c ln (hA c ln S) := v.takeW
    have v2 : PX c ln (hB c ln S) := v1.takeN
    have v3 : PX c ln (hC c ln S) := v2.takeN
    have v4 : PX c ln (hD c ln S) := v3.takeN
    have v5 : PX c ln (hE c ln S) := v4.takeN
    have v6 : PX c ln (hF c ln S) := v5.takeS
    unfold B_X9_headRead_16
    refine m_number (lo := 4) (hi := 60) rfl rfl (by omega) (by omega) hc t0 v1 (fun I1 L1 o1 m1 t1 => ?_)
    refine m_number (lo := 1) (hi := 20) (S := hB c ln S) rfl rfl (by omega) (by omega) hc t1 v2 (fun I2 L2 o2 m2 t2 => ?_)
    refine m_number (lo := 0) (hi := 9) (S := hC c ln S) rfl rfl (by omega) (by omega) hc t2 v3 (fun I3 L3 o3 m3 t3 => ?_)
    refine m_number (lo := 0) (hi := 99) (S := hD c ln S) rfl rfl (by omega) (by omega) hc t3 v4 (fun I4 L4 o4 m4 t4 => ?_)
    refine m_must (b := 59) (S := hE c ln S) rfl (by omega) hc t4 v5 (fun I5 L5 o5 m5 t5 => ?_)
    have t5 : TR I5 L5 c ln (hF c ln S) := t5
    have oo := (((o0.tr o1).tr (o2.tr o3)).tr (o4.tr o5)).h
    have mm := (((m0.tr m1).tr (m2.tr m3)).tr (m4.tr m5)).h
    have pb := peekV_b (c := c) (lo := 1) (hi := 20) (S := hB c ln S) (by omega)
    refine m_good t5 v6.1 (fun e => ⟨fun _ => k I5 L5 oo mm t5 (fun z => absurd z e), fun z => absurd rfl z⟩) (fun e => ⟨fun z => absurd z (by decide), fun _ => ?_⟩)
    refine m_begins rfl rfl rfl rfl (by omega) (fun I6 L6 a1 a2 a3 a4 a5 => ?_)
    refine k I6 L6 (oo.tr a1) (mm.tr (fun q _ hq => a4 q hq)) (t5.fr (fun j y1 y2 => a2 j (by omega)) a3 (a4 436 (by decide))) (fun _ => ?_)
    unfold hZ
    exact a5
  unfold W_X9_headRead
  refine m_passes (w := 1171592) rfl (by omega) hc h v (fun e J M a b d => ⟨fun _ => go J M a b ?_, fun z => absurd z (by decide)⟩) (fun e => ⟨fun z => absurd rfl z, fun _ => m_faults (code := 1) rfl h v.1 (fun J a d => go J L a (tL.rf L) ?_)⟩)
  · unfold hA takeW
    rw [if_pos e]
    exact d
  · unfold hA takeW
    rw [if_neg (by rw [e]; decide), advF_er (failF_er (by decide))]
    exact d
end RHEAD9
