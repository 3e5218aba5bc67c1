/-! the reference's questions to a token -/
section RASK
variable {I J : TI} {L M : TL}
theorem advF_er {c : Nat → Nat} {ln : Nat} {S : PS} (h : er S ≠ 0) : advF c ln S = S := by
  unfold advF
  rw [if_neg h]
theorem hsF_lt {c : Nat → Nat} {s : Nat} : ∀ n, (∀ i, i < n → c (s + i) ≤ 122) → hsF c s n < 27 ^ n
  | 0, _ => by show 0 < 1; omega
  | n + 1, h => by
    have a := hsF_lt n (fun i hi => h i (by omega))
    have b := h n (by omega)
    show 27 * hsF c s n + (c (s + n) - 96) < 27 ^ (n + 1)
    rw [Nat.pow_succ]
    omega
theorem m_isWord {Q : Int32 → Prop} {c : Nat → Nat} {ln w : Nat} {S : PS} {x : Int64} (hx : x = lN w) (hw : w < 2 ^ 62) (h : TR I L c ln S) (v : PX c ln S) (hl : ln ≤ 600) (k1 : wdB c S w = true → Q 1) (k0 : wdB c S w = false → Q 0) : W_X9_isWord x I L Q := by
  subst hx
  unfold wdB at *
  have tk3 := v.1.2.1.1
  have te1 := v.1.1
  unfold W_X9_isWord
  refine m_good h v.1 (fun e => ⟨fun _ => k0 (decide_eq_false (fun z => e z.1)), fun z => absurd rfl z⟩) (fun e => ⟨fun z => absurd z (by decide), fun _ => ?_⟩)
  rw [h.1.2.2.2.1, h.1.2.1, h.1.2.2.1, pk_sub te1.1]
  have e1 : nI (tk S) = 1 ↔ tk S = 1 := nI_eq (b := 1) (by omega) (by omega)
  refine ⟨fun z => k0 (decide_eq_false (fun y => z (e1.mpr y.2.1))), fun z => ?_⟩
  have t1 := e1.mp z
  refine pk_lt 10 (te S - ts S) (fun q => k0 (decide_eq_false (fun y => by omega))) (fun q => ?_) rfl rfl (by omega) (by omega)
  rw [h.1.2.2.2.2.2.1 t1, Nat.min_eq_left (by omega)]
  have b1 : hsF c (ts S) (te S - ts S) < 2 ^ 62 := by
    have a := hsF_lt (c := c) (s := ts S) (te S - ts S) (fun i hi => by
      have := v.2 t1 (ts S + i) (by omega) (by omega)
      unfold ltB at this
      exact (of_decide_eq_true this).2)
    have a2 : 27 ^ (te S - ts S) ≤ 27 ^ 10 := Nat.pow_le_pow_right (by decide) (by omega)
    have a3 : (27 : Nat) ^ 10 < 2 ^ 62 := by decide
    omega
  have e2 : lN (hsF c (ts S) (te S - ts S)) = lN w ↔ hsF c (ts S) (te S - ts S) = w := ⟨fun q => by have := congrArg un q; rw [un_lN (by omega), un_lN (by omega)] at this; exact this, fun q => by rw [q]⟩
  exact ⟨fun y => k0 (decide_eq_false (fun y2 => y (e2.mpr y2.2.2.2))), fun y => k1 (decide_eq_true ⟨e, t1, by omega, e2.mp y⟩)⟩
theorem m_passes {Q : Int32 → TI → TL → Prop} {c : Nat → Nat} {ln w : Nat} {S : PS} {x : Int64} (hx : x = lN w) (hw : w < 2 ^ 62) (hc : txV c ln) (h : TR I L c ln S) (v : PX c ln S) (k1 : wdB c S w = true → ∀ J M, fI I J → tL L M → TR J M c ln (advF c ln S) → Q 1 J M) (k0 : wdB c S w = false → Q 0 I L) : W_X9_passes x I L Q := by
  unfold W_X9_passes
  exact m_isWord hx hw h v hc.1 (fun e => ⟨fun _ => m_next hc h v.1 (wdB_er e) (fun J M a b d => k1 e J M a.f b d), fun z => absurd z (by decide)⟩) (fun e => ⟨fun z => absurd rfl z, fun _ => k0 e⟩)
theorem m_isByte {Q : Int32 → Prop} {c : Nat → Nat} {ln b : Nat} {S : PS} {x : Int32} (hx : x = nI b) (hb : b < 128) (hc : txV c ln) (h : TR I L c ln S) (v : PV ln S) (k1 : sgB c b S = true → Q 1) (k0 : sgB c b S = false → Q 0) : W_X9_isByte x I L Q := by
  subst hx
  have hl := hc.1
  unfold sgB at *
  have tk3 := v.2.1.1
  unfold W_X9_isByte
  refine m_good h v (fun e => ⟨fun _ => k0 (decide_eq_false (fun z => e z.1)), fun z => absurd rfl z⟩) (fun e => ⟨fun z => absurd z (by decide), fun _ => ?_⟩)
  rw [h.1.2.2.2.1, h.1.2.2.1]
  have e1 : nI (tk S) = 3 ↔ tk S = 3 := nI_eq (b := 3) (by omega) (by omega)
  refine ⟨fun z => k0 (decide_eq_false (fun y => z (e1.mpr y.2.1))), fun z => ?_⟩
  have z3 := e1.mp z
  have hlt := v.2.1.2 (by omega)
  have cb := hc.2 _ hlt
  rw [pk_cl (ts S) rfl (by omega), h.2 (ts S) hlt]
  have e2 : nI (c (ts S)) = nI b ↔ c (ts S) = b := nI_eq (by omega) (by omega)
  exact ⟨pk_in _ 600 (by omega) rfl, fun y => k0 (decide_eq_false (fun w => y (e2.mpr w.2.2))), fun y => k1 (decide_eq_true ⟨e, z3, e2.mp y⟩)⟩
theorem sgB_er {c : Nat → Nat} {S : PS} {b : Nat} (h : sgB c b S = true) : er S = 0 := by
  unfold sgB at h
  exact (of_decide_eq_true h).1
theorem takeS_er {c : Nat → Nat} {ln b : Nat} {S : PS} (h : er S ≠ 0) : takeS c ln b S = S := by
  unfold takeS
  split
  · exact advF_er h
  · rw [er_fail h, advF_er h]
theorem m_must {Q : TI → TL → Prop} {c : Nat → Nat} {ln b : Nat} {S : PS} {x : Int32} (hx : x = nI b) (hb : b < 128) (hc : txV c ln) (h : TR I L c ln S) (v : PX c ln S) (k : ∀ J M, fI I J → tL L M → TR J M c ln (takeS c ln b S) → Q J M) : W_X9_must x I L Q := by
  unfold W_X9_must
  refine m_good h v.1 (fun e => ⟨fun z => absurd rfl z, fun _ => ?_⟩) (fun e => ⟨fun _ => ?_, fun z => absurd z (by decide)⟩)
  · have es : takeS c ln b S = S := takeS_er e
    refine k I L (fI.rf I) (tL.rf L) ?_
    rw [es]
    exact h
  · refine m_isByte hx hb hc h v.1 (fun e2 => ⟨fun z => absurd z (by decide), fun _ => m_next hc h v.1 e (fun J M a b2 d => ?_)⟩) (fun e2 => ⟨fun _ => m_faults (code := 1) rfl h v.1 (fun J a d => ?_), fun z => absurd rfl z⟩)
    · have es : takeS c ln b S = advF c ln S := by unfold takeS; rw [if_pos e2]
      refine k J M a.f b2 ?_
      rw [es]
      exact d
    · have es : takeS c ln b S = failF 1 S := by
        unfold takeS
        rw [if_neg (by rw [e2]; decide), advF_er (failF_er (by decide))]
      refine k J L a (tL.rf L) ?_
      rw [es]
      exact d
theorem takeN_er {c : Nat → Nat} {ln lo hi : Nat} {S : PS} (h : er S ≠ 0) : takeN c ln lo hi S = S ∧ peekV c lo hi S = lo := by
  have e1 : peekF c lo hi S = S := by
    unfold peekF
    split
    · split
      · rfl
      · exact er_fail h
    · exact er_fail h
  refine ⟨?_, ?_⟩
  · unfold takeN
    rw [e1, advF_er h]
  · unfold peekV
    rw [e1, if_neg h]
theorem m_number {Q : Int32 → TI → TL → Prop} {c : Nat → Nat} {ln lo hi : Nat} {S : PS} {x y : Int32} (hx : x = nI lo) (hy : y = nI hi) (hlo : lo ≤ 1000000) (hhi : hi < 1000000) (hc : txV c ln) (h : TR I L c ln S) (v : PX c ln S) (k : ∀ J M, fI I J → tL L M → TR J M c ln (takeN c ln lo hi S) → Q (nI (peekV c lo hi S)) J M) : W_X9_number x y I L Q := by
  subst hx; subst hy
  unfold W_X9_number
  refine m_good h v.1 (fun e => ⟨fun z => absurd rfl z, fun _ => ?_⟩) (fun e => ⟨fun _ => ?_, fun z => absurd z (by decide)⟩)
  · obtain ⟨e1, e2⟩ := takeN_er (c := c) (ln := ln) (lo := lo) (hi := hi) e
    have := k I L (fI.rf I) (tL.rf L) (by rw [e1]; exact h)
    rw [e2] at this
    exact this
  · -- behind a fault
    have bad : ∀ code, code ≠ 0 → code ≤ 4 → peekF c lo hi S = failF code S → W_X9_faults (nI code) I L (fun (r1836 : Int32) (I1837 : TI) => B_X9_number_47 (nI lo) I1837 L Q) := by
      intro code c0 c4 ef
      refine m_faults rfl h v.1 (fun J a d => ?_)
      unfold B_X9_number_47
      refine m_good d (failF_v v.1 c4) (fun z => ⟨fun y => absurd rfl y, fun _ => ?_⟩) (fun z => absurd z (failF_er c0))
      have en : takeN c ln lo hi S = failF code S := by unfold takeN; rw [ef, advF_er z]
      have ev : peekV c lo hi S = lo := by unfold peekV; rw [ef, if_neg z]
      have := k J L a (tL.rf L) (by rw [en]; exact d)
      rw [ev] at this
      exact this
    have tk3 := v.1.2.1.1
    rw [h.1.2.2.2.1]
    have e2 : nI (tk S) = 2 ↔ tk S = 2 := nI_eq (b := 2) (by omega) (by omega)
    refine ⟨fun z => ?_, fun z => bad 1 (by decide) (by omega) ?_⟩
    · have t2 := e2.mp z
      have nu : nuB S = true := by unfold nuB; exact decide_eq_true ⟨e, t2⟩
      obtain ⟨m, m1, m2, m3⟩ := h.1.2.2.2.2.1 t2
      rw [m1]
      have inn : lo ≤ m ∧ m < hi + 1 → lo ≤ numF c S ∧ numF c S ≤ hi ∧ m = numF c S := fun q => by omega
      refine s_in (a := lo) (c := hi + 1) rfl rfl (by congr 1; exact (nI_pred hi).symm) (by omega) (by omega) (by omega) (fun q => ⟨fun _ => ?_, fun z => absurd z (by decide)⟩) (fun q => ⟨fun z => absurd rfl z, fun _ => bad 2 (by decide) (by omega) ?_⟩)
      · obtain ⟨n, n1, n2, n3⟩ := q
        have nm : m = n := (nI_eq (by omega) (by omega)).mp n3
        obtain ⟨q1, q2, q3⟩ := inn (by omega)
        have ef : peekF c lo hi S = S := by
          unfold peekF inB
          rw [if_pos nu, decide_eq_true ⟨q1, q2⟩, if_pos rfl]
        have en : takeN c ln lo hi S = advF c ln S := by unfold takeN; rw [ef]
        have ev : peekV c lo hi S = numF c S := by unfold peekV; rw [ef, if_pos e]
        unfold B_X9_number_47
        refine m_good h v.1 (fun z => absurd e z) (fun _ => ⟨fun _ => m_next hc h v.1 e (fun J M a b d => ?_), fun z => absurd z (by decide)⟩)
        have := k J M a.f b (by rw [en]; exact d)
        rw [ev, ← q3] at this
        rw [m1]
        exact this
      · have : ¬ (lo ≤ numF c S ∧ numF c S ≤ hi) := fun z => q ⟨m, by omega, by omega, rfl⟩
        unfold peekF inB
        rw [if_pos nu, decide_eq_false this, if_neg (by decide)]
    · have nu : ¬ nuB S = true := by
        unfold nuB
        rw [decide_eq_true_iff]
        exact fun y => z (e2.mpr y.2)
      unfold peekF
      rw [if_neg nu]
end RASK
