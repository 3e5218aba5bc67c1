/-! the reference reads a query: comparisons, what closes, the whole test -/
section RQ2
variable {I J : TI} {L M : TL} {N : Nat} {c : Nat → Nat} {ln : Nat} {S : PS} {C : CQ} {r : RW}
theorem c23_a : ∀ a w : List Nat, c23 (a ++ w) = c23 a + c23 w
  | [], w => (Nat.zero_add _).symm
  | x :: a, w => by
    show c23 (a ++ w) + (if x = 23 then 1 else 0) = c23 a + (if x = 23 then 1 else 0) + c23 w
    rw [c23_a a w]
    omega
theorem c23_lv (s : Nat) : c23 (lvW s) = 0 := by
  unfold lvW
  split
  · rfl
  · split
    · rfl
    · split
      · rfl
      · rfl
theorem c23_w : ∀ es : ES, c23 (wOf es) ≤ es.length
  | [] => Nat.le_refl 0
  | x :: rs => by
    have := c23_w rs
    show c23 (lvW x.2.2.2 ++ wOf rs) + (if (if x.1 = true then 23 else 1) = 23 then 1 else 0) ≤ rs.length + 1
    rw [c23_a, c23_lv]
    by_cases hx : x.1 = true
    · rw [if_pos hx, if_pos rfl]
      omega
    · rw [if_neg hx, if_neg (by decide)]
      omega
theorem c23_lw (s : Nat) (es : ES) : c23 (lvW s ++ wOf es) ≤ es.length := by
  have := c23_w es
  rw [c23_a, c23_lv]
  omega
/-! behind a fault nothing moves -/
theorem wdB_f {w : Nat} (h : er S ≠ 0) : wdB c S w = false := by
  cases e : wdB c S w with
  | true => exact absurd (wdB_er e) h
  | false => rfl
theorem sgB_f {w : Nat} (h : er S ≠ 0) : sgB c w S = false := by
  cases e : sgB c w S with
  | true => exact absurd (sgB_er e) h
  | false => rfl
theorem opL_f {q : QS} (h : er S ≠ 0) : ∀ n, opL c ln n S q = (S, q)
  | 0 => rfl
  | n + 1 => by rw [opL_s, wdB_f h, sgB_f h, if_neg (by decide)]
theorem csB_bad (h1 : sgB c 60 (csA c ln S) = false) (h2 : sgB c 62 (csA c ln S) = false) (h3 : sgB c 61 (csA c ln S) = false) : csC c ln S = failF 1 (csA c ln S) := by
  have e : er (failF 1 (csA c ln S)) ≠ 0 := failF_er (by decide)
  unfold csC csB
  rw [if_neg (by rw [h1, h2, h3]; decide), advF_er e, odS_er e]
theorem csC_f (h : er S ≠ 0) : csC c ln S = S := by
  have eA : csA c ln S = S := odS_er h
  have := csB_bad (c := c) (ln := ln) (S := S) (by rw [eA]; exact sgB_f h) (by rw [eA]; exact sgB_f h) (by rw [eA]; exact sgB_f h)
  rw [this, eA, er_fail h]
theorem clL_f {q : QS} (h : er S ≠ 0) : ∀ n, (clL c ln n S q).1 = S
  | 0 => rfl
  | n + 1 => by
    obtain ⟨s, e, f⟩ := q
    cases s with
    | nil => rfl
    | cons x rs => rw [clL_s, sgB_f h, if_neg (by decide)]
theorem gnB_f (h : er S ≠ 0) : gnB c S = false := by
  unfold gnB
  rw [wdB_f h, wdB_f h]
  rfl
theorem gnS_f {q : QS} (h : er S ≠ 0) : gnS c ln S q = S := by
  unfold gnS
  rw [gnB_f h, if_neg (by decide), er_fail h]
  split <;> rfl
theorem nqS_f {q : QS} (h : er (csC c ln (opL c ln 7 S q).1) ≠ 0) : (nqD C r c ln S q).1 = csC c ln (opL c ln 7 S q).1 ∧ nqS C r c ln S q = csC c ln (opL c ln 7 S q).1 := by
  have e : (nqD C r c ln S q).1 = csC c ln (opL c ln 7 S q).1 := clL_f h 7
  refine ⟨e, ?_⟩
  unfold nqS
  rw [gnS_f (by rw [e]; exact h), e]
theorem nqL_f {n : Nat} {q : QS} (h : er (csC c ln (opL c ln 7 S q).1) ≠ 0) : (nqL C r c ln (n + 1) S q).1 = csC c ln (opL c ln 7 S q).1 := by
  obtain ⟨e1, e2⟩ := nqS_f (C := C) (r := r) h
  rw [nqL_s, if_neg (by rw [e1, gnB_f h]; decide)]
  exact e2
theorem advF_e : er (advF c ln S) = er S := by
  unfold advF
  split <;> rfl
theorem csB_y (y : PY S) : PY (csB c ln S) := by
  have a : PY (csA c ln S) := odS_y y
  unfold csB
  split
  · exact a.adv
  · exact a.fail.adv
theorem csC_y (y : PY S) : PY (csC c ln S) := odS_y (csB_y y)
theorem m_settlesE {Q : TI → Prop} {x : Int32} (t : TR I L c ln S) (v : PV ln S) (e0 : er S ≠ 0) (k : Q I) : W_X9_settles x I L Q := by
  unfold W_X9_settles
  refine ⟨1, ?_⟩
  show D_X9_settles_0 x L Q (fun I => L_X9_settles_0 x L Q 0 I) I
  unfold D_X9_settles_0
  exact m_good t v (fun _ => ⟨fun _ => k, fun z => absurd rfl z⟩) (fun z => absurd z e0)
/-- what stands where a factor is due, with its rows -/
def DQ (C : CQ) (r : RW) (N : Nat) (I : TI) (S : PS) (q : QS) (es : ES) (s : Nat) (cs : List Nat) : Prop := DUE C r N q es s cs ∧ RQ I cs (lvW s ++ wOf es) es.length ∧ es.length ≤ 6 ∧ cs.length + (lvW s ++ wOf es).length ≤ ts S
theorem ts_le (v : PX c ln S) : ts S ≤ ln := Nat.le_trans v.1.1.1 v.1.1.2
theorem ts_lt (v : PX c ln S) (h : tk S ≠ 0) : ts S < ln := v.1.2.1.2 h
/-- the comparison, what opens ahead of it read -/
theorem m_cmp {Q : TI → TL → Prop} {q : QS} {es : ES} {s : Nat} {cs : List Nat} (hC : CV C) (hN : N = cI C + cG C) (hc : txV c ln) (h2 : ln ≤ 200) (h : TR I L c ln S) (v : PX c ln S) (y : PY S) (e0 : er S = 0) (hd : DQ C r N I S q es s cs)
    (k0 : er (csC c ln S) ≠ 0 → ∀ J M, rI I J → tL L M → TR J M c ln (csC c ln S) → Q J M)
    (k1 : er (csC c ln S) = 0 → ∀ J M cs2, rI I J → tL L M → TR J M c ln (csC c ln S) → ts S + 1 ≤ ts (csC c ln S) → RQ J cs2 (lvW s ++ wOf es) es.length → cs2.length + (lvW s ++ wOf es).length ≤ ts (csC c ln S) → (∀ k, k < N → evl C r k cs2 = some (b2 (csH C r c ln S k) :: (lvV s q.2.1 q.2.2 k ++ vOf k es))) → Q J M) :
    W_X9_valueRead I L (fun (I3462 : TI) (L3463 : TL) => W_X9_isByte (60 : Int32) I3462 L3463 (fun (r3464 : Int32) => (r3464 = 0 → W_X9_isByte (62 : Int32) I3462 L3463 (fun (r3465 : Int32) => (r3465 = 0 → B_X9_comparisonRead_77 (21 : Int32) I3462 L3463 Q) ∧ (¬ r3465 = 0 → B_X9_comparisonRead_77 (22 : Int32) I3462 L3463 Q))) ∧ (¬ r3464 = 0 → B_X9_comparisonRead_77 (20 : Int32) I3462 L3463 Q))) := by
  obtain ⟨hdu, hq, ho, hl⟩ := hd
  have l1 := ts_le v
  have vA : PX c ln (csA c ln S) := px_od v
  have yA : PY (csA c ln S) := odS_y y
  have vB : PX c ln (csB c ln S) := px_csB v
  have yB : PY (csB c ln S) := csB_y y
  have vC : PX c ln (csC c ln S) := px_csC v
  -- behind the sign
  have go : ∀ (l g : Bool), l = sgB c 60 (csA c ln S) → g = sgB c 62 (csA c ln S) → ¬ (l = true ∧ g = true) → csB c ln S = advF c ln (csA c ln S) → tk (csA c ln S) = 3 → er (csA c ln S) = 0 → ∀ J1 M1, rI I J1 → tL L M1 → TR J1 M1 c ln (csA c ln S) → RQ J1 (cdF (odV c S) :: cs) (lvW s ++ wOf es) es.length → B_X9_comparisonRead_99 (nI (if l = true then 20 else if g = true then 22 else 21)) J1 M1 Q := by
    intro l g hl9 hg9 hlg eB t3 eA J1 M1 o1 m1 t1 q1
    have a1 : ts S + 1 ≤ ts (csA c ln S) := odS_ts v e0 y eA
    have a2 : ts (csA c ln S) + 1 ≤ ts (csB c ln S) := by rw [eB]; exact adv_ts vA eA yA (by omega)
    have eB0 : er (csB c ln S) = 0 := by rw [eB, advF_e]; exact eA
    have l2 := ts_le vB
    unfold B_X9_comparisonRead_99
    refine m_good t1 vA.1 (fun z => absurd eA z) (fun _ => ⟨fun _ => m_next hc t1 vA.1 eA (fun J2 M2 o2 m2 t2 => ?_), fun z => absurd z (by decide)⟩)
    rw [← eB] at t2
    refine m_valueRead hc t2 vB eB0 (q1.f o2.f) (fun z => ?_) (fun e3 J3 M3 o3 m3 t3 q3 => ?_) (fun e3 J3 M3 o3 m3 t3 => ?_)
    · show cs.length + 1 < 200
      have := ts_lt vB z
      omega
    · replace t3 : TR J3 M3 c ln (csC c ln S) := t3
      have e3 : er (csC c ln S) = 0 := e3
      have a3 : ts (csB c ln S) + 1 ≤ ts (csC c ln S) := odS_ts vB eB0 yB e3
      have l3 := ts_le vC
      refine m_good t3 vC.1 (fun z => absurd e3 z) (fun _ => ⟨fun z => absurd z (by decide), fun _ => ?_⟩)
      refine m_adds rfl (by split <;> (try split) <;> omega) q3 (by show cs.length + 1 + 1 < 200; omega) (fun J4 w4 _ q4 => ?_)
      refine k1 e3 J4 M3 _ (((o1.tr o2.f.r).tr o3).tr w4.r) ((m1.tr m2).tr m3) (w4.t t3) (by omega) q4 (by show cs.length + 1 + 1 + 1 + _ ≤ _; omega) ?_
      exact due_cmp hC hN hdu odV_le odV_le hlg (fun k => by rw [hl9, hg9]; rfl)
    · replace t3 : TR J3 M3 c ln (csC c ln S) := t3
      have e3 : er (csC c ln S) ≠ 0 := e3
      exact m_good t3 vC.1 (fun _ => ⟨fun _ => k0 e3 J3 M3 ((o1.tr o2.f.r).tr o3) ((m1.tr m2).tr m3) t3, fun z => absurd rfl z⟩) (fun z => absurd z e3)
  -- the sign
  have sign : ∀ J1 M1, rI I J1 → tL L M1 → TR J1 M1 c ln (csA c ln S) → (er (csA c ln S) = 0 → RQ J1 (cdF (odV c S) :: cs) (lvW s ++ wOf es) es.length) → W_X9_isByte (60 : Int32) J1 M1 (fun (r3464 : Int32) => (r3464 = 0 → W_X9_isByte (62 : Int32) J1 M1 (fun (r3465 : Int32) => (r3465 = 0 → B_X9_comparisonRead_77 (21 : Int32) J1 M1 Q) ∧ (¬ r3465 = 0 → B_X9_comparisonRead_77 (22 : Int32) J1 M1 Q))) ∧ (¬ r3464 = 0 → B_X9_comparisonRead_77 (20 : Int32) J1 M1 Q)) := by
    intro J1 M1 o1 m1 t1 q1
    have two : ∀ b d, b ≠ d → sgB c b (csA c ln S) = true → sgB c d (csA c ln S) = false := by
      intro b d hbd e
      cases z : sgB c d (csA c ln S) with
      | false => rfl
      | true =>
        unfold sgB at e z
        exact absurd ((of_decide_eq_true e).2.2.symm.trans (of_decide_eq_true z).2.2) hbd
    refine m_isByte (b := 60) rfl (by omega) hc t1 vA.1 (fun s1 => ⟨fun z => absurd z (by decide), fun _ => ?_⟩) (fun s1 => ⟨fun _ => ?_, fun z => absurd rfl z⟩)
    · have eB : csB c ln S = advF c ln (csA c ln S) := by unfold csB; rw [if_pos (Or.inl s1)]
      have s2 := two 60 62 (by decide) s1
      unfold B_X9_comparisonRead_77
      exact ⟨fun _ => go true false s1.symm s2.symm (by decide) eB (sgB_tk s1) (sgB_er s1) J1 M1 o1 m1 t1 (q1 (sgB_er s1)), fun z => absurd z (by decide)⟩
    · refine m_isByte (b := 62) rfl (by omega) hc t1 vA.1 (fun s2 => ⟨fun z => absurd z (by decide), fun _ => ?_⟩) (fun s2 => ⟨fun _ => ?_, fun z => absurd rfl z⟩)
      · have eB : csB c ln S = advF c ln (csA c ln S) := by unfold csB; rw [if_pos (Or.inr (Or.inl s2))]
        unfold B_X9_comparisonRead_77
        exact ⟨fun _ => go false true s1.symm s2.symm (by decide) eB (sgB_tk s2) (sgB_er s2) J1 M1 o1 m1 t1 (q1 (sgB_er s2)), fun z => absurd z (by decide)⟩
      · unfold B_X9_comparisonRead_77
        refine ⟨fun z => absurd rfl z, fun _ => m_isByte (b := 61) rfl (by omega) hc t1 vA.1 (fun s3 => ⟨fun _ => ?_, fun z => absurd z (by decide)⟩) (fun s3 => ⟨fun z => absurd rfl z, fun _ => m_faults (code := 1) rfl t1 vA.1 (fun J2 a2 t2 => ?_)⟩)⟩
        · have eB : csB c ln S = advF c ln (csA c ln S) := by unfold csB; rw [if_pos (Or.inr (Or.inr s3))]
          exact go false false s1.symm s2.symm (by decide) eB (sgB_tk s3) (sgB_er s3) J1 M1 o1 m1 t1 (q1 (sgB_er s3))
        · have eC := csB_bad s1 s2 s3
          have eF : er (failF 1 (csA c ln S)) ≠ 0 := failF_er (by decide)
          unfold B_X9_comparisonRead_99
          refine m_good t2 (failF_v vA.1 (by omega)) (fun _ => ⟨fun z => absurd rfl z, fun _ => ?_⟩) (fun z => absurd z eF)
          exact k0 (by rw [eC]; exact eF) J2 M1 (o1.tr a2.r) m1 (by rw [eC]; exact t2)
  refine m_valueRead hc h v e0 hq (fun z => ?_) (fun e1 J1 M1 o1 m1 t1 q1 => sign J1 M1 o1 m1 t1 (fun _ => q1)) (fun e1 J1 M1 o1 m1 t1 => sign J1 M1 o1 m1 t1 (fun z => absurd z e1))
  have := ts_lt v z
  omega
/-- behind a comparison -/
def CQ9 (C : CQ) (r : RW) (N : Nat) (I : TI) (S : PS) (q : QS) (h : Nat → Bool) (es : ES) (s : Nat) (cs : List Nat) : Prop := q.1 = mpE es ∧ CN N es s q.2.1 q.2.2 ∧ FRS N es q.2.1 q.2.2 ∧ RQ I cs (lvW s ++ wOf es) es.length ∧ es.length ≤ 6 ∧ cs.length + (lvW s ++ wOf es).length ≤ ts S ∧ ∀ k, k < N → evl C r k cs = some (b2 (h k) :: (lvV s q.2.1 q.2.2 k ++ vOf k es))
theorem m_cmpRead {Q : TI → TL → Prop} {q : QS} {es : ES} {s : Nat} {cs : List Nat} (hC : CV C) (hN : N = cI C + cG C) (hc : txV c ln) (h2 : ln ≤ 200) (h : TR I L c ln S) (v : PX c ln S) (y : PY S) (e0 : er S = 0) (hd : DQ C r N I S q es s cs)
    (k0 : er (csC c ln (opL c ln 7 S q).1) ≠ 0 → ∀ J M, rI I J → tL L M → TR J M c ln (csC c ln (opL c ln 7 S q).1) → Q J M)
    (k1 : er (csC c ln (opL c ln 7 S q).1) = 0 → PX c ln (csC c ln (opL c ln 7 S q).1) → PY (csC c ln (opL c ln 7 S q).1) → ∀ J M es2 s2 cs2, rI I J → tL L M → TR J M c ln (csC c ln (opL c ln 7 S q).1) → ts S + 1 ≤ ts (csC c ln (opL c ln 7 S q).1) → CQ9 C r N J (csC c ln (opL c ln 7 S q).1) (opL c ln 7 S q).2 (csH C r c ln (opL c ln 7 S q).1) es2 s2 cs2 → Q J M) : W_X9_comparisonRead I L Q := by
  generalize hA : opL c ln 7 S q = A at k0 k1
  unfold W_X9_comparisonRead
  refine lp2 (fun n i l => L_X9_comparisonRead_0 Q n i l) (fun i l => ∃ n S2 q2 es2 s2, 7 ≤ es2.length + n ∧ rI I i ∧ tL L l ∧ TR i l c ln S2 ∧ PX c ln S2 ∧ PY S2 ∧ er S2 = 0 ∧ ts S ≤ ts S2 ∧ DQ C r N i S2 q2 es2 s2 cs ∧ opL c ln n S2 q2 = A) (fun i _ => 6 - (i 436 42).toNatClampNeg) ?_ _ _ ⟨7, S, q, es, s, by omega, rI.rf I, tL.rf L, h, v, y, e0, Nat.le_refl _, hd, hA⟩
  rintro z i l ⟨n, S2, q2, es2, s2, hn, oi, ol, ti, vi, yi, ei, tsi, di, eA⟩ ih
  obtain ⟨hdu, hq, ho, hl⟩ := id di
  obtain ⟨m, rfl⟩ : ∃ m, n = m + 1 := ⟨n - 1, by omega⟩
  rw [opL_s] at eA
  have ql : q2.1.length = es2.length := by rw [hdu.1, mpE_len]
  have o42 : i 436 42 = nI es2.length := hq.2.2.1
  -- in
  have inn : ∀ (g : Bool) (x : Int32), wdB c S2 10631 = g → (wdB c S2 10631 || sgB c 40 S2) = true → x = nI (if g = true then 23 else 1) → B_X9_comparisonRead_36 x i l Q (fun I L => L_X9_comparisonRead_0 Q z I L) := by
    intro g x hg hor hx
    have tk0 : tk S2 ≠ 0 := by
      rw [Bool.or_eq_true] at hor
      rcases hor with z2 | z2
      · rw [wdB_tk z2]; decide
      · rw [sgB_tk z2]; decide
    have tl := ts_lt vi tk0
    rw [if_pos hor] at eA
    unfold B_X9_comparisonRead_36
    refine m_goesIn (n := if g = true then 23 else 1) hx (by split <;> omega) hc ti vi ei hq ho (by omega) (fun o6 J M a b t q1 => ⟨fun _ => ?_, fun z2 => absurd z2 (by decide)⟩) (fun o6 J a t => ⟨fun z2 => absurd rfl z2, fun _ => ?_⟩)
    · rw [if_pos (by omega), hg] at eA
      obtain ⟨p1, p2⟩ := due_push g hdu
      have at1 := adv_ts vi ei yi tk0
      refine ih _ _ ⟨m, advF c ln S2, opP g q2, (g, q2.2.1, q2.2.2, s2) :: es2, 0, ?_, oi.tr a, ol.tr b, t, vi.adv, yi.adv, by rw [advF_e]; exact ei, by omega, ⟨p1, by rw [p2]; exact q1, by show es2.length + 1 ≤ 6; omega, ?_⟩, eA⟩ ?_
      · show 7 ≤ es2.length + 1 + m
        omega
      · rw [p2]
        show cs.length + ((lvW s2 ++ wOf es2).length + 1) ≤ _
        omega
      · have j42 : J 436 42 = nI (es2.length + 1) := q1.2.2.1
        rw [j42, o42, nI_clamp (by omega), nI_clamp (by omega)]
        omega
    · have eF : er (failF 3 S2) ≠ 0 := failF_er (by decide)
      rw [if_neg (by omega), opL_f eF] at eA
      subst eA
      have eC : csC c ln (failF 3 S2) = failF 3 S2 := csC_f eF
      exact k0 (by rw [eC]; exact eF) J l (oi.tr a) ol (by rw [eC]; exact t)
  have b19 : (wdB c S2 10631 || sgB c 40 S2) = true → B_X9_comparisonRead_19 i l Q (fun I L => L_X9_comparisonRead_0 Q z I L) := by
    intro hor
    unfold B_X9_comparisonRead_19
    exact m_isWord (w := 10631) rfl (by omega) ti vi hc.1 (fun e => ⟨fun z2 => absurd z2 (by decide), fun _ => inn true 23 e hor rfl⟩) (fun e => ⟨fun _ => inn false 1 e hor rfl, fun z2 => absurd rfl z2⟩)
  show D_X9_comparisonRead_0 Q (fun I L => L_X9_comparisonRead_0 Q z I L) i l
  unfold D_X9_comparisonRead_0
  refine m_isWord (w := 10631) rfl (by omega) ti vi hc.1 (fun e => ⟨fun _ => b19 (by rw [e]; rfl), fun z2 => absurd z2 (by decide)⟩) (fun e => ⟨fun z2 => absurd rfl z2, fun _ => ?_⟩)
  refine m_isByte (b := 40) rfl (by omega) hc ti vi.1 (fun e2 => ⟨fun z2 => absurd z2 (by decide), fun _ => b19 (by rw [e2, Bool.or_true])⟩) (fun e2 => ⟨fun _ => ?_, fun z2 => absurd rfl z2⟩)
  rw [e, e2, if_neg (by decide)] at eA
  subst eA
  refine m_cmp hC hN hc h2 ti vi yi ei di (fun e3 J M a b t => k0 e3 J M (oi.tr a) (ol.tr b) t) (fun e3 J M cs2 a b t a1 rq ca ev => ?_)
  exact k1 e3 (px_csC vi) (csC_y yi) J M es2 s2 cs2 (oi.tr a) (ol.tr b) t (by show ts S + 1 ≤ ts (csC c ln S2); omega) ⟨hdu.1, hdu.2.1, hdu.2.2.1, rq, ho, ca, ev⟩
/-- behind a factor, with its rows -/
def AQ (C : CQ) (r : RW) (N : Nat) (I : TI) (S : PS) (e f h : Nat → Bool) (es : ES) (s : Nat) (cs : List Nat) : Prop := AFT C r N e f h es s cs ∧ RQ I cs (lvW s ++ wOf es) es.length ∧ es.length ≤ 6 ∧ cs.length + (lvW s ++ wOf es).length ≤ ts S
theorem RQ.w {cs ws : List Nat} {o : Nat} {x : Nat} (h : RQ I cs (x :: ws) (o + 1)) : RQ (up2 (up2 I 436 41 ((I 436 41) - 1)) 436 42 (((up2 I 436 41 ((I 436 41) - 1)) 436 42) - 1)) cs ws o ∧ wI I (up2 (up2 I 436 41 ((I 436 41) - 1)) 436 42 (((up2 I 436 41 ((I 436 41) - 1)) 436 42) - 1)) := by
  obtain ⟨h1, h2, h3, h4, h5⟩ := h
  have e41 : I 436 41 - 1 = nI ws.length := by
    have h2 : I 436 41 = nI (ws.length + 1) := h2
    rw [h2]; exact nI_pred _
  have e42 : (up2 I 436 41 (nI ws.length)) 436 42 - 1 = nI o := by
    rw [up2_n (Or.inr (by decide)), h3]; exact nI_pred _
  rw [e41, e42]
  refine ⟨⟨?_, ?_, up2_s, cdR_fr _ h4 (fun _ _ => by rw [up2_row (by decide), up2_row (by decide)]), wtR_fr _ h5.2 (fun _ _ => by rw [up2_row (by decide), up2_row (by decide)])⟩, fun q a _ _ => by rw [up2_row a, up2_row a], fun j hj => by rw [up2_n (Or.inr (by omega)), up2_n (Or.inr (by omega))]⟩
  · rw [up2_n (Or.inr (by decide)), up2_n (Or.inr (by decide))]; exact h1
  · rw [up2_n (Or.inr (by decide)), up2_s]
theorem in_w {es : ES} {s : Nat} (ht : topN es = false) : 1 ∈ lvW s ++ wOf es ↔ es ≠ [] := by
  have l0 : ¬ 1 ∈ lvW s := by
    unfold lvW
    split
    · simp
    · split
      · simp
      · split
        · simp
        · simp
  cases es with
  | nil =>
    constructor
    · intro h
      rcases List.mem_append.mp h with z | z
      · exact absurd z l0
      · cases z
    · intro h
      exact absurd rfl h
  | cons x rs =>
    have hx : x.1 = false := ht
    refine ⟨fun _ z => (by cases z), fun _ => List.mem_append.mpr (Or.inr ?_)⟩
    show 1 ∈ (if x.1 = true then 23 else 1) :: (lvW x.2.2.2 ++ wOf rs)
    rw [hx, if_neg (by decide)]
    exact List.mem_cons_self
theorem m_closes {Q : TI → TL → Prop} {q : QS} {h9 : Nat → Bool} {es : ES} {s : Nat} {cs : List Nat} (hc : txV c ln) (h2 : ln ≤ 200) (h : TR I L c ln S) (v : PX c ln S) (y : PY S) (e0 : er S = 0) (hd : CQ9 C r N I S q h9 es s cs)
    (k : ∀ J M Sd e f h es2 s2 cs2, clL c ln 7 S (enQ q h9) = (Sd, (mpE es2, e, fun k => f k && h k)) → rI I J → tL L M → TR J M c ln Sd → PX c ln Sd → PY Sd → er Sd = 0 → ts S ≤ ts Sd → AQ C r N J Sd e f h es2 s2 cs2 → Q J M) : W_X9_closes I L Q := by
  obtain ⟨d1, d2, d3, d4, d5, d6, d7⟩ := hd
  have l1 := ts_le v
  unfold W_X9_closes
  obtain ⟨es2, s2, y1, y2, y3, y4⟩ := settle3 es s q.2.1 q.2.2 h9 cs d2 d3 d7
  refine m_settles (lo := 3) rfl (by omega) d4 (by omega) (c23_lw s es) (by omega) h v.1 e0 (fun I1 w1 q1 => ?_)
  have len1 := st_len 3 (lvW s ++ wOf es) cs
  rw [y1, y2] at q1
  rw [y1] at len1
  have el2 : es2.length ≤ es.length := by
    have a1 := enK_le (mpE es)
    rw [← y3, mpE_len, mpE_len] at a1
    exact a1
  have eq9 : enQ q h9 = (mpE es2, q.2.1, fun k => q.2.2 k && enH (mpE es) h9 k) := by
    unfold enQ
    rw [d1, y3]
  rw [eq9] at k
  generalize hR : clL c ln 7 S (mpE es2, q.2.1, fun k => q.2.2 k && enH (mpE es) h9 k) = R at k
  generalize stC 3 (lvW s ++ wOf es) cs = cs1 at *
  generalize enH (mpE es) h9 = h1 at *
  refine lp2 (fun n i l => L_X9_closes_5 Q n i l) (fun i l => ∃ n S2 e f h es3 s3 cs3, es3.length < n ∧ rI I i ∧ tL L l ∧ TR i l c ln S2 ∧ PX c ln S2 ∧ PY S2 ∧ er S2 = 0 ∧ ts S ≤ ts S2 ∧ AQ C r N i S2 e f h es3 s3 cs3 ∧ clL c ln n S2 (mpE es3, e, fun k => f k && h k) = R) (fun i _ => (i 436 42).toNatClampNeg) ?_ _ _ ⟨7, S, q.2.1, q.2.2, h1, es2, s2, cs1, by omega, w1.r, tL.rf L, w1.t h, v, y, e0, Nat.le_refl _, ⟨y4, q1, by omega, by omega⟩, hR⟩
  rintro z i l ⟨n, S2, e, f, hh, es3, s3, cs3, hn, oi, ol, ti, vi, yi, ei, tsi, ai, eR⟩ ih
  obtain ⟨af, rq, ho, hl⟩ := id ai
  obtain ⟨m, rfl⟩ : ∃ m, n = m + 1 := ⟨n - 1, by omega⟩
  have l2 := ts_le vi
  have o42 : i 436 42 = nI es3.length := rq.2.2.1
  have done : (S2, (mpE es3, e, fun k => f k && hh k)) = R → Q i l := fun z2 => k i l S2 e f hh es3 s3 cs3 z2.symm oi ol ti vi yi ei tsi ai
  show D_X9_closes_5 Q (fun I L => L_X9_closes_5 Q z I L) i l
  unfold D_X9_closes_5
  refine m_isByte (b := 41) rfl (by omega) hc ti vi.1 (fun s1 => ⟨fun z2 => absurd z2 (by decide), fun _ => ?_⟩) (fun s1 => ⟨fun _ => ?_, fun z2 => absurd rfl z2⟩)
  · refine m_isInside rq (by omega) (fun h1 => ⟨fun z2 => absurd z2 (by decide), fun _ => ?_⟩) (fun h1 => ⟨fun _ => ?_, fun z2 => absurd rfl z2⟩)
    · cases es3 with
      | nil => exact absurd rfl ((in_w af.1).mp h1)
      | cons x rs =>
        have hx : x.1 = false := af.1
        have ho : rs.length + 1 ≤ 6 := ho
        have hn : rs.length + 1 < m + 1 := hn
        have tk0 : tk S2 ≠ 0 := by rw [sgB_tk s1]; decide
        have at1 := adv_ts vi ei yi tk0
        obtain ⟨f1, f2, f3⟩ := settle1 af
        obtain ⟨-, g2, g3⟩ := af.2.2.1
        have ew : wOf (x :: rs) = 1 :: (lvW x.2.2.2 ++ wOf rs) := by
          show (if x.1 = true then 23 else 1) :: _ = _
          rw [hx, if_neg (by decide)]
        refine m_settles (lo := 1) rfl (by omega) rq (by omega) (c23_lw s3 _) (by show rs.length + 1 < 1000; omega) ti vi.1 ei (fun I1 w1 q1 => ?_)
        have len2 := st_len 1 (lvW s3 ++ wOf (x :: rs)) cs3
        obtain ⟨ck, hck⟩ : ∃ ck, ck = stC 1 (lvW s3 ++ wOf (x :: rs)) cs3 := ⟨_, rfl⟩
        rw [← hck] at q1 len2 f3
        rw [f1, f2, ew] at q1
        rw [f1] at len2
        have lw : (wOf (x :: rs)).length = (lvW x.2.2.2 ++ wOf rs).length + 1 := by rw [ew]; rfl
        obtain ⟨q2, w2⟩ := RQ.w (o := rs.length) q1
        rintro _ rfl
        refine m_next hc ((w1.tr w2).t ti) vi.1 ei (fun I3 M3 a3 b3 t3 => ?_)
        have ev : ∀ k, k < N → evl C r k ck = some (b2 (e k || (f k && hh k)) :: (lvV x.2.2.2 x.2.1 x.2.2.1 k ++ vOf k rs)) := f3
        obtain ⟨es4, s4, c1, c2, c3, c4⟩ := settle3 rs x.2.2.2 x.2.1 x.2.2.1 (fun k => e k || (f k && hh k)) _ g2 g3 ev
        have eA : er (advF c ln S2) = 0 := by rw [advF_e]; exact ei
        refine m_settles (lo := 3) rfl (by omega) (q2.f a3.f) (by omega) (c23_lw _ _) (by omega) t3 vi.adv.1 eA (fun I4 w4 q4 => ?_)
        have len3 := st_len 3 (lvW x.2.2.2 ++ wOf rs) ck
        rw [c1, c2] at q4
        rw [c1] at len3
        have el4 : es4.length ≤ rs.length := by
          have a1 := enK_le (mpE rs)
          rw [← c3, mpE_len, mpE_len] at a1
          exact a1
        have eR2 : clL c ln m (advF c ln S2) (clP (x.1, x.2.1, x.2.2.1) (mpE rs) e (fun k => f k && hh k)) = R := by
          have eR : clL c ln (m + 1) S2 ((x.1, x.2.1, x.2.2.1) :: mpE rs, e, fun k => f k && hh k) = R := eR
          rw [clL_s, if_pos s1] at eR
          exact eR
        have eq4 : clP (x.1, x.2.1, x.2.2.1) (mpE rs) e (fun k => f k && hh k) = (mpE es4, x.2.1, fun k => x.2.2.1 k && enH (mpE rs) (fun k => e k || (f k && hh k)) k) := by
          unfold clP enQ
          rw [c3]
        rw [eq4] at eR2
        refine ih _ _ ⟨m, _, _, _, _, es4, s4, _, by omega, ((oi.tr w1.r).tr w2.r).tr (a3.f.r.tr w4.r), ol.tr b3, w4.t t3, vi.adv, yi.adv, eA, by omega, ⟨c4, q4, by omega, by omega⟩, eR2⟩ ?_
        have j42 : I4 436 42 = nI es4.length := q4.2.2.1
        have o42 : i 436 42 = nI (rs.length + 1) := o42
        rw [j42, o42, nI_clamp (by omega), nI_clamp (by omega)]
        omega
    · cases es3 with
      | nil => exact done eR
      | cons x rs => exact absurd ((in_w af.1).mpr (by simp)) h1
  · refine done ?_
    cases es3 with
    | nil => exact eR
    | cons x rs =>
      have eR : clL c ln (m + 1) S2 ((x.1, x.2.1, x.2.2.1) :: mpE rs, e, fun k => f k && hh k) = R := eR
      rw [clL_s, if_neg (by rw [s1]; decide)] at eR
      exact eR
end RQ2
