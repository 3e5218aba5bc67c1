/-! the class reads a query: what is open, the whole test -/
section CQ2
variable {I J : TI} {L M : TL} {b d B N : Nat} {X : XT} {c : Nat → Nat} {ln : Nat} {S : PS}
abbrev FT : Type := List (Bool × (Nat → Bool) × (Nat → Bool))
abbrev QS : Type := FT × (Nat → Bool) × (Nat → Bool)
def FR (I : TI) (N : Nat) : FT → Prop
  | [] => True
  | x :: r => (I 347 r.length = bi x.1 ∧ I 348 r.length = mk N x.2.1 ∧ I 349 r.length = mk N x.2.2) ∧ FR I N r
theorem fr_FR : ∀ s : FT, FR I N s → (∀ i, i < s.length → J 347 i = I 347 i ∧ J 348 i = I 348 i ∧ J 349 i = I 349 i) → FR J N s
  | [], _, _ => trivial
  | x :: r, h, e => by
    obtain ⟨⟨h1, h2, h3⟩, h4⟩ := h
    obtain ⟨e1, e2, e3⟩ := e r.length (Nat.lt_succ_self _)
    exact ⟨⟨by rw [e1]; exact h1, by rw [e2]; exact h2, by rw [e3]; exact h3⟩, fr_FR r h4 (fun i hi => e i (Nat.lt_succ_of_lt hi))⟩
def TQ (I : TI) (N : Nat) (q : QS) : Prop := I 346 3 = nI q.1.length ∧ I 346 4 = mk N (fun _ => true) ∧ I 346 5 = mk N q.2.1 ∧ I 346 6 = mk N q.2.2 ∧ FR I N q.1 ∧ q.1.length ≤ 6
theorem TQ.tk {q : QS} (h : TQ I N q) (e : ∀ z, z ≠ 344 → J z = I z) : TQ J N q := by
  obtain ⟨h1, h2, h3, h4, h5, h6⟩ := h
  have e6 := e 346 (by decide)
  exact ⟨by rw [e6]; exact h1, by rw [e6]; exact h2, by rw [e6]; exact h3, by rw [e6]; exact h4, fr_FR _ h5 (fun i _ => ⟨by rw [e 347 (by decide)], by rw [e 348 (by decide)], by rw [e 349 (by decide)]⟩), h6⟩
theorem bi_a1 (g : Bool) : bi g &&& 1 = bi g := by cases g <;> decide
def opP (g : Bool) (q : QS) : QS := if g = true then ((true, q.2.1, q.2.2) :: q.1, q.2.1, q.2.2) else ((false, q.2.1, q.2.2) :: q.1, (fun _ => false), (fun _ => true))
def opL (c : Nat → Nat) (ln : Nat) : Nat → PS → QS → PS × QS
  | 0, S, q => (S, q)
  | n + 1, S, q => if (wdB c S 10631 || sgB c 40 S) = true then (if q.1.length < 6 then opL c ln n (advF c ln S) (opP (wdB c S 10631) q) else opL c ln n (failF 3 S) q) else (S, q)
theorem opL_s {n : Nat} {q : QS} : opL c ln (n + 1) S q = if (wdB c S 10631 || sgB c 40 S) = true then (if q.1.length < 6 then opL c ln n (advF c ln S) (opP (wdB c S 10631) q) else opL c ln n (failF 3 S) q) else (S, q) := rfl
theorem c_open {Q : TI → Prop} {q : QS} (hc : txV c ln) (h : TC I c ln S) (v : PX c ln S) (hq : TQ I N q) (k : ∀ J, qO I J → TC J c ln (opL c ln 7 S q).1 → PX c ln (opL c ln 7 S q).1 → TQ J N (opL c ln 7 S q).2 → Q J) : W_X5_openFactors I L 350 Q := by
  generalize hR : opL c ln 7 S q = R at k
  unfold W_X5_openFactors
  have main : ∀ v2, v2 = bi (wdB c S 10631) → ∃ n, L_X5_openFactors_9 L 350 Q n v2 0 I := by
    rintro _ rfl
    refine lp3 (fun n u w i => L_X5_openFactors_9 L 350 Q n u w i) (fun u w i => ∃ j S2 q2, w = nI j ∧ j ≤ 7 ∧ u = bi (wdB c S2 10631) ∧ qO I i ∧ TC i c ln S2 ∧ PX c ln S2 ∧ TQ i N q2 ∧ opL c ln (7 - j) S2 q2 = R) (fun _ w _ => 8 - w.toNatClampNeg) ?_ _ _ _ ⟨0, S, q, rfl, by omega, rfl, qO.rf I, h, v, hq, hR⟩
    rintro n u w i ⟨j, S2, q2, rfl, j1, rfl, oi, ti, vi, qi, e⟩ ih
    have done : (S2, q2) = R → Q i := by
      rintro rfl
      exact k i oi ti vi qi
    show D_X5_openFactors_9 L 350 Q (fun v2 v3 I => L_X5_openFactors_9 L 350 Q n v2 v3 I) _ _ i
    unfold D_X5_openFactors_9
    refine pk_lt 6 j (fun z => ?_) (fun z => ?_) rfl rfl (by omega) (by omega)
    · have : j = 7 := by omega
      subst this
      exact done e
    · obtain ⟨m, hm⟩ : ∃ m, 7 - j = m + 1 := ⟨6 - j, by omega⟩
      rw [hm, opL_s] at e
      have nx : ∀ i4 S4 q4, qO I i4 → TC i4 c ln S4 → PX c ln S4 → TQ i4 N q4 → opL c ln m S4 q4 = R → B_X5_openFactors_103 (nI j) i4 L 350 Q (fun v2 v3 I => L_X5_openFactors_9 L 350 Q n v2 v3 I) := by
        intro i4 S4 q4 o4 t4 v4 tq e4
        unfold B_X5_openFactors_103
        rw [nI_1]
        refine c_isWord w_not rfl hc t4 v4 (fun y => ih _ _ _ ⟨j + 1, S4, q4, rfl, by omega, by rw [y]; rfl, o4, t4, v4, tq, by rw [show 7 - (j + 1) = m by omega]; exact e4⟩ ?_) (fun y => ih _ _ _ ⟨j + 1, S4, q4, rfl, by omega, by rw [y]; rfl, o4, t4, v4, tq, by rw [show 7 - (j + 1) = m by omega]; exact e4⟩ ?_)
        · rw [nI_clamp (by omega), nI_clamp (by omega)]; omega
        · rw [nI_clamp (by omega), nI_clamp (by omega)]; omega
      have body : (wdB c S2 10631 || sgB c 40 S2) = true → B_X5_openFactors_28 (bi (wdB c S2 10631)) (nI j) i L 350 Q (fun v2 v3 I => L_X5_openFactors_9 L 350 Q n v2 v3 I) := by
        intro y
        rw [if_pos y] at e
        obtain ⟨q3, q4, q5, q6, q7, q8⟩ := id qi
        unfold B_X5_openFactors_28
        refine pk_lt q2.1.length 6 (fun z2 => ?_) (fun z2 => ?_) q3 rfl (by omega) (by omega)
        · rw [if_pos z2] at e
          refine ⟨pk_in _ 6 z2 q3, ?_⟩
          have f3 : ∀ x, (up2 i 347 q2.1.length x) 346 3 = nI q2.1.length := fun x => by rw [up2_row (by decide)]; exact q3
          have f5 : ∀ x, (up2 i 347 q2.1.length x) 346 5 = mk N q2.2.1 := fun x => by rw [up2_row (by decide)]; exact q5
          rw [pk_cl _ q3 (by omega), bi_a1, f3, f5, pk_cl _ rfl (by omega)]
          refine ⟨pk_in _ 6 z2 rfl, ?_⟩
          rintro _ rfl
          have g3 : (up2 (up2 i 347 q2.1.length (bi (wdB c S2 10631))) 348 q2.1.length (mk N q2.2.1)) 346 3 = nI q2.1.length := by rw [up2_row (by decide)]; exact f3 _
          have g6 : (up2 (up2 i 347 q2.1.length (bi (wdB c S2 10631))) 348 q2.1.length (mk N q2.2.1)) 346 6 = mk N q2.2.2 := by rw [up2_row (by decide), up2_row (by decide)]; exact q6
          rw [g3, g6, pk_cl _ rfl (by omega)]
          refine ⟨pk_in _ 6 z2 rfl, ?_⟩
          rintro _ rfl
          have h3 : (up2 (up2 (up2 i 347 q2.1.length (bi (wdB c S2 10631))) 348 q2.1.length (mk N q2.2.1)) 349 q2.1.length (mk N q2.2.2)) 346 3 = nI q2.1.length := by rw [up2_row (by decide)]; exact g3
          rw [h3, nI_1]
          generalize wdB c S2 10631 = g at *
          have r0 : ∀ z, z ≠ 346 → z ≠ 347 → z ≠ 348 → z ≠ 349 → (up2 (up2 (up2 (up2 i 347 q2.1.length (bi g)) 348 q2.1.length (mk N q2.2.1)) 349 q2.1.length (mk N q2.2.2)) 346 3 (nI (q2.1.length + 1))) z = i z := fun z y1 y2 y3 y4 => by rw [up2_row y1, up2_row y4, up2_row y3, up2_row y2]
          have r6 : ∀ z, z ≠ 3 → (up2 (up2 (up2 (up2 i 347 q2.1.length (bi g)) 348 q2.1.length (mk N q2.2.1)) 349 q2.1.length (mk N q2.2.2)) 346 3 (nI (q2.1.length + 1))) 346 z = i 346 z := fun z y1 => by rw [up2_n (Or.inr y1), up2_row (by decide), up2_row (by decide), up2_row (by decide)]
          have r3 : (up2 (up2 (up2 (up2 i 347 q2.1.length (bi g)) 348 q2.1.length (mk N q2.2.1)) 349 q2.1.length (mk N q2.2.2)) 346 3 (nI (q2.1.length + 1))) 346 3 = nI (q2.1.length + 1) := up2_s
          have r7 : ∀ z, (up2 (up2 (up2 (up2 i 347 q2.1.length (bi g)) 348 q2.1.length (mk N q2.2.1)) 349 q2.1.length (mk N q2.2.2)) 346 3 (nI (q2.1.length + 1))) 347 z = if z = q2.1.length then bi g else i 347 z := fun z => by rw [up2_row (by decide), up2_row (by decide), up2_row (by decide), up2_at]
          have r8 : ∀ z, (up2 (up2 (up2 (up2 i 347 q2.1.length (bi g)) 348 q2.1.length (mk N q2.2.1)) 349 q2.1.length (mk N q2.2.2)) 346 3 (nI (q2.1.length + 1))) 348 z = if z = q2.1.length then mk N q2.2.1 else i 348 z := fun z => by rw [up2_row (by decide), up2_row (by decide), up2_at, up2_row (by decide)]
          have r9 : ∀ z, (up2 (up2 (up2 (up2 i 347 q2.1.length (bi g)) 348 q2.1.length (mk N q2.2.1)) 349 q2.1.length (mk N q2.2.2)) 346 3 (nI (q2.1.length + 1))) 349 z = if z = q2.1.length then mk N q2.2.2 else i 349 z := fun z => by rw [up2_row (by decide), up2_at, up2_row (by decide), up2_row (by decide)]
          generalize up2 (up2 (up2 (up2 i 347 q2.1.length (bi g)) 348 q2.1.length (mk N q2.2.1)) 349 q2.1.length (mk N q2.2.2)) 346 3 (nI (q2.1.length + 1)) = i3 at r0 r6 r3 r7 r8 r9
          have o3 : qO I i3 := fun z y1 y2 => by rw [r0 z (by omega) (by omega) (by omega) (by omega)]; exact oi z y1 y2
          have t3 : TC i3 c ln S2 := ti.fr (r0 344 (by decide) (by decide) (by decide) (by decide)) (r0 350 (by decide) (by decide) (by decide) (by decide))
          have fr3 : FR i3 N ((g, q2.2.1, q2.2.2) :: q2.1) := ⟨⟨by rw [r7, if_pos rfl], by rw [r8, if_pos rfl], by rw [r9, if_pos rfl]⟩, fr_FR _ q7 (fun z hz => ⟨by rw [r7, if_neg (by omega)], by rw [r8, if_neg (by omega)], by rw [r9, if_neg (by omega)]⟩)⟩
          have adv : ∀ i4 q4, qO I i4 → TC i4 c ln S2 → TQ i4 N q4 → opP g q2 = q4 → B_X5_openFactors_99 (nI j) i4 L 350 Q (fun v2 v3 I => L_X5_openFactors_9 L 350 Q n v2 v3 I) := by
            intro i4 q4 o4 t4 tq4 e4
            unfold B_X5_openFactors_99
            refine c_adv hc t4 vi.1 (fun J5 a5 t5 => nx J5 _ q4 (o4.tr (qO.tk a5)) t5 vi.adv (tq4.tk a5) ?_)
            rw [← e4]
            exact e
          cases g with
          | true =>
            refine ⟨fun _ => adv i3 ((true, q2.2.1, q2.2.2) :: q2.1, q2.2.1, q2.2.2) o3 t3 ⟨r3, by rw [r6 4 (by decide)]; exact q4, by rw [r6 5 (by decide)]; exact q5, by rw [r6 6 (by decide)]; exact q6, fr3, z2⟩ rfl, fun y2 => absurd y2 (by decide)⟩
          | false =>
            refine ⟨fun y2 => absurd rfl y2, fun _ => ?_⟩
            unfold W_X5_beginTest
            have s4 : (up2 i3 346 5 0) 346 4 = mk N (fun _ => true) := by rw [up2_n (Or.inr (by decide)), r6 4 (by decide)]; exact q4
            rw [s4]
            refine adv _ ((false, q2.2.1, q2.2.2) :: q2.1, (fun _ => false), (fun _ => true)) ((o3.up (by omega) (by omega)).up (by omega) (by omega)) (t3.fr (by rw [up2_row (by decide), up2_row (by decide)]) (by rw [up2_row (by decide), up2_row (by decide)])) ⟨?_, ?_, ?_, up2_s, fr_FR _ fr3 (fun z _ => ⟨by rw [up2_row (by decide), up2_row (by decide)], by rw [up2_row (by decide), up2_row (by decide)], by rw [up2_row (by decide), up2_row (by decide)]⟩), z2⟩ rfl
            · rw [up2_n (Or.inr (by decide)), up2_n (Or.inr (by decide))]; exact r3
            · rw [up2_n (Or.inr (by decide)), up2_n (Or.inr (by decide)), r6 4 (by decide)]; exact q4
            · rw [up2_n (Or.inr (by decide)), up2_s, mk_none]
        · rw [if_neg (by omega)] at e
          exact c_fail (code := 3) ti vi.1 rfl (fun J2 a2 t2 => nx J2 _ q2 (oi.tr (qO.tk a2)) t2 (vi.fail (by omega)) (qi.tk a2) e)
      refine ⟨fun y => body ?_, fun y => c_isSign (b := 40) rfl (by omega) hc ti vi.1 (fun s1 => ⟨fun y2 => absurd y2 (by decide), fun _ => body (by rw [s1, Bool.or_true])⟩) (fun s1 => ⟨fun _ => done ?_, fun y2 => absurd rfl y2⟩)⟩
      · have : wdB c S2 10631 = true := by
          cases z3 : wdB c S2 10631 with
          | true => rfl
          | false => rw [z3] at y; exact absurd rfl y
        rw [this]; rfl
      · rw [bi_0.mp y, s1, if_neg (by decide)] at e
        exact e
  refine c_isWord w_not rfl hc h v (fun e => main 1 (by rw [e]; rfl)) (fun e => main 0 (by rw [e]; rfl))
def enK : FT → FT
  | [] => []
  | x :: r => if x.1 = true then enK r else x :: r
def enH : FT → (Nat → Bool) → Nat → Bool
  | [], h => h
  | x :: r, h => if x.1 = true then enH r (fun k => !h k) else h
theorem enK_s {x : Bool × (Nat → Bool) × (Nat → Bool)} {r : FT} : enK (x :: r) = if x.1 = true then enK r else x :: r := rfl
theorem enH_s {x : Bool × (Nat → Bool) × (Nat → Bool)} {r : FT} {h : Nat → Bool} : enH (x :: r) h = if x.1 = true then enH r (fun k => !h k) else h := rfl
theorem enK_le : ∀ s : FT, (enK s).length ≤ s.length
  | [] => Nat.le_refl _
  | x :: r => by
    have := enK_le r
    rw [enK_s]
    split
    · exact Nat.le_succ_of_le this
    · exact Nat.le_refl _
def enQ (q : QS) (h : Nat → Bool) : QS := (enK q.1, q.2.1, fun k => q.2.2 k && enH q.1 h k)
theorem c_end {Q : TI → Prop} {q : QS} {h : Nat → Bool} {x : Int32} (hN : N ≤ 16) (hx : x = mk N h) (hq : TQ I N q) (k : ∀ J, (∀ z, z ≠ 346 → J z = I z) → TQ J N (enQ q h) → Q J) : W_X5_endFactor x I L Q := by
  subst hx
  unfold enQ at k
  obtain ⟨s, e, f⟩ := q
  unfold W_X5_endFactor
  refine lp2 (fun n u i => L_X5_endFactor_2 L Q n u i) (fun u i => ∃ s2 h2, u = mk N h2 ∧ (∀ z, z ≠ 346 → i z = I z) ∧ TQ i N (s2, e, f) ∧ enK s2 = enK s ∧ enH s2 h2 = enH s h) (fun _ i => (i 346 3).toNatClampNeg) ?_ _ _ ⟨s, h, rfl, fun _ _ => rfl, hq, rfl, rfl⟩
  rintro n u i ⟨s2, h2, rfl, ei, qi, e1, e2⟩ ih
  obtain ⟨q3, q4, q5, q6, q7, q8⟩ := id qi
  replace q3 : i 346 3 = nI s2.length := q3
  replace q8 : s2.length ≤ 6 := q8
  show D_X5_endFactor_2 L Q (fun v2 I => L_X5_endFactor_2 L Q n v2 I) _ i
  have done : enK s2 = s2 → enH s2 h2 = h2 → B_X5_endFactor_45 (mk N h2) i L Q := by
    intro y1 y2
    unfold B_X5_endFactor_45
    replace q6 : i 346 6 = mk N f := q6
    rw [q6, mk_and]
    refine k _ (fun z hz => by rw [up2_row hz]; exact ei z hz) ⟨?_, ?_, ?_, ?_, ?_, ?_⟩
    · rw [up2_n (Or.inr (by decide)), ← e1, y1]; exact q3
    · rw [up2_n (Or.inr (by decide))]; exact q4
    · rw [up2_n (Or.inr (by decide))]; exact q5
    · rw [up2_s, ← e2, y2]
    · rw [← e1, y1]
      exact fr_FR _ q7 (fun z _ => ⟨by rw [up2_row (by decide)], by rw [up2_row (by decide)], by rw [up2_row (by decide)]⟩)
    · rw [← e1, y1]; exact q8
  unfold D_X5_endFactor_2
  cases s2 with
  | nil =>
    refine pk_le 0 0 (fun _ => done rfl rfl) (fun z => absurd z (by omega)) q3 rfl (by omega) (by omega)
  | cons x r =>
    have q8 : r.length + 1 ≤ 6 := q8
    have q3 : i 346 3 = nI (r.length + 1) := q3
    obtain ⟨⟨y7, -, -⟩, yr⟩ := id q7
    have em : i 346 3 - 1 = nI r.length := by rw [q3]; exact nI_pred _
    rw [em, pk_cl r.length rfl (by omega), y7]
    refine pk_le (r.length + 1) 0 (fun z => absurd z (by omega)) (fun _ => ⟨pk_in _ 6 (by omega) rfl, fun z => ?_, fun z => ?_⟩) q3 rfl (by omega) (by omega)
    · have xf : x.1 = false := bi_0.mp z
      refine done ?_ ?_
      · rw [enK_s, if_neg (by rw [xf]; decide)]
      · rw [enH_s, if_neg (by rw [xf]; decide)]
    · have xt : x.1 = true := by
        cases z3 : x.1 with
        | true => rfl
        | false => rw [z3] at z; exact absurd rfl z
      replace q4 : i 346 4 = mk N (fun _ => true) := q4
      rw [q4, mk_not hN]
      rintro _ rfl
      rw [enK_s, if_pos xt] at e1
      rw [enH_s, if_pos xt] at e2
      refine ih _ _ ⟨r, _, rfl, fun z2 hz => by rw [up2_row hz]; exact ei z2 hz, ⟨up2_s, ?_, ?_, ?_, ?_, ?_⟩, e1, e2⟩ ?_
      · rw [up2_n (Or.inr (by decide))]; exact q4
      · rw [up2_n (Or.inr (by decide))]; exact q5
      · rw [up2_n (Or.inr (by decide))]; exact q6
      · exact fr_FR _ yr (fun z _ => ⟨by rw [up2_row (by decide)], by rw [up2_row (by decide)], by rw [up2_row (by decide)]⟩)
      · show r.length ≤ 6; omega
      · rw [up2_s, q3, nI_clamp (by omega), nI_clamp (by omega)]; omega
def clP (x : Bool × (Nat → Bool) × (Nat → Bool)) (r : FT) (e f : Nat → Bool) : QS := enQ (r, x.2.1, x.2.2) (fun k => e k || f k)
def clL (c : Nat → Nat) (ln : Nat) : Nat → PS → QS → PS × QS
  | 0, S, q => (S, q)
  | _ + 1, S, ([], e, f) => (S, ([], e, f))
  | n + 1, S, (x :: r, e, f) => if sgB c 41 S = true then clL c ln n (advF c ln S) (clP x r e f) else (S, (x :: r, e, f))
theorem clL_0 {n : Nat} {e f : Nat → Bool} : clL c ln (n + 1) S ([], e, f) = (S, ([], e, f)) := rfl
theorem clL_s {n : Nat} {e f : Nat → Bool} {x : Bool × (Nat → Bool) × (Nat → Bool)} {r : FT} : clL c ln (n + 1) S (x :: r, e, f) = if sgB c 41 S = true then clL c ln n (advF c ln S) (clP x r e f) else (S, (x :: r, e, f)) := rfl
theorem c_close {Q : TI → Prop} {q : QS} (hN : N ≤ 16) (hc : txV c ln) (h : TC I c ln S) (v : PX c ln S) (hq : TQ I N q) (k : ∀ J, qO I J → TC J c ln (clL c ln 7 S q).1 → PX c ln (clL c ln 7 S q).1 → TQ J N (clL c ln 7 S q).2 → Q J) : W_X5_closeParentheses I L 350 Q := by
  generalize hR : clL c ln 7 S q = R at k
  unfold W_X5_closeParentheses
  refine lp1 (fun n i => L_X5_closeParentheses_0 L 350 Q n i) (fun i => ∃ n S2 s e f, s.length < n ∧ qO I i ∧ TC i c ln S2 ∧ PX c ln S2 ∧ TQ i N (s, e, f) ∧ clL c ln n S2 (s, e, f) = R) (fun i => (i 346 3).toNatClampNeg) ?_ _ ⟨7, S, q.1, q.2.1, q.2.2, Nat.lt_succ_of_le hq.2.2.2.2.2, qO.rf I, h, v, hq, hR⟩
  rintro n i ⟨n2, S2, s, e, f, hn2, oi, ti, vi, qi, eR⟩ ih
  obtain ⟨m, rfl⟩ : ∃ m, n2 = m + 1 := ⟨n2 - 1, by omega⟩
  obtain ⟨q3, q4, q5, q6, q7, q8⟩ := id qi
  replace q3 : i 346 3 = nI s.length := q3
  replace q8 : s.length ≤ 6 := q8
  have done : (S2, (s, e, f)) = R → Q i := by
    rintro rfl
    exact k i oi ti vi qi
  show D_X5_closeParentheses_0 L 350 Q (fun I => L_X5_closeParentheses_0 L 350 Q n I) i
  unfold D_X5_closeParentheses_0
  cases s with
  | nil =>
    refine pk_le 0 0 (fun _ => done eR) (fun z => absurd z (by omega)) q3 rfl (by omega) (by omega)
  | cons x r =>
    have q8 : r.length + 1 ≤ 6 := q8
    have q3 : i 346 3 = nI (r.length + 1) := q3
    have hn2 : r.length + 1 < m + 1 := hn2
    obtain ⟨⟨y7, y8, y9⟩, yr⟩ := id q7
    rw [clL_s] at eR
    refine pk_le (r.length + 1) 0 (fun z => absurd z (by omega)) (fun _ => ?_) q3 rfl (by omega) (by omega)
    refine c_isSign (b := 41) rfl (by omega) hc ti vi.1 (fun s1 => ⟨fun z => absurd z (by decide), fun _ => ?_⟩) (fun s1 => ⟨fun _ => done (by rw [if_neg (by rw [s1]; decide)] at eR; exact eR), fun z => absurd rfl z⟩)
    rw [if_pos s1] at eR
    have em : i 346 3 - 1 = nI r.length := by rw [q3]; exact nI_pred _
    have f3 : (up2 i 346 3 (nI r.length)) 346 3 = nI r.length := up2_s
    have f8 : (up2 i 346 3 (nI r.length)) 348 r.length = mk N x.2.1 := by rw [up2_row (by decide)]; exact y8
    replace q5 : i 346 5 = mk N e := q5
    replace q6 : i 346 6 = mk N f := q6
    rw [em, f3, pk_cl r.length rfl (by omega), f8, q5, q6, mk_or]
    refine ⟨pk_in _ 6 (by omega) rfl, ?_⟩
    rintro _ rfl
    have g3 : (up2 (up2 i 346 3 (nI r.length)) 346 5 (mk N x.2.1)) 346 3 = nI r.length := by rw [up2_n (Or.inr (by decide))]; exact f3
    have g9 : (up2 (up2 i 346 3 (nI r.length)) 346 5 (mk N x.2.1)) 349 r.length = mk N x.2.2 := by rw [up2_row (by decide), up2_row (by decide)]; exact y9
    rw [g3, pk_cl r.length rfl (by omega), g9]
    refine ⟨pk_in _ 6 (by omega) rfl, ?_⟩
    have tq : TQ (up2 (up2 (up2 i 346 3 (nI r.length)) 346 5 (mk N x.2.1)) 346 6 (mk N x.2.2)) N (r, x.2.1, x.2.2) := by
      refine ⟨?_, ?_, ?_, up2_s, fr_FR _ yr (fun z _ => ⟨by rw [up2_row (by decide), up2_row (by decide), up2_row (by decide)], by rw [up2_row (by decide), up2_row (by decide), up2_row (by decide)], by rw [up2_row (by decide), up2_row (by decide), up2_row (by decide)]⟩), by show r.length ≤ 6; omega⟩
      · rw [up2_n (Or.inr (by decide))]; exact g3
      · rw [up2_n (Or.inr (by decide)), up2_n (Or.inr (by decide)), up2_n (Or.inr (by decide))]; exact q4
      · rw [up2_n (Or.inr (by decide)), up2_s]
    have r0 : ∀ z, z ≠ 346 → (up2 (up2 (up2 i 346 3 (nI r.length)) 346 5 (mk N x.2.1)) 346 6 (mk N x.2.2)) z = i z := fun z y => by rw [up2_row y, up2_row y, up2_row y]
    generalize up2 (up2 (up2 i 346 3 (nI r.length)) 346 5 (mk N x.2.1)) 346 6 (mk N x.2.2) = i2 at tq r0
    refine c_end hN rfl tq (fun J3 a3 tq3 => ?_)
    have t3 : TC J3 c ln S2 := ti.fr (by rw [a3 344 (by decide), r0 344 (by decide)]) (by rw [a3 350 (by decide), r0 350 (by decide)])
    have o3 : qO I J3 := fun z y1 y2 => by rw [a3 z (by omega), r0 z (by omega)]; exact oi z y1 y2
    refine c_adv hc t3 vi.1 (fun J4 a4 t4 => ?_)
    have tq4 : TQ J4 N (clP x r e f) := tq3.tk a4
    have le := enK_le r
    have tl : (clP x r e f).1.length = (enK r).length := rfl
    refine ih _ ⟨m, _, (clP x r e f).1, (clP x r e f).2.1, (clP x r e f).2.2, by rw [tl]; omega, o3.tr (qO.tk a4), t4, vi.adv, tq4, eR⟩ ?_
    rw [tq4.1, q3, tl, nI_clamp (by omega), nI_clamp (by omega)]
    omega
def gnB (c : Nat → Nat) (S : PS) : Bool := wdB c S 1111 || wdB c S 423
def gnS (c : Nat → Nat) (ln : Nat) (S : PS) (q : QS) : PS := if gnB c S = true then advF c ln S else if q.1.length = 0 ∧ enB S = true then S else failF 1 S
def gnQ (c : Nat → Nat) (S : PS) (q : QS) : QS := if wdB c S 1111 = true then q else if wdB c S 423 = true then (q.1, (fun k => q.2.1 k || q.2.2 k), fun _ => true) else q
theorem px_gn {q : QS} (v : PX c ln S) : PX c ln (gnS c ln S q) := by
  unfold gnS
  split
  · exact v.adv
  · split
    · exact v
    · exact v.fail (by omega)
theorem c_goesOn {Q : Int32 → TI → Prop} {q : QS} (hc : txV c ln) (h : TC I c ln S) (v : PX c ln S) (hq : TQ I N q) (k : ∀ J, qO I J → TC J c ln (gnS c ln S q) → TQ J N (gnQ c S q) → Q (bi (gnB c S)) J) : W_X5_goesOn I L 350 Q := by
  obtain ⟨q3, q4, q5, q6, q7, q8⟩ := id hq
  unfold W_X5_goesOn
  refine c_isWord w_and rfl hc h v (fun e => ⟨fun _ => ?_, fun z => absurd z (by decide)⟩) (fun e => ⟨fun z => absurd rfl z, fun _ => ?_⟩)
  · have eB : gnB c S = true := by unfold gnB; rw [e]; rfl
    unfold B_X5_goesOn_20 B_X5_goesOn_45
    refine ⟨fun _ => c_adv hc h v.1 (fun J a t => ?_), fun z => absurd z (by decide)⟩
    have := k J (qO.tk a) (by unfold gnS; rw [if_pos eB]; exact t) (by unfold gnQ; rw [if_pos e]; exact hq.tk a)
    rw [eB] at this
    exact this
  refine c_isWord w_or rfl hc h v (fun e2 => ⟨fun z => absurd z (by decide), fun _ => ?_⟩) (fun e2 => ⟨fun _ => ?_, fun z => absurd rfl z⟩)
  · have eB : gnB c S = true := by unfold gnB; rw [e2, Bool.or_true]
    have eQ : gnQ c S q = (q.1, (fun k => q.2.1 k || q.2.2 k), fun _ => true) := by unfold gnQ; rw [if_neg (by rw [e]; decide), if_pos e2]
    unfold B_X5_goesOn_20 B_X5_goesOn_45
    refine ⟨fun z => absurd rfl z, fun _ => ?_⟩
    have f4 : ∀ x, (up2 I 346 5 x) 346 4 = mk N (fun _ => true) := fun x => by rw [up2_n (Or.inr (by decide))]; exact q4
    rw [f4, q5, q6, mk_or]
    rintro _ rfl
    have tq : TQ (up2 (up2 I 346 5 (mk N (fun k => q.2.1 k || q.2.2 k))) 346 6 (mk N (fun _ => true))) N (q.1, (fun k => q.2.1 k || q.2.2 k), fun _ => true) := by
      refine ⟨?_, ?_, ?_, up2_s, fr_FR _ q7 (fun z _ => ⟨by rw [up2_row (by decide), up2_row (by decide)], by rw [up2_row (by decide), up2_row (by decide)], by rw [up2_row (by decide), up2_row (by decide)]⟩), q8⟩
      · rw [up2_n (Or.inr (by decide)), up2_n (Or.inr (by decide))]; exact q3
      · rw [up2_n (Or.inr (by decide)), up2_n (Or.inr (by decide))]; exact q4
      · rw [up2_n (Or.inr (by decide)), up2_s]
    have o2 : qO I (up2 (up2 I 346 5 (mk N (fun k => q.2.1 k || q.2.2 k))) 346 6 (mk N (fun _ => true))) := ((qO.rf I).up (by omega) (by omega)).up (by omega) (by omega)
    have t2 : TC (up2 (up2 I 346 5 (mk N (fun k => q.2.1 k || q.2.2 k))) 346 6 (mk N (fun _ => true))) c ln S := h.fr (by rw [up2_row (by decide), up2_row (by decide)]) (by rw [up2_row (by decide), up2_row (by decide)])
    refine c_adv hc t2 v.1 (fun J a t => ?_)
    have := k J (o2.tr (qO.tk a)) (by unfold gnS; rw [if_pos eB]; exact t) (by rw [eQ]; exact tq.tk a)
    rw [eB] at this
    exact this
  · have eB : gnB c S = false := by unfold gnB; rw [e, e2]; rfl
    have eQ : gnQ c S q = q := by unfold gnQ; rw [if_neg (by rw [e]; decide), if_neg (by rw [e2]; decide)]
    have bad : ¬ (q.1.length = 0 ∧ enB S = true) → B_X5_goesOn_65 I L 350 Q := by
      intro z
      unfold B_X5_goesOn_65
      refine c_fail (code := 1) h v.1 rfl (fun J a t => ?_)
      have := k J (qO.tk a) (by unfold gnS; rw [if_neg (by rw [eB]; decide), if_neg z]; exact t) (by rw [eQ]; exact hq.tk a)
      rw [eB] at this
      exact this
    refine pk_lt 0 q.1.length (fun z => bad (fun y => by omega)) (fun z => ?_) rfl q3 (by omega) (by omega)
    refine c_isEnd h v.1 (fun y => ⟨fun _ => ?_, fun y2 => absurd y2 (by decide)⟩) (fun y => ⟨fun y2 => absurd rfl y2, fun _ => bad (fun y3 => by rw [y] at y3; exact absurd y3.2 (by decide))⟩)
    have := k I (qO.rf I) (by unfold gnS; rw [if_neg (by rw [eB]; decide), if_pos ⟨by omega, y⟩]; exact h) (by rw [eQ]; exact hq)
    rw [eB] at this
    exact this
/-- a factor with what closes behind it -/
def nqA (c : Nat → Nat) (ln : Nat) (S : PS) (q : QS) : PS × QS := opL c ln 7 S q
def nqD (C : CQ) (r : RW) (c : Nat → Nat) (ln : Nat) (S : PS) (q : QS) : PS × QS := clL c ln 7 (csC c ln (nqA c ln S q).1) (enQ (nqA c ln S q).2 (csH C r c ln (nqA c ln S q).1))
def nqS (C : CQ) (r : RW) (c : Nat → Nat) (ln : Nat) (S : PS) (q : QS) : PS := gnS c ln (nqD C r c ln S q).1 (nqD C r c ln S q).2
def nqQ (C : CQ) (r : RW) (c : Nat → Nat) (ln : Nat) (S : PS) (q : QS) : QS := gnQ c (nqD C r c ln S q).1 (nqD C r c ln S q).2
def nqL (C : CQ) (r : RW) (c : Nat → Nat) (ln : Nat) : Nat → PS → QS → PS × QS
  | 0, S, q => (S, q)
  | n + 1, S, q => if gnB c (nqD C r c ln S q).1 = true then nqL C r c ln n (nqS C r c ln S q) (nqQ C r c ln S q) else (nqS C r c ln S q, nqQ C r c ln S q)
theorem nqL_s {C : CQ} {r : RW} {n : Nat} {q : QS} : nqL C r c ln (n + 1) S q = if gnB c (nqD C r c ln S q).1 = true then nqL C r c ln n (nqS C r c ln S q) (nqQ C r c ln S q) else (nqS C r c ln S q, nqQ C r c ln S q) := rfl
def q0 : QS := ([], (fun _ => false), (fun _ => true))
theorem c_netsOf {Q : Int32 → TI → Prop} (hI : INV I L b d X B) (hc : txV c ln) (h : TC I c ln S) (v : PX c ln S) (k : ∀ J, qO I J → TC J c ln (nqL (xC X) (xr X) c ln 201 S q0).1 → PX c ln (nqL (xC X) (xr X) c ln 201 S q0).1 → Q (mk (cI (xC X) + cG (xC X)) (fun k => (nqL (xC X) (xr X) c ln 201 S q0).2.2.1 k || (nqL (xC X) (xr X) c ln 201 S q0).2.2.2 k)) J) : W_X5_netsOf b I L 350 Q := by
  have nb := hI.nb
  have hN : cI (xC X) + cG (xC X) ≤ 16 := by omega
  generalize hR : nqL (xC X) (xr X) c ln 201 S q0 = R at k
  unfold W_X5_netsOf
  refine s_nets2 hI.bc.1 ?_
  rw [mk_all hN]
  rintro _ rfl
  unfold W_X5_beginTest
  have f4 : (up2 (up2 (up2 I 346 4 (mk (cI (xC X) + cG (xC X)) (fun _ => true))) 346 3 0) 346 5 0) 346 4 = mk (cI (xC X) + cG (xC X)) (fun _ => true) := by rw [up2_n (Or.inr (by decide)), up2_n (Or.inr (by decide)), up2_s]
  rw [f4]
  have tq : TQ (up2 (up2 (up2 (up2 I 346 4 (mk (cI (xC X) + cG (xC X)) (fun _ => true))) 346 3 0) 346 5 0) 346 6 (mk (cI (xC X) + cG (xC X)) (fun _ => true))) (cI (xC X) + cG (xC X)) q0 := by
    refine ⟨?_, ?_, ?_, up2_s, trivial, Nat.zero_le _⟩
    · rw [up2_n (Or.inr (by decide)), up2_n (Or.inr (by decide)), up2_s]; rfl
    · rw [up2_n (Or.inr (by decide))]; exact f4
    · rw [up2_n (Or.inr (by decide)), up2_s]; exact (mk_none _).symm
  have oi : qO I (up2 (up2 (up2 (up2 I 346 4 (mk (cI (xC X) + cG (xC X)) (fun _ => true))) 346 3 0) 346 5 0) 346 6 (mk (cI (xC X) + cG (xC X)) (fun _ => true))) := ((((qO.rf I).up (by omega) (by omega)).up (by omega) (by omega)).up (by omega) (by omega)).up (by omega) (by omega)
  have ti : TC (up2 (up2 (up2 (up2 I 346 4 (mk (cI (xC X) + cG (xC X)) (fun _ => true))) 346 3 0) 346 5 0) 346 6 (mk (cI (xC X) + cG (xC X)) (fun _ => true))) c ln S := h.fr (by rw [up2_row (by decide), up2_row (by decide), up2_row (by decide), up2_row (by decide)]) (by rw [up2_row (by decide), up2_row (by decide), up2_row (by decide), up2_row (by decide)])
  generalize up2 (up2 (up2 (up2 I 346 4 (mk (cI (xC X) + cG (xC X)) (fun _ => true))) 346 3 0) 346 5 0) 346 6 (mk (cI (xC X) + cG (xC X)) (fun _ => true)) = I2 at tq oi ti
  refine lp3 (fun n u w i => L_X5_netsOf_29 b L 350 Q n u w i) (fun u w i => ∃ m j S2 q2, u = bi m ∧ w = nI j ∧ j ≤ 201 ∧ qO I i ∧ TC i c ln S2 ∧ PX c ln S2 ∧ TQ i (cI (xC X) + cG (xC X)) q2 ∧ (if m = true then nqL (xC X) (xr X) c ln (201 - j) S2 q2 else (S2, q2)) = R) (fun _ w _ => 202 - w.toNatClampNeg) ?_ _ _ _ ⟨true, 0, S, q0, rfl, rfl, by omega, oi, ti, v, tq, hR⟩
  rintro n u w i ⟨m, j, S2, q2, rfl, rfl, j1, o2, t2, v2, tq2, eR⟩ ih
  have done : (S2, q2) = R → B_X5_netsOf_73 b i L 350 Q := by
    rintro rfl
    unfold B_X5_netsOf_73
    have := k i o2 t2 v2
    rw [tq2.2.2.1, tq2.2.2.2.1, mk_or]
    exact this
  show D_X5_netsOf_29 b L 350 Q (fun v3 v4 I => L_X5_netsOf_29 b L 350 Q n v3 v4 I) _ _ i
  unfold D_X5_netsOf_29
  cases m with
  | false => exact ⟨fun _ => done eR, fun z => absurd rfl z⟩
  | true =>
    rw [if_pos rfl] at eR
    refine ⟨fun z => absurd z (by decide), fun _ => ?_⟩
    refine pk_lt 200 j (fun z => ?_) (fun z => ?_) rfl rfl (by omega) (by omega)
    · have : j = 201 := by omega
      subst this
      exact done eR
    · obtain ⟨m2, hm2⟩ : ∃ m2, 201 - j = m2 + 1 := ⟨200 - j, by omega⟩
      rw [hm2, nqL_s] at eR
      refine c_open hc t2 v2 tq2 (fun J3 o3 t3 v3 tq3 => ?_)
      have h3 : INV J3 L b d X B := inv_qO hI (o2.tr o3)
      refine c_comparison h3 hc t3 v3 (fun J4 a4 t4 => ?_)
      refine c_end hN rfl (tq3.tk a4) (fun J5 a5 tq5 => ?_)
      have t5 : TC J5 c ln (csC c ln (opL c ln 7 S2 q2).1) := t4.fr (a5 344 (by decide)) (a5 350 (by decide))
      refine c_close hN hc t5 (px_csC v3) tq5 (fun J6 o6 t6 v6 tq6 => ?_)
      replace t6 : TC J6 c ln (nqD (xC X) (xr X) c ln S2 q2).1 := t6
      replace v6 : PX c ln (nqD (xC X) (xr X) c ln S2 q2).1 := v6
      replace tq6 : TQ J6 (cI (xC X) + cG (xC X)) (nqD (xC X) (xr X) c ln S2 q2).2 := tq6
      refine c_goesOn hc t6 v6 tq6 (fun J7 o7 t7 tq7 => ?_)
      have o5 : qO J4 J5 := fun z y1 y2 => a5 z (by omega)
      rw [nI_1]
      refine ih _ _ _ ⟨gnB c (nqD (xC X) (xr X) c ln S2 q2).1, j + 1, nqS (xC X) (xr X) c ln S2 q2, nqQ (xC X) (xr X) c ln S2 q2, rfl, rfl, by omega, (((o2.tr o3).tr (qO.tk a4)).tr o5).tr (o6.tr o7), t7, px_gn v6, tq7, ?_⟩ ?_
      · rw [show 201 - (j + 1) = m2 by omega]
        exact eR
      · rw [nI_clamp (by omega), nI_clamp (by omega)]; omega
end CQ2
