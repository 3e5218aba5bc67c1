/-! the reference reads a query: its rows, operands, what waits -/
section RQ1
variable {I J : TI} {L M : TL} {c : Nat → Nat} {ln : Nat} {S : PS}
def cdR (I : TI) : List Nat → Prop
  | [] => True
  | x :: r => (I 453 r.length = nI x ∧ x < 20000) ∧ cdR I r
def wtR (I : TI) : List Nat → Prop
  | [] => True
  | x :: r => (I 454 r.length = nI x ∧ x ≤ 25) ∧ wtR I r
theorem cdR_fr : ∀ s : List Nat, cdR I s → (∀ i, i < s.length → J 453 i = I 453 i) → cdR J s
  | [], _, _ => trivial
  | x :: r, h, e => ⟨⟨by rw [e r.length (Nat.lt_succ_self _)]; exact h.1.1, h.1.2⟩, cdR_fr r h.2 (fun i hi => e i (Nat.lt_succ_of_lt hi))⟩
theorem wtR_fr : ∀ s : List Nat, wtR I s → (∀ i, i < s.length → J 454 i = I 454 i) → wtR J s
  | [], _, _ => trivial
  | x :: r, h, e => ⟨⟨by rw [e r.length (Nat.lt_succ_self _)]; exact h.1.1, h.1.2⟩, wtR_fr r h.2 (fun i hi => e i (Nat.lt_succ_of_lt hi))⟩
/-- codes, what waits, how much is open -/
def RQ (I : TI) (cs ws : List Nat) (o : Nat) : Prop := I 436 40 = nI cs.length ∧ I 436 41 = nI ws.length ∧ I 436 42 = nI o ∧ cdR I cs ∧ wtR I ws
theorem RQ.fr {cs ws : List Nat} {o : Nat} (h : RQ I cs ws o) (e : ∀ j, 40 ≤ j → j ≤ 42 → J 436 j = I 436 j) (e3 : J 453 = I 453) (e4 : J 454 = I 454) : RQ J cs ws o :=
  ⟨by rw [e 40 (by omega) (by omega)]; exact h.1, by rw [e 41 (by omega) (by omega)]; exact h.2.1, by rw [e 42 (by omega) (by omega)]; exact h.2.2.1, cdR_fr cs h.2.2.2.1 (fun _ _ => by rw [e3]), wtR_fr ws h.2.2.2.2 (fun _ _ => by rw [e4])⟩
theorem RQ.f {cs ws : List Nat} {o : Nat} (h : RQ I cs ws o) (e : fI I J) : RQ J cs ws o := h.fr (fun j _ _ => e.2 j (by omega)) (e.1 453 (by decide)) (e.1 454 (by decide))
/-- rows that a query of the reference leaves -/
def rI (I J : TI) : Prop := (∀ q, q ≠ 436 → q ≠ 453 → q ≠ 454 → J q = I q) ∧ ∀ j, (j < 24 ∨ (30 < j ∧ j < 40) ∨ 42 < j) → J 436 j = I 436 j
theorem rI.rf (I : TI) : rI I I := ⟨fun _ _ _ _ => rfl, fun _ _ => rfl⟩
theorem rI.tr {K : TI} (h : rI I J) (h2 : rI J K) : rI I K := ⟨fun q a b c => (h2.1 q a b c).trans (h.1 q a b c), fun j hj => (h2.2 j hj).trans (h.2 j hj)⟩
theorem fI.r (h : fI I J) : rI I J := ⟨fun q a _ _ => h.1 q a, fun j hj => h.2 j (by omega)⟩
/-- only what is kept of the query changed -/
def wI (I J : TI) : Prop := (∀ q, q ≠ 436 → q ≠ 453 → q ≠ 454 → J q = I q) ∧ ∀ j, (j < 40 ∨ 42 < j) → J 436 j = I 436 j
theorem wI.rf (I : TI) : wI I I := ⟨fun _ _ _ _ => rfl, fun _ _ => rfl⟩
theorem wI.tr {K : TI} (h : wI I J) (h2 : wI J K) : wI I K := ⟨fun q a b c => (h2.1 q a b c).trans (h.1 q a b c), fun j hj => (h2.2 j hj).trans (h.2 j hj)⟩
theorem wI.r (h : wI I J) : rI I J := ⟨h.1, fun j hj => h.2 j (by omega)⟩
theorem wI.t (h : wI I J) (t : TR I L c ln S) : TR J L c ln S := t.fr (fun j _ _ => h.2 j (by omega)) (h.1 447 (by decide) (by decide) (by decide)) rfl
theorem m_adds {Q : TI → Prop} {cs ws : List Nat} {o n : Nat} {x : Int32} (hx : x = nI n) (hn : n < 20000) (h : RQ I cs ws o) (hl : cs.length < 200) (k : ∀ J, wI I J → J 454 = I 454 → RQ J (n :: cs) ws o → Q J) : W_X9_adds x I L Q := by
  subst hx
  obtain ⟨h1, h2, h3, h4, h5⟩ := h
  have f : (up2 I 453 cs.length (nI n)) 436 40 = nI cs.length := by rw [up2_row (by decide)]; exact h1
  unfold W_X9_adds
  rw [pk_cl _ h1 (by omega), f, nI_1]
  refine ⟨pk_in _ 200 hl h1, ?_⟩
  rintro _ rfl
  refine k _ ⟨fun q a b _ => by rw [up2_row a, up2_row b], fun j hj => by rw [up2_n (Or.inr (by omega)), up2_row (by decide)]⟩ (by rw [up2_row (by decide), up2_row (by decide)]) ⟨up2_s, ?_, ?_, ⟨⟨?_, hn⟩, ?_⟩, ?_⟩
  · rw [up2_n (Or.inr (by decide)), up2_row (by decide)]; exact h2
  · rw [up2_n (Or.inr (by decide)), up2_row (by decide)]; exact h3
  · rw [up2_row (by decide), up2_s]
  · exact cdR_fr cs h4 (fun i hi => by rw [up2_row (by decide), up2_n (Or.inr (by omega))])
  · exact wtR_fr ws h5 (fun i hi => by rw [up2_row (by decide), up2_row (by decide)])
theorem m_strength {Q : Int32 → Prop} {n : Nat} {x : Int32} (hx : x = nI n) (hn : n ≤ 25) (k : Q (nI (strN n))) : W_X9_strength x I L Q := by
  subst hx
  unfold strN at k
  unfold W_X9_strength
  have e25 : nI n = 25 ↔ n = 25 := nI_eq (b := 25) (by omega) (by omega)
  have e24 : nI n = 24 ↔ n = 24 := nI_eq (b := 24) (by omega) (by omega)
  have e23 : nI n = 23 ↔ n = 23 := nI_eq (b := 23) (by omega) (by omega)
  refine ⟨fun z => ⟨fun z2 => ⟨fun z3 => ?_, fun z3 => ?_⟩, fun z2 => ?_⟩, fun z => ?_⟩
  · rw [if_neg (fun y => z (e25.mpr y)), if_neg (fun y => z2 (e24.mpr y)), if_neg (fun y => z3 (e23.mpr y))] at k
    exact k
  · rw [if_neg (fun y => z (e25.mpr y)), if_neg (fun y => z2 (e24.mpr y)), if_pos (e23.mp z3)] at k
    exact k
  · rw [if_neg (fun y => z (e25.mpr y)), if_pos (e24.mp z2)] at k
    exact k
  · rw [if_pos (e25.mp z)] at k
    exact k
theorem strN_le (x : Nat) : strN x ≤ 3 := by
  unfold strN
  split
  · omega
  · split
    · omega
    · split <;> omega
def c23 : List Nat → Nat
  | [] => 0
  | x :: r => c23 r + (if x = 23 then 1 else 0)
theorem m_settles {Q : TI → Prop} {cs ws : List Nat} {o lo : Nat} {x : Int32} (hx : x = nI lo) (hlo : lo < 10) (h : RQ I cs ws o) (hl : cs.length + ws.length ≤ 200) (hn : c23 ws ≤ o) (ho : o < 1000) (t : TR I L c ln S) (v : PV ln S) (e0 : er S = 0) (k : ∀ J, wI I J → RQ J (stC lo ws cs) (stW lo ws) (stO lo ws o) → Q J) : W_X9_settles x I L Q := by
  subst hx
  unfold W_X9_settles
  refine lp1 (fun n i => L_X9_settles_0 (nI lo) L Q n i) (fun i => ∃ cs2 ws2 o2, wI I i ∧ RQ i cs2 ws2 o2 ∧ cs2.length + ws2.length ≤ 200 ∧ c23 ws2 ≤ o2 ∧ o2 < 1000 ∧ stC lo ws2 cs2 = stC lo ws cs ∧ stW lo ws2 = stW lo ws ∧ stO lo ws2 o2 = stO lo ws o) (fun i => (i 436 41).toNatClampNeg) ?_ _ ⟨cs, ws, o, wI.rf I, h, hl, hn, ho, rfl, rfl, rfl⟩
  rintro n i ⟨cs2, ws2, o2, wi, qi, l2, c2, bo, e1, e2, e3⟩ ih
  have done : stC lo ws2 cs2 = cs2 → stW lo ws2 = ws2 → stO lo ws2 o2 = o2 → Q i := by
    intro y1 y2 y3
    refine k i wi ?_
    rw [← e1, ← e2, ← e3, y1, y2, y3]
    exact qi
  obtain ⟨q1, q2, q3, q4, q5⟩ := id qi
  show D_X9_settles_0 (nI lo) L Q (fun I => L_X9_settles_0 (nI lo) L Q n I) i
  unfold D_X9_settles_0
  refine m_good (wi.t t) v (fun z => absurd e0 z) (fun _ => ⟨fun z => absurd z (by decide), fun _ => ?_⟩)
  cases ws2 with
  | nil =>
    have q2 : i 436 41 = nI 0 := q2
    exact pk_le 0 0 (fun _ => done rfl rfl rfl) (fun z => absurd z (by omega)) q2 rfl (by omega) (by omega)
  | cons y w =>
    have q2 : i 436 41 = nI (w.length + 1) := q2
    have l2 : cs2.length + (w.length + 1) ≤ 200 := l2
    have c2 : c23 w + (if y = 23 then 1 else 0) ≤ o2 := c2
    obtain ⟨⟨y4, y5⟩, y6⟩ := id q5
    have em : i 436 41 - 1 = nI w.length := by rw [q2]; exact nI_pred _
    have f41 : (up2 i 436 41 (nI w.length)) 436 41 = nI w.length := up2_s
    have f454 : (up2 i 436 41 (nI w.length)) 454 w.length = nI y := by rw [up2_row (by decide)]; exact y4
    rw [em, pk_cl w.length rfl (by omega), y4, f41, pk_cl w.length rfl (by omega), f454]
    refine pk_le (w.length + 1) 0 (fun z => absurd z (by omega)) (fun _ => ⟨pk_in _ 200 (by omega) rfl, ?_⟩) q2 rfl (by omega) (by omega)
    have sl := strN_le y
    refine m_strength rfl y5 ?_
    refine pk_lt (strN y) lo (fun z => done (stC_0 (by omega)) (stW_0 (by omega)) (stO_0 (by omega))) (fun z => ?_) rfl rfl (by omega) (by omega)
    rw [stC_1 z] at e1
    rw [stW_1 z] at e2
    rw [stO_1 z] at e3
    refine ⟨pk_in _ 200 (by omega) rfl, ?_⟩
    have rq : RQ (up2 i 436 41 (nI w.length)) cs2 w o2 := by
      refine ⟨?_, up2_s, ?_, cdR_fr _ q4 (fun _ _ => by rw [up2_row (by decide)]), wtR_fr _ y6 (fun _ _ => by rw [up2_row (by decide)])⟩
      · rw [up2_n (Or.inr (by decide))]; exact q1
      · rw [up2_n (Or.inr (by decide))]; exact q3
    have w2 : wI I (up2 i 436 41 (nI w.length)) := ⟨fun q a b d => by rw [up2_row a]; exact wi.1 q a b d, fun j hj => by rw [up2_n (Or.inr (by omega))]; exact wi.2 j hj⟩
    refine m_adds (n := y) rfl (by omega) rq (by omega) (fun J3 w3 e454 rq3 => ?_)
    have j41 : J3 436 41 = nI w.length := rq3.2.1
    have j454 : J3 454 w.length = nI y := by rw [e454]; exact f454
    rw [j41, pk_cl w.length rfl (by omega), j454]
    have e23 : nI y = 23 ↔ y = 23 := nI_eq (b := 23) (by omega) (by omega)
    refine ⟨pk_in _ 200 (by omega) rfl, fun z2 => ?_, fun z2 => ?_⟩
    · have ny : y ≠ 23 := fun z3 => z2 (e23.mpr z3)
      rw [if_neg ny] at e3 c2
      refine ih _ ⟨y :: cs2, w, o2, w2.tr w3, rq3, ?_, c2, bo, e1, e2, e3⟩ ?_
      · show cs2.length + 1 + w.length ≤ 200; omega
      · rw [j41, q2, nI_clamp (by omega), nI_clamp (by omega)]; omega
    · have ny : y = 23 := e23.mp z2
      rw [if_pos ny] at e3 c2
      have eo : J3 436 42 - 1 = nI (o2 - 1) := by
        rw [rq3.2.2.1, show (1 : Int32) = nI 1 from rfl, pk_sub (by omega)]
      rw [eo]
      refine ih _ ⟨y :: cs2, w, o2 - 1, w2.tr (w3.tr ⟨fun q a b d => by rw [up2_row a], fun j hj => by rw [up2_n (Or.inr (by omega))]⟩), ⟨?_, ?_, up2_s, cdR_fr _ rq3.2.2.2.1 (fun _ _ => by rw [up2_row (by decide)]), wtR_fr _ rq3.2.2.2.2 (fun _ _ => by rw [up2_row (by decide)])⟩, ?_, by omega, by omega, e1, e2, e3⟩ ?_
      · rw [up2_n (Or.inr (by decide))]; exact rq3.1
      · rw [up2_n (Or.inr (by decide))]; exact rq3.2.1
      · show cs2.length + 1 + w.length ≤ 200; omega
      · rw [up2_n (Or.inr (by decide)), j41, q2, nI_clamp (by omega), nI_clamp (by omega)]; omega
theorem m_isInside {Q : Int32 → Prop} {cs ws : List Nat} {o : Nat} (h : RQ I cs ws o) (hl : ws.length ≤ 200) (k1 : 1 ∈ ws → Q 1) (k0 : ¬ 1 ∈ ws → Q 0) : W_X9_isInside I L Q := by
  have ent : ∀ (w : List Nat), wtR I w → ∀ i, i < w.length → ∃ x, I 454 i = nI x ∧ x ≤ 25 ∧ (x = 1 → 1 ∈ w) := by
    intro w
    induction w with
    | nil => intro _ i hi; exact absurd hi (Nat.not_lt_zero _)
    | cons y w ihw =>
      intro hw i hi
      have hi : i < w.length + 1 := hi
      by_cases z : i = w.length
      · subst z
        exact ⟨y, hw.1.1, hw.1.2, fun z => by rw [z]; exact List.mem_cons_self⟩
      · obtain ⟨x, a1, a2, a3⟩ := ihw hw.2 i (by omega)
        exact ⟨x, a1, a2, fun z2 => List.mem_cons_of_mem _ (a3 z2)⟩
  have back : ∀ (w : List Nat), wtR I w → 1 ∈ w → ∃ i, i < w.length ∧ I 454 i = 1 := by
    intro w
    induction w with
    | nil => intro _ hm; cases hm
    | cons y w ihw =>
      intro hw hm
      rcases List.mem_cons.mp hm with z | z
      · exact ⟨w.length, Nat.lt_succ_self _, by rw [hw.1.1, ← z]; rfl⟩
      · obtain ⟨i, a1, a2⟩ := ihw hw.2 z
        exact ⟨i, Nat.lt_succ_of_lt a1, a2⟩
  obtain ⟨h1, h2, h3, h4, h5⟩ := h
  unfold W_X9_isInside
  refine lp1 (fun n v => L_X9_isInside_2 I L Q n v) (fun v => ∃ j, v = nI j ∧ j ≤ ws.length ∧ ∀ i, i < j → I 454 i ≠ 1) (fun v => ws.length - v.toNatClampNeg) ?_ _ ⟨0, rfl, Nat.zero_le _, fun i hi => absurd hi (Nat.not_lt_zero _)⟩
  rintro n v ⟨j, rfl, j1, j2⟩ ih
  show D_X9_isInside_2 I L Q (fun v1 => L_X9_isInside_2 I L Q n v1) (nI j)
  unfold D_X9_isInside_2
  rw [pk_cl j rfl (by omega)]
  refine pk_le ws.length j (fun z => k0 (fun hm => ?_)) (fun z => ⟨pk_in j 200 (by omega) rfl, fun z2 => ?_, fun z2 => ?_⟩) h2 rfl (by omega) (by omega)
  · obtain ⟨i, a1, a2⟩ := back ws h5 hm
    exact j2 i (by omega) a2
  · rw [nI_1]
    refine ih _ ⟨j + 1, rfl, by omega, fun i hi => ?_⟩ (by rw [nI_clamp (by omega), nI_clamp (by omega)]; omega)
    by_cases y : i = j
    · rw [y]; exact z2
    · exact j2 i (by omega)
  · obtain ⟨x, a1, a2, a3⟩ := ent ws h5 j z
    exact k1 (a3 ((nI_eq (b := 1) (by omega) (by omega)).mp (a1.symm.trans z2)))
theorem m_propHere {Q : Int32 → Prop} (hc : txV c ln) (h : TR I L c ln S) (v : PX c ln S) (k : Q (if prF9 c S = 9 then -1 else nI (prF9 c S))) : W_X9_propertyHere I L Q := by
  have e : prF9 c S = (if wdB c S 10361 = true then 0 else if wdB c S 223456 = true then 1 else if wdB c S 70367 = true then 2 else if wdB c S 1277864983 = true then 3 else if wdB c S 12588757 = true then 4 else if wdB c S 7443765193 = true then 5 else if wdB c S 9988168 = true then 6 else if wdB c S 240992974 = true then 7 else if wdB c S 237458 = true then 8 else 9) := rfl
  unfold W_X9_propertyHere
  refine m_isWord (w := 10361) rfl (by omega) h v hc.1 (fun a => ⟨fun z => absurd z (by decide), fun _ => ?_⟩) (fun a => ⟨fun _ => ?_, fun z => absurd rfl z⟩)
  · rw [if_pos a] at e
    rw [e, if_neg (by decide)] at k
    exact k
  rw [if_neg (show ¬ wdB c S 10361 = true by rw [a]; decide)] at e
  refine m_isWord (w := 223456) rfl (by omega) h v hc.1 (fun a => ⟨fun z => absurd z (by decide), fun _ => ?_⟩) (fun a => ⟨fun _ => ?_, fun z => absurd rfl z⟩)
  · rw [if_pos a] at e
    rw [e, if_neg (by decide)] at k
    exact k
  rw [if_neg (show ¬ wdB c S 223456 = true by rw [a]; decide)] at e
  refine m_isWord (w := 70367) rfl (by omega) h v hc.1 (fun a => ⟨fun z => absurd z (by decide), fun _ => ?_⟩) (fun a => ⟨fun _ => ?_, fun z => absurd rfl z⟩)
  · rw [if_pos a] at e
    rw [e, if_neg (by decide)] at k
    exact k
  rw [if_neg (show ¬ wdB c S 70367 = true by rw [a]; decide)] at e
  refine m_isWord (w := 1277864983) rfl (by omega) h v hc.1 (fun a => ⟨fun z => absurd z (by decide), fun _ => ?_⟩) (fun a => ⟨fun _ => ?_, fun z => absurd rfl z⟩)
  · rw [if_pos a] at e
    rw [e, if_neg (by decide)] at k
    exact k
  rw [if_neg (show ¬ wdB c S 1277864983 = true by rw [a]; decide)] at e
  refine m_isWord (w := 12588757) rfl (by omega) h v hc.1 (fun a => ⟨fun z => absurd z (by decide), fun _ => ?_⟩) (fun a => ⟨fun _ => ?_, fun z => absurd rfl z⟩)
  · rw [if_pos a] at e
    rw [e, if_neg (by decide)] at k
    exact k
  rw [if_neg (show ¬ wdB c S 12588757 = true by rw [a]; decide)] at e
  refine m_isWord (w := 7443765193) rfl (by omega) h v hc.1 (fun a => ⟨fun z => absurd z (by decide), fun _ => ?_⟩) (fun a => ⟨fun _ => ?_, fun z => absurd rfl z⟩)
  · rw [if_pos a] at e
    rw [e, if_neg (by decide)] at k
    exact k
  rw [if_neg (show ¬ wdB c S 7443765193 = true by rw [a]; decide)] at e
  refine m_isWord (w := 9988168) rfl (by omega) h v hc.1 (fun a => ⟨fun z => absurd z (by decide), fun _ => ?_⟩) (fun a => ⟨fun _ => ?_, fun z => absurd rfl z⟩)
  · rw [if_pos a] at e
    rw [e, if_neg (by decide)] at k
    exact k
  rw [if_neg (show ¬ wdB c S 9988168 = true by rw [a]; decide)] at e
  refine m_isWord (w := 240992974) rfl (by omega) h v hc.1 (fun a => ⟨fun z => absurd z (by decide), fun _ => ?_⟩) (fun a => ⟨fun _ => ?_, fun z => absurd rfl z⟩)
  · rw [if_pos a] at e
    rw [e, if_neg (by decide)] at k
    exact k
  rw [if_neg (show ¬ wdB c S 240992974 = true by rw [a]; decide)] at e
  refine m_isWord (w := 237458) rfl (by omega) h v hc.1 (fun a => ⟨fun z => absurd z (by decide), fun _ => ?_⟩) (fun a => ⟨fun _ => ?_, fun z => absurd rfl z⟩)
  · rw [if_pos a] at e
    rw [e, if_neg (by decide)] at k
    exact k
  rw [if_neg (show ¬ wdB c S 237458 = true by rw [a]; decide)] at e
  rw [e, if_pos rfl] at k
  exact k
/-- a token is not empty -/
def PY (S : PS) : Prop := tk S ≠ 0 → ts S < te S
theorem runT_lt {P : Nat → Bool} {p : Nat} (h : p < ln) (hp : P p = true) : p < runT P ln p := by
  rw [runT_1 h hp]
  have := runT_b (P := P) (ln := ln) (p := p + 1) (by omega)
  omega
theorem tkN_y {p : Nat} {x : Nat} {y : Int32} : PY (tkN c ln p, x, y) := by
  unfold tkN
  generalize runT (wsB c) ln p = s
  intro h
  by_cases q : s < ln
  · by_cases q1 : ltB c s = true
    · rw [if_pos q, if_pos q1]
      exact runT_lt q q1
    · by_cases q2 : dgB c s = true
      · rw [if_pos q, if_neg q1, if_pos q2]
        exact runT_lt q q2
      · rw [if_pos q, if_neg q1, if_neg q2]
        exact Nat.lt_succ_self s
  · rw [if_neg q] at h
    exact absurd rfl h
theorem PY.adv (h : PY S) : PY (advF c ln S) := by
  unfold advF
  split
  · exact tkN_y
  · exact h
theorem PY.fail {code : Nat} (h : PY S) : PY (failF code S) := by
  unfold failF
  split
  · exact h
  · exact h
theorem tkN_ge {p : Nat} (h : p ≤ ln) : p ≤ (tkN c ln p).2.1 := by
  have b := runT_b (P := wsB c) h
  unfold tkN
  generalize runT (wsB c) ln p = s at *
  split
  · split
    · exact b.1
    · split
      · exact b.1
      · exact b.1
  · exact b.1
theorem adv_ts (v : PX c ln S) (e0 : er S = 0) (y : PY S) (h : tk S ≠ 0) : ts S + 1 ≤ ts (advF c ln S) := by
  have a := tkN_ge (c := c) (ln := ln) (p := te S) v.1.1.2
  have b := y h
  have e : ts (advF c ln S) = (tkN c ln (te S)).2.1 := by
    unfold advF
    rw [if_pos e0]
    rfl
  rw [e]
  omega
theorem wdB_tk {w : Nat} (h : wdB c S w = true) : tk S = 1 := by
  unfold wdB at h
  exact (of_decide_eq_true h).2.1
theorem sgB_tk {b : Nat} (h : sgB c b S = true) : tk S = 3 := by
  unfold sgB at h
  exact (of_decide_eq_true h).2.1
theorem prR_tk : ∀ n j, prR c S n j ≠ j + n → tk S = 1
  | 0, j, h => absurd rfl h
  | n + 1, j, h => by
    unfold prR at h
    by_cases q : wdB c S (ph j) = true
    · exact wdB_tk q
    · rw [if_neg q] at h
      exact prR_tk n (j + 1) (by omega)
theorem prF9_tk (h : prF9 c S ≠ 9) : tk S = 1 := prR_tk 9 0 h
theorem odS_y (y : PY S) : PY (odS c ln S) := by
  unfold odS
  split
  · unfold takeN
    refine PY.adv ?_
    unfold peekF
    split
    · split
      · exact y
      · exact y.fail
    · exact y.fail
  · exact y.adv
/-- an operand read without a fault is a token passed -/
theorem odS_ts (v : PX c ln S) (e0 : er S = 0) (y : PY S) (h : er (odS c ln S) = 0) : ts S + 1 ≤ ts (odS c ln S) := by
  unfold odS at *
  by_cases q : prF9 c S = 9
  · rw [if_pos q] at h ⊢
    have ep : er (peekF c 0 9999 S) = 0 := by
      rcases Nat.eq_zero_or_pos (er (peekF c 0 9999 S)) with z | z
      · exact z
      · unfold takeN at h
        rw [advF_er (by omega)] at h
        omega
    have e1 : peekF c 0 9999 S = S ∧ tk S = 2 := by
      unfold peekF at ep ⊢
      by_cases z : nuB S = true
      · rw [if_pos z] at ep ⊢
        by_cases z2 : inB c 0 9999 S = true
        · rw [if_pos z2]
          unfold nuB at z
          exact ⟨rfl, (of_decide_eq_true z).2⟩
        · rw [if_neg z2] at ep
          exact absurd ep (failF_er (by decide))
      · rw [if_neg z] at ep
        exact absurd ep (failF_er (by decide))
    unfold takeN
    rw [e1.1]
    exact adv_ts v e0 y (by rw [e1.2]; decide)
  · rw [if_neg q]
    exact adv_ts v e0 y (by rw [prF9_tk q]; decide)
theorem odS_er (h : er S ≠ 0) : odS c ln S = S := by
  unfold odS
  split
  · exact (takeN_er h).1
  · exact advF_er h
/-- an operand -/
theorem m_valueRead {Q : TI → TL → Prop} {cs ws : List Nat} {o : Nat} (hc : txV c ln) (h : TR I L c ln S) (v : PX c ln S) (e0 : er S = 0) (hq : RQ I cs ws o) (hl : tk S ≠ 0 → cs.length < 200)
    (k1 : er (odS c ln S) = 0 → ∀ J M, rI I J → tL L M → TR J M c ln (odS c ln S) → RQ J (cdF (odV c S) :: cs) ws o → Q J M)
    (k0 : er (odS c ln S) ≠ 0 → ∀ J M, rI I J → tL L M → TR J M c ln (odS c ln S) → Q J M) : W_X9_valueRead I L Q := by
  have tk3 := v.1.2.1.1
  have pl := prF9_le (c := c) (S := S)
  have e2 : nI (tk S) = 2 ↔ tk S = 2 := nI_eq (b := 2) (by omega) (by omega)
  unfold W_X9_valueRead
  refine m_good h v.1 (fun z => absurd e0 z) (fun _ => ⟨fun _ => ?_, fun z => absurd z (by decide)⟩)
  rw [h.1.2.2.2.1]
  refine ⟨fun z => ?_, fun z => ?_⟩
  · have t2 : tk S ≠ 2 := fun y => z (e2.mpr y)
    refine m_propHere hc h v ?_
    by_cases q : prF9 c S = 9
    · rw [if_pos q]
      refine ⟨fun y => absurd rfl y, fun _ => m_faults (code := 1) rfl h v.1 (fun J a d => ?_)⟩
      have nu : ¬ nuB S = true := by
        unfold nuB
        rw [decide_eq_true_iff]
        exact fun y => t2 y.2
      have eo : odS c ln S = failF 1 S := by
        unfold odS takeN peekF
        rw [if_pos q, if_neg nu, advF_er (failF_er (by decide))]
      refine k0 (by rw [eo]; exact failF_er (by decide)) J L a.r (tL.rf L) ?_
      rw [eo]
      exact d
    · rw [if_neg q]
      have eo : odS c ln S = advF c ln S := by unfold odS; rw [if_neg q]
      have ev : cdF (odV c S) = prF9 c S := by
        unfold odV
        rw [if_neg q]
        unfold cdF
        rw [if_neg (by omega), Nat.add_sub_cancel_left]
      refine ⟨fun _ => m_adds rfl (by omega) hq (hl (by have := prF9_tk q; omega)) (fun J1 w1 _ q1 => m_next hc (w1.t h) v.1 e0 (fun J2 M2 a2 b2 t2 => ?_)), fun y => absurd y (nI_nm1 (by omega))⟩
      by_cases e : er (odS c ln S) = 0
      · refine k1 e J2 M2 (w1.r.tr a2.f.r) b2 (by rw [eo]; exact t2) ?_
        rw [ev]
        exact q1.f a2.f
      · exact k0 e J2 M2 (w1.r.tr a2.f.r) b2 (by rw [eo]; exact t2)
  · have t2 := e2.mp z
    have q : prF9 c S = 9 := by
      by_cases q : prF9 c S = 9
      · exact q
      · have := prF9_tk q
        omega
    have eo : odS c ln S = takeN c ln 0 9999 S := by unfold odS; rw [if_pos q]
    have ev : odV c S = peekV c 0 9999 S := by unfold odV; rw [if_pos q]
    have pb := peekV_b (c := c) (lo := 0) (hi := 9999) (S := S) (by omega)
    refine m_number (lo := 0) (hi := 9999) rfl rfl (by omega) (by omega) hc h v (fun J1 M1 a1 b1 t1 => ?_)
    have en : (100 : Int32) + nI (peekV c 0 9999 S) = nI (cdF (odV c S)) := by
      rw [ev]
      unfold cdF
      rw [if_pos (by omega)]
      exact nI_add 100 _
    rw [en]
    refine m_adds rfl (cdF_lt odV_le) (hq.f a1) (hl (by omega)) (fun J2 w2 _ q2 => ?_)
    by_cases e : er (odS c ln S) = 0
    · exact k1 e J2 M1 (a1.r.tr w2.r) b1 (by rw [eo]; exact w2.t t1) q2
    · exact k0 e J2 M1 (a1.r.tr w2.r) b1 (by rw [eo]; exact w2.t t1)
/-- in -/
theorem m_goesIn {Q : Int32 → TI → TL → Prop} {cs ws : List Nat} {o n : Nat} {x : Int32} (hx : x = nI n) (hn : n ≤ 25) (hc : txV c ln) (h : TR I L c ln S) (v : PX c ln S) (e0 : er S = 0) (hq : RQ I cs ws o) (ho : o ≤ 6) (hl : ws.length < 200)
    (k1 : o < 6 → ∀ J M, rI I J → tL L M → TR J M c ln (advF c ln S) → RQ J cs (n :: ws) (o + 1) → Q 1 J M)
    (k0 : o = 6 → ∀ J, rI I J → TR J L c ln (failF 3 S) → Q 0 J L) : W_X9_goesIn x I L Q := by
  subst hx
  obtain ⟨h1, h2, h3, h4, h5⟩ := id hq
  have e6 : nI o = 6 ↔ o = 6 := nI_eq (b := 6) (by omega) (by omega)
  unfold W_X9_goesIn
  rw [h3, nI_1]
  refine ⟨fun z => ?_, fun z => m_faults (code := 3) rfl h v.1 (fun J a d => ⟨Or.inl rfl, k0 (e6.mp z) J a.r d⟩)⟩
  have f41 : (up2 I 436 42 (nI (o + 1))) 436 41 = nI ws.length := by rw [up2_n (Or.inr (by decide))]; exact h2
  rw [f41, pk_cl _ rfl (by omega)]
  refine ⟨pk_in _ 200 hl rfl, ?_⟩
  rintro _ rfl
  have g41 : (up2 (up2 I 436 42 (nI (o + 1))) 454 ws.length (nI n)) 436 41 = nI ws.length := by rw [up2_row (by decide)]; exact f41
  rw [g41, nI_1]
  have w1 : wI I (up2 (up2 (up2 I 436 42 (nI (o + 1))) 454 ws.length (nI n)) 436 41 (nI (ws.length + 1))) := ⟨fun q a b d => by rw [up2_row a, up2_row d, up2_row a], fun j hj => by rw [up2_n (Or.inr (by omega)), up2_row (by decide), up2_n (Or.inr (by omega))]⟩
  have q1 : RQ (up2 (up2 (up2 I 436 42 (nI (o + 1))) 454 ws.length (nI n)) 436 41 (nI (ws.length + 1))) cs (n :: ws) (o + 1) := by
    refine ⟨?_, up2_s, ?_, cdR_fr _ h4 (fun _ _ => by rw [up2_row (by decide), up2_row (by decide), up2_row (by decide)]), ⟨⟨?_, hn⟩, wtR_fr _ h5 (fun i hi => ?_)⟩⟩
    · rw [up2_n (Or.inr (by decide)), up2_row (by decide), up2_n (Or.inr (by decide))]; exact h1
    · rw [up2_n (Or.inr (by decide)), up2_row (by decide), up2_s]
    · rw [up2_row (by decide), up2_s]
    · rw [up2_row (by decide), up2_n (Or.inr (by omega)), up2_row (by decide)]
  refine m_next hc (w1.t h) v.1 e0 (fun J M a b t => k1 (by have : o ≠ 6 := fun y => z (e6.mpr y); omega) J M (w1.r.tr a.f.r) b t (q1.f a.f))
end RQ1
