/-! a query: the reference's codes and what waits, against what is open in the class -/
section REL
variable {C : CQ} {r : RW} {N : Nat}
def b2 (x : Bool) : Nat := if x = true then 1 else 0
theorem b2_le (x : Bool) : b2 x ≤ 1 := by cases x <;> decide
theorem b2_not (x : Bool) : 1 - b2 x = b2 (!x) := by cases x <;> rfl
def jn (x a b : Nat) : Nat := if x = 20 then b2 (decide (a < b)) else if x = 21 then b2 (decide (a = b)) else if x = 22 then b2 (decide (b < a)) else if x = 24 then b2 (decide (a + b = 2)) else b2 (decide (0 < a + b))
/-- one code done at a net -/
def stp (C : CQ) (r : RW) (k x : Nat) (s : List Nat) : Option (List Nat) :=
  if x = 23 then (match s with | a :: t => if a ≤ 1 then some ((1 - a) :: t) else none | [] => none)
  else if 20 ≤ x ∧ x ≤ 25 then (match s with | b :: a :: t => if a < 20000 ∧ b < 20000 then some (jn x a b :: t) else none | _ => none)
  else if x < 9 ∨ 100 ≤ x then some ((if 100 ≤ x then x - 100 else pvF C r k x) :: s) else none
/-- the codes, the last one first -/
def evl (C : CQ) (r : RW) (k : Nat) : List Nat → Option (List Nat)
  | [] => some []
  | x :: cs => (evl C r k cs).bind (stp C r k x)
theorem evl_s {k x : Nat} {cs s t : List Nat} (h : evl C r k cs = some s) (h2 : stp C r k x s = some t) : evl C r k (x :: cs) = some t := by
  show (evl C r k cs).bind (stp C r k x) = some t
  rw [h]
  exact h2
theorem stp_not {k : Nat} {x : Bool} {t : List Nat} : stp C r k 23 (b2 x :: t) = some (b2 (!x) :: t) := by
  unfold stp
  rw [if_pos rfl]
  show (if b2 x ≤ 1 then some ((1 - b2 x) :: t) else none) = _
  rw [if_pos (b2_le x), b2_not]
theorem stp_j {k x a b : Nat} {t : List Nat} (h1 : 20 ≤ x) (h2 : x ≤ 25) (h3 : x ≠ 23) (ha : a < 20000) (hb : b < 20000) : stp C r k x (b :: a :: t) = some (jn x a b :: t) := by
  unfold stp
  rw [if_neg h3, if_pos ⟨h1, h2⟩]
  show (if a < 20000 ∧ b < 20000 then some (jn x a b :: t) else none) = _
  rw [if_pos ⟨ha, hb⟩]
theorem b2_lt (x : Bool) : b2 x < 20000 := by cases x <;> decide
theorem jn_any (x y : Bool) : jn 25 (b2 x) (b2 y) = b2 (x || y) := by cases x <;> cases y <;> rfl
theorem jn_both (x y : Bool) : jn 24 (b2 x) (b2 y) = b2 (x && y) := by cases x <;> cases y <;> rfl
def cdF (x : Nat) : Nat := if x < 10000 then 100 + x else x - 10000
theorem stp_v {k x : Nat} {t : List Nat} (hx : x ≤ 10008) : stp C r k (cdF x) t = some (vlF C r x k :: t) := by
  unfold stp cdF vlF
  by_cases q : x < 10000
  · rw [if_pos q, if_pos q, if_neg (by omega), if_neg (by omega), if_pos (by omega), if_pos (by omega), Nat.add_sub_cancel_left]
  · rw [if_neg q, if_neg q, if_neg (by omega), if_neg (by omega), if_pos (by omega), if_neg (by omega)]
theorem cdF_lt {x : Nat} (hx : x ≤ 10008) : cdF x < 20000 := by
  unfold cdF
  split <;> omega
/-- strength -/
def strN (x : Nat) : Nat := if x = 25 then 1 else if x = 24 then 2 else if x = 23 then 3 else 0
def stW (lo : Nat) : List Nat → List Nat
  | [] => []
  | x :: w => if lo ≤ strN x then stW lo w else x :: w
def stC (lo : Nat) : List Nat → List Nat → List Nat
  | [], cs => cs
  | x :: w, cs => if lo ≤ strN x then stC lo w (x :: cs) else cs
def stO (lo : Nat) : List Nat → Nat → Nat
  | [], o => o
  | x :: w, o => if lo ≤ strN x then stO lo w (if x = 23 then o - 1 else o) else o
theorem stW_1 {lo x : Nat} {w : List Nat} (h : lo ≤ strN x) : stW lo (x :: w) = stW lo w := if_pos h
theorem stW_0 {lo x : Nat} {w : List Nat} (h : ¬ lo ≤ strN x) : stW lo (x :: w) = x :: w := if_neg h
theorem stC_1 {lo x : Nat} {w cs : List Nat} (h : lo ≤ strN x) : stC lo (x :: w) cs = stC lo w (x :: cs) := if_pos h
theorem stC_0 {lo x : Nat} {w cs : List Nat} (h : ¬ lo ≤ strN x) : stC lo (x :: w) cs = cs := if_neg h
theorem stO_1 {lo x o : Nat} {w : List Nat} (h : lo ≤ strN x) : stO lo (x :: w) o = stO lo w (if x = 23 then o - 1 else o) := if_pos h
theorem stO_0 {lo x o : Nat} {w : List Nat} (h : ¬ lo ≤ strN x) : stO lo (x :: w) o = o := if_neg h
theorem st_len (lo : Nat) : ∀ w cs : List Nat, (stC lo w cs).length + (stW lo w).length = cs.length + w.length
  | [], cs => rfl
  | x :: w, cs => by
    by_cases h : lo ≤ strN x
    · rw [stC_1 h, stW_1 h, st_len lo w (x :: cs)]
      show cs.length + 1 + w.length = cs.length + (w.length + 1)
      omega
    · rw [stC_0 h, stW_0 h]
/-- what is open, with the shape of the test around it: 1 an 'or' waits, 2 an 'and', 3 both -/
abbrev ES : Type := List (Bool × (Nat → Bool) × (Nat → Bool) × Nat)
def mpE : ES → FT
  | [] => []
  | x :: r => (x.1, x.2.1, x.2.2.1) :: mpE r
theorem mpE_len : ∀ es : ES, (mpE es).length = es.length
  | [] => rfl
  | x :: r => by
    show (mpE r).length + 1 = r.length + 1
    rw [mpE_len r]
def lvW (s : Nat) : List Nat := if s = 0 then [] else if s = 1 then [25] else if s = 2 then [24] else [24, 25]
def lvV (s : Nat) (e f : Nat → Bool) (k : Nat) : List Nat := if s = 0 then [] else if s = 1 then [b2 (e k)] else if s = 2 then [b2 (f k)] else [b2 (f k), b2 (e k)]
def wOf : ES → List Nat
  | [] => []
  | x :: r => (if x.1 = true then 23 else 1) :: (lvW x.2.2.2 ++ wOf r)
def vOf (k : Nat) : ES → List Nat
  | [] => []
  | x :: r => lvV x.2.2.2 x.2.1 x.2.2.1 k ++ vOf k r
def LC (N s : Nat) (e f : Nat → Bool) : Prop := s ≤ 3 ∧ (s = 0 → ∀ k, k < N → e k = false ∧ f k = true) ∧ (s = 1 → ∀ k, k < N → f k = true) ∧ (s = 2 → ∀ k, k < N → e k = false)
def topN : ES → Bool
  | [] => false
  | x :: _ => x.1
def CN (N : Nat) (es : ES) (s : Nat) (e f : Nat → Bool) : Prop := (topN es = true → s = 0) ∧ (topN es = false → LC N s e f)
def FRS (N : Nat) : ES → (Nat → Bool) → (Nat → Bool) → Prop
  | [], _, _ => True
  | x :: r, e, f => (x.1 = true → x.2.1 = e ∧ x.2.2.1 = f) ∧ CN N r x.2.2.2 x.2.1 x.2.2.1 ∧ FRS N r x.2.1 x.2.2.1
/-- the whole of it where a factor is due -/
def DUE (C : CQ) (r : RW) (N : Nat) (q : QS) (es : ES) (s : Nat) (cs : List Nat) : Prop := q.1 = mpE es ∧ CN N es s q.2.1 q.2.2 ∧ FRS N es q.2.1 q.2.2 ∧ ∀ k, k < N → evl C r k cs = some (lvV s q.2.1 q.2.2 k ++ vOf k es)
/-- behind a factor h -/
def AFT (C : CQ) (r : RW) (N : Nat) (e f h : Nat → Bool) (es : ES) (s : Nat) (cs : List Nat) : Prop := topN es = false ∧ LC N s e f ∧ FRS N es e f ∧ ∀ k, k < N → evl C r k cs = some (b2 (h k) :: (lvV s e f k ++ vOf k es))
theorem due_push {q : QS} {es : ES} {s : Nat} {cs : List Nat} (g : Bool) (h : DUE C r N q es s cs) : DUE C r N (opP g q) ((g, q.2.1, q.2.2, s) :: es) 0 cs ∧ lvW 0 ++ wOf ((g, q.2.1, q.2.2, s) :: es) = (if g = true then 23 else 1) :: (lvW s ++ wOf es) := by
  obtain ⟨h1, h2, h3, h4⟩ := h
  refine ⟨?_, rfl⟩
  cases g with
  | true =>
    refine ⟨?_, ⟨fun _ => rfl, fun z => absurd (show true = false from z) (by decide)⟩, ⟨fun _ => ⟨rfl, rfl⟩, h2, h3⟩, h4⟩
    show (true, q.2.1, q.2.2) :: q.1 = (true, q.2.1, q.2.2) :: mpE es
    rw [h1]
  | false =>
    refine ⟨?_, ⟨fun z => absurd (show false = true from z) (by decide), fun _ => ⟨by omega, fun _ _ _ => ⟨rfl, rfl⟩, fun z => absurd z (by decide), fun z => absurd z (by decide)⟩⟩, ⟨fun z => absurd (show false = true from z) (by decide), h2, h3⟩, h4⟩
    show (false, q.2.1, q.2.2) :: q.1 = (false, q.2.1, q.2.2) :: mpE es
    rw [h1]
theorem str_lv {s : Nat} {w : List Nat} (hw : ∀ x t, w = x :: t → strN x = 0) {lo : Nat} (hlo : 3 ≤ lo) : stW lo (lvW s ++ w) = lvW s ++ w ∧ (∀ cs, stC lo (lvW s ++ w) cs = cs) ∧ ∀ o, stO lo (lvW s ++ w) o = o := by
  have key : ∀ v : List Nat, (∀ x t, v = x :: t → strN x < 3) → stW lo v = v ∧ (∀ cs, stC lo v cs = cs) ∧ ∀ o, stO lo v o = o := by
    intro v hv
    cases v with
    | nil => exact ⟨rfl, fun _ => rfl, fun _ => rfl⟩
    | cons x t =>
      have := hv x t rfl
      exact ⟨stW_0 (by omega), fun _ => stC_0 (by omega), fun _ => stO_0 (by omega)⟩
  refine key _ (fun x t e => ?_)
  unfold lvW at e
  split at e
  · rw [hw x t e]; omega
  · split at e
    · have : x = 25 := (List.cons.inj e).1.symm
      rw [this]; decide
    · split at e
      · have : x = 24 := (List.cons.inj e).1.symm
        rw [this]; decide
      · have : x = 24 := (List.cons.inj e).1.symm
        rw [this]; decide
theorem wOf_0 {es : ES} (h : topN es = false) : ∀ x t, wOf es = x :: t → strN x = 0 := by
  intro x t e
  cases es with
  | nil => cases e
  | cons y es =>
    have hy : y.1 = false := h
    have : x = 1 := by
      have := (List.cons.inj e).1
      rw [hy, if_neg (by decide)] at this
      exact this.symm
    rw [this]
    decide
/-- the 'not's end -/
theorem settle3 : ∀ (es : ES) (s : Nat) (e f h : Nat → Bool) (cs : List Nat), CN N es s e f → FRS N es e f → (∀ k, k < N → evl C r k cs = some (b2 (h k) :: (lvV s e f k ++ vOf k es))) →
    ∃ es2 s2, stW 3 (lvW s ++ wOf es) = lvW s2 ++ wOf es2 ∧ stO 3 (lvW s ++ wOf es) es.length = es2.length ∧ mpE es2 = enK (mpE es) ∧ AFT C r N e f (enH (mpE es) h) es2 s2 (stC 3 (lvW s ++ wOf es) cs)
  | [], s, e, f, h, cs, h1, h2, h3 => by
    obtain ⟨a1, a2, a3⟩ := str_lv (s := s) (w := wOf []) (wOf_0 rfl) (Nat.le_refl 3)
    exact ⟨[], s, a1, a3 _, rfl, rfl, h1.2 rfl, trivial, fun k hk => by rw [a2]; exact h3 k hk⟩
  | x :: rs, s, e, f, h, cs, h1, h2, h3 => by
    cases hx : x.1 with
    | true =>
      have s0 : s = 0 := h1.1 hx
      subst s0
      obtain ⟨⟨e1, e2⟩, h4, h5⟩ := (show (x.2.1 = e ∧ x.2.2.1 = f) ∧ _ from ⟨h2.1 hx, h2.2⟩)
      have ew : lvW 0 ++ wOf (x :: rs) = 23 :: (lvW x.2.2.2 ++ wOf rs) := by
        show (if x.1 = true then 23 else 1) :: _ = _
        rw [hx, if_pos rfl]
      rw [e1, e2] at h4 h5
      have hv : ∀ k, k < N → evl C r k (23 :: cs) = some (b2 (!h k) :: (lvV x.2.2.2 e f k ++ vOf k rs)) := fun k hk => by
        refine evl_s (h3 k hk) ?_
        have : lvV 0 e f k ++ vOf k (x :: rs) = lvV x.2.2.2 e f k ++ vOf k rs := by
          show lvV x.2.2.2 x.2.1 x.2.2.1 k ++ vOf k rs = _
          rw [e1, e2]
        rw [this]
        exact stp_not
      obtain ⟨es2, s2, b1, b2, b3, b4⟩ := settle3 rs x.2.2.2 e f (fun k => !h k) (23 :: cs) h4 h5 hv
      refine ⟨es2, s2, ?_, ?_, ?_, ?_⟩
      · rw [ew, stW_1 (by decide)]; exact b1
      · rw [ew, stO_1 (by decide), if_pos rfl]; exact b2
      · rw [b3]
        show enK (mpE rs) = enK ((x.1, x.2.1, x.2.2.1) :: mpE rs)
        rw [enK_s, if_pos hx]
      · rw [ew, stC_1 (by decide)]
        show AFT C r N e f (enH ((x.1, x.2.1, x.2.2.1) :: mpE rs) h) es2 s2 _
        rw [enH_s, if_pos hx]
        exact b4
    | false =>
      obtain ⟨a1, a2, a3⟩ := str_lv (s := s) (w := wOf (x :: rs)) (wOf_0 hx) (Nat.le_refl 3)
      refine ⟨x :: rs, s, a1, a3 _, ?_, hx, h1.2 hx, h2, fun k hk => ?_⟩
      · show (x.1, x.2.1, x.2.2.1) :: mpE rs = enK ((x.1, x.2.1, x.2.2.1) :: mpE rs)
        rw [enK_s, if_neg (by rw [hx]; decide)]
      · rw [a2]
        show _ = some (b2 (enH ((x.1, x.2.1, x.2.2.1) :: mpE rs) h k) :: _)
        rw [enH_s, if_neg (by rw [hx]; decide)]
        exact h3 k hk
theorem st_stop {lo : Nat} (hlo : 1 ≤ lo) {w : List Nat} (hw : ∀ x t, w = x :: t → strN x = 0) : stW lo w = w ∧ (∀ cs, stC lo w cs = cs) ∧ ∀ o, stO lo w o = o := by
  cases w with
  | nil => exact ⟨rfl, fun _ => rfl, fun _ => rfl⟩
  | cons x t =>
    have := hw x t rfl
    exact ⟨stW_0 (by omega), fun _ => stC_0 (by omega), fun _ => stO_0 (by omega)⟩
/-- a test ends -/
theorem settle1 {es : ES} {s : Nat} {e f h : Nat → Bool} {cs : List Nat} (a : AFT C r N e f h es s cs) : stW 1 (lvW s ++ wOf es) = wOf es ∧ (∀ o, stO 1 (lvW s ++ wOf es) o = o) ∧ ∀ k, k < N → evl C r k (stC 1 (lvW s ++ wOf es) cs) = some (b2 (e k || (f k && h k)) :: vOf k es) := by
  obtain ⟨h1, ⟨h2, l0, l1, l2⟩, h3, h4⟩ := a
  obtain ⟨w1, w2, w3⟩ := st_stop (lo := 1) (Nat.le_refl 1) (wOf_0 h1)
  have hs : s = 0 ∨ s = 1 ∨ s = 2 ∨ s = 3 := by omega
  rcases hs with rfl | rfl | rfl | rfl
  · refine ⟨w1, w3, fun k hk => ?_⟩
    rw [show lvW 0 ++ wOf es = wOf es from rfl, w2]
    obtain ⟨y1, y2⟩ := l0 rfl k hk
    rw [y1, y2, Bool.false_or, Bool.true_and]
    exact h4 k hk
  · rw [show lvW 1 ++ wOf es = 25 :: wOf es from rfl]
    refine ⟨by rw [stW_1 (by decide)]; exact w1, fun o => by rw [stO_1 (by decide), if_neg (by decide)]; exact w3 o, fun k hk => ?_⟩
    rw [stC_1 (by decide), w2]
    have y := l1 rfl k hk
    rw [y, Bool.true_and, ← jn_any]
    exact evl_s (h4 k hk) (stp_j (by decide) (by decide) (by decide) (b2_lt _) (b2_lt _))
  · rw [show lvW 2 ++ wOf es = 24 :: wOf es from rfl]
    refine ⟨by rw [stW_1 (by decide)]; exact w1, fun o => by rw [stO_1 (by decide), if_neg (by decide)]; exact w3 o, fun k hk => ?_⟩
    rw [stC_1 (by decide), w2]
    have y := l2 rfl k hk
    rw [y, Bool.false_or, ← jn_both]
    exact evl_s (h4 k hk) (stp_j (by decide) (by decide) (by decide) (b2_lt _) (b2_lt _))
  · rw [show lvW 3 ++ wOf es = 24 :: 25 :: wOf es from rfl]
    refine ⟨by rw [stW_1 (by decide), stW_1 (by decide)]; exact w1, fun o => by rw [stO_1 (by decide), stO_1 (by decide), if_neg (by decide), if_neg (by decide)]; exact w3 o, fun k hk => ?_⟩
    rw [stC_1 (by decide), stC_1 (by decide), w2, ← jn_any, ← jn_both]
    exact evl_s (evl_s (h4 k hk) (stp_j (by decide) (by decide) (by decide) (b2_lt _) (b2_lt _))) (stp_j (by decide) (by decide) (by decide) (b2_lt _) (by rw [jn_both]; exact b2_lt _))
/-- an 'and' -/
theorem settle2 {es : ES} {s : Nat} {e f h : Nat → Bool} {cs : List Nat} (a : AFT C r N e f h es s cs) : ∃ s2, 24 :: stW 2 (lvW s ++ wOf es) = lvW s2 ++ wOf es ∧ (∀ o, stO 2 (lvW s ++ wOf es) o = o) ∧ DUE C r N (mpE es, e, fun k => f k && h k) es s2 (stC 2 (lvW s ++ wOf es) cs) := by
  obtain ⟨h1, ⟨h2, l0, l1, l2⟩, h3, h4⟩ := a
  obtain ⟨w1, w2, w3⟩ := st_stop (lo := 2) (by decide) (wOf_0 h1)
  have fr : FRS N es e (fun k => f k && h k) := by
    cases es with
    | nil => trivial
    | cons x rs =>
      have hx : x.1 = false := h1
      exact ⟨fun z => by rw [hx] at z; exact absurd z (by decide), h3.2⟩
  have hs : s = 0 ∨ s = 1 ∨ s = 2 ∨ s = 3 := by omega
  rcases hs with rfl | rfl | rfl | rfl
  · refine ⟨2, ?_, w3, rfl, ⟨fun z => by rw [h1] at z; exact absurd z (by decide), fun _ => ⟨by omega, fun z => absurd z (by decide), fun z => absurd z (by decide), fun _ k hk => (l0 rfl k hk).1⟩⟩, fr, fun k hk => ?_⟩
    · rw [show lvW 0 ++ wOf es = wOf es from rfl, w1]; rfl
    · rw [show lvW 0 ++ wOf es = wOf es from rfl, w2]
      show _ = some (b2 (f k && h k) :: vOf k es)
      rw [(l0 rfl k hk).2, Bool.true_and]
      exact h4 k hk
  · have w25 : ∀ x t, lvW 1 ++ wOf es = x :: t → ¬ 2 ≤ strN x := fun x t z => by
      have : x = 25 := (List.cons.inj z).1.symm
      rw [this]; decide
    refine ⟨3, ?_, fun o => stO_0 (w25 25 _ rfl), rfl, ⟨fun z => by rw [h1] at z; exact absurd z (by decide), fun _ => ⟨by omega, fun z => absurd z (by decide), fun z => absurd z (by decide), fun z => absurd z (by decide)⟩⟩, fr, fun k hk => ?_⟩
    · rw [show lvW 1 ++ wOf es = 25 :: wOf es from rfl, stW_0 (by decide)]; rfl
    · rw [show lvW 1 ++ wOf es = 25 :: wOf es from rfl, stC_0 (by decide)]
      show _ = some (b2 (f k && h k) :: b2 (e k) :: vOf k es)
      rw [l1 rfl k hk, Bool.true_and]
      exact h4 k hk
  · refine ⟨2, ?_, fun o => ?_, rfl, ⟨fun z => by rw [h1] at z; exact absurd z (by decide), fun _ => ⟨by omega, fun z => absurd z (by decide), fun z => absurd z (by decide), fun _ k hk => l2 rfl k hk⟩⟩, fr, fun k hk => ?_⟩
    · rw [show lvW 2 ++ wOf es = 24 :: wOf es from rfl, stW_1 (by decide), w1]
    · rw [show lvW 2 ++ wOf es = 24 :: wOf es from rfl, stO_1 (by decide), if_neg (by decide)]; exact w3 o
    · rw [show lvW 2 ++ wOf es = 24 :: wOf es from rfl, stC_1 (by decide), w2]
      show _ = some (b2 (f k && h k) :: vOf k es)
      rw [← jn_both]
      exact evl_s (h4 k hk) (stp_j (by decide) (by decide) (by decide) (b2_lt _) (b2_lt _))
  · refine ⟨3, ?_, fun o => ?_, rfl, ⟨fun z => by rw [h1] at z; exact absurd z (by decide), fun _ => ⟨by omega, fun z => absurd z (by decide), fun z => absurd z (by decide), fun z => absurd z (by decide)⟩⟩, fr, fun k hk => ?_⟩
    · rw [show lvW 3 ++ wOf es = 24 :: 25 :: wOf es from rfl, stW_1 (by decide), stW_0 (by decide)]
    · rw [show lvW 3 ++ wOf es = 24 :: 25 :: wOf es from rfl, stO_1 (by decide), stO_0 (by decide), if_neg (by decide)]
    · rw [show lvW 3 ++ wOf es = 24 :: 25 :: wOf es from rfl, stC_1 (by decide), stC_0 (by decide)]
      show _ = some (b2 (f k && h k) :: b2 (e k) :: vOf k es)
      rw [← jn_both]
      exact evl_s (h4 k hk) (stp_j (by decide) (by decide) (by decide) (b2_lt _) (b2_lt _))
/-- an 'or' -/
theorem settleO {es : ES} {s : Nat} {e f h : Nat → Bool} {cs : List Nat} (a : AFT C r N e f h es s cs) : 25 :: stW 1 (lvW s ++ wOf es) = lvW 1 ++ wOf es ∧ DUE C r N (mpE es, (fun k => e k || (f k && h k)), fun _ => true) es 1 (stC 1 (lvW s ++ wOf es) cs) := by
  obtain ⟨b1, b2, b3⟩ := settle1 a
  obtain ⟨h1, -, h3, -⟩ := a
  have fr : FRS N es (fun k => e k || (f k && h k)) (fun _ => true) := by
    cases es with
    | nil => trivial
    | cons x rs =>
      have hx : x.1 = false := h1
      exact ⟨fun z => by rw [hx] at z; exact absurd z (by decide), h3.2⟩
  refine ⟨by rw [b1]; rfl, rfl, ⟨fun z => by rw [h1] at z; exact absurd z (by decide), fun _ => ⟨by omega, fun z => absurd z (by decide), fun _ _ _ => rfl, fun z => absurd z (by decide)⟩⟩, fr, b3⟩
/-- what a sign says: the code against the set -/
theorem jn_cp {l g : Bool} (h : ¬ (l = true ∧ g = true)) (a b : Nat) : jn (if l = true then 20 else if g = true then 22 else 21) a b = b2 (cpB l g a b) := by
  cases l with
  | true =>
    cases g with
    | true => exact absurd ⟨rfl, rfl⟩ h
    | false =>
      show b2 (decide (a < b)) = _
      congr 1
      simp [cpB]
  | false =>
    cases g with
    | true =>
      show b2 (decide (b < a)) = _
      congr 1
      simp [cpB]
    | false =>
      show b2 (decide (a = b)) = _
      congr 1
theorem due_cmp {q : QS} {es : ES} {s : Nat} {cs : List Nat} {x y : Nat} {l g : Bool} {H : Nat → Bool} (hC : CV C) (hN : N = cI C + cG C) (h : DUE C r N q es s cs) (hx : x ≤ 10008) (hy : y ≤ 10008) (hlg : ¬ (l = true ∧ g = true)) (eH : ∀ k, H k = cpB l g (vlF C r x k) (vlF C r y k)) :
    ∀ k, k < N → evl C r k ((if l = true then 20 else if g = true then 22 else 21) :: cdF y :: cdF x :: cs) = some (b2 (H k) :: (lvV s q.2.1 q.2.2 k ++ vOf k es)) := by
  intro k hk
  have lx := vlF_le (r := r) hC (x := x) (k := k) (by omega) hx
  have ly := vlF_le (r := r) hC (x := y) (k := k) (by omega) hy
  refine evl_s (evl_s (evl_s (h.2.2.2 k hk) (stp_v hx)) (stp_v hy)) ?_
  rw [eH, ← jn_cp hlg]
  refine stp_j ?_ ?_ ?_ lx ly
  · cases l <;> cases g <;> decide
  · cases l <;> cases g <;> decide
  · cases l <;> cases g <;> decide
end REL
