/-! texts: tokens, in class and reference -/
section TEXT
variable {I J : TI} {L M : TL}
def rnF (P : Nat → Bool) : Nat → Nat → Nat
  | 0, p => p
  | n + 1, p => if P p = true then rnF P n (p + 1) else p
/-- the end of a run -/
def runT (P : Nat → Bool) (ln p : Nat) : Nat := rnF P (ln - p) p
theorem runT_1 {P : Nat → Bool} {ln p : Nat} (h : p < ln) (hp : P p = true) : runT P ln p = runT P ln (p + 1) := by
  unfold runT
  obtain ⟨m, hm⟩ : ∃ m, ln - p = m + 1 := ⟨ln - p - 1, by omega⟩
  rw [hm, show ln - (p + 1) = m by omega]
  show (if P p = true then _ else _) = _
  rw [if_pos hp]
theorem runT_0 {P : Nat → Bool} {ln p : Nat} (hp : P p = false) : runT P ln p = p := by
  unfold runT
  cases h : ln - p with
  | zero => rfl
  | succ m =>
    show (if P p = true then _ else _) = _
    rw [if_neg (by rw [hp]; decide)]
theorem runT_e {P : Nat → Bool} {ln p : Nat} (h : ln ≤ p) : runT P ln p = p := by
  unfold runT
  rw [Nat.sub_eq_zero_of_le h]
  rfl
theorem rnF_ge (P : Nat → Bool) : ∀ n p, p ≤ rnF P n p ∧ rnF P n p ≤ p + n
  | 0, p => ⟨Nat.le_refl _, Nat.le_refl _⟩
  | n + 1, p => by
    have := rnF_ge P n (p + 1)
    show p ≤ (if P p = true then _ else _) ∧ (if P p = true then _ else _) ≤ _
    split <;> omega
theorem runT_b {P : Nat → Bool} {ln p : Nat} (h : p ≤ ln) : p ≤ runT P ln p ∧ runT P ln p ≤ ln := by
  have := rnF_ge P (ln - p) p
  unfold runT
  omega
theorem rnF_all (P : Nat → Bool) : ∀ n p i, p ≤ i → i < rnF P n p → P i = true
  | 0, p, i, h1, h2 => by
    have h2 : i < p := h2
    omega
  | n + 1, p, i, h1, h2 => by
    change i < (if P p = true then _ else _) at h2
    by_cases e : P p = true
    · rw [if_pos e] at h2
      by_cases q : i = p
      · rw [q]; exact e
      · exact rnF_all P n (p + 1) i (by omega) h2
    · rw [if_neg e] at h2
      omega
theorem runT_all {P : Nat → Bool} {ln p i : Nat} (h1 : p ≤ i) (h2 : i < runT P ln p) : P i = true := rnF_all P _ p i h1 h2
def wsB (c : Nat → Nat) (i : Nat) : Bool := c i == 32 || c i == 10
def ltB (c : Nat → Nat) (i : Nat) : Bool := decide (97 ≤ c i ∧ c i ≤ 122)
def dgB (c : Nat → Nat) (i : Nat) : Bool := decide (48 ≤ c i ∧ c i ≤ 57)
/-- the token behind p: kind, start, end -/
def tkN (c : Nat → Nat) (ln p : Nat) : Nat × Nat × Nat := if runT (wsB c) ln p < ln then (if ltB c (runT (wsB c) ln p) = true then (1, runT (wsB c) ln p, runT (ltB c) ln (runT (wsB c) ln p)) else if dgB c (runT (wsB c) ln p) = true then (2, runT (wsB c) ln p, runT (dgB c) ln (runT (wsB c) ln p)) else (3, runT (wsB c) ln p, runT (wsB c) ln p + 1)) else (0, runT (wsB c) ln p, runT (wsB c) ln p)
/-- token; error and its place -/
abbrev PS : Type := (Nat × Nat × Nat) × Nat × Int32
def tk (S : PS) : Nat := S.1.1
def ts (S : PS) : Nat := S.1.2.1
def te (S : PS) : Nat := S.1.2.2
def er (S : PS) : Nat := S.2.1
def ep (S : PS) : Int32 := S.2.2
def nvF (c : Nat → Nat) (s : Nat) : Nat → Nat
  | 0 => 0
  | n + 1 => 10 * nvF c s n + (c (s + n) - 48)
def hsF (c : Nat → Nat) (s : Nat) : Nat → Nat
  | 0 => 0
  | n + 1 => 27 * hsF c s n + (c (s + n) - 96)
def numF (c : Nat → Nat) (S : PS) : Nat := nvF c (ts S) (te S - ts S)
def PV (ln : Nat) (S : PS) : Prop := (ts S ≤ te S ∧ te S ≤ ln) ∧ (tk S ≤ 3 ∧ (tk S ≠ 0 → ts S < ln)) ∧ er S ≤ 4
def advF (c : Nat → Nat) (ln : Nat) (S : PS) : PS := if er S = 0 then (tkN c ln (te S), S.2) else S
def failF (code : Nat) (S : PS) : PS := if er S = 0 then (S.1, code, nI (ts S)) else S
theorem tkN_v {c : Nat → Nat} {ln p : Nat} {x : Nat} {y : Int32} (h : p ≤ ln) (hx : x ≤ 4) : PV ln (tkN c ln p, x, y) := by
  have b := runT_b (P := wsB c) h
  unfold tkN
  generalize runT (wsB c) ln p = s at *
  by_cases q : s < ln
  · rw [if_pos q]
    by_cases q1 : ltB c s = true
    · rw [if_pos q1]
      have := runT_b (P := ltB c) (show s ≤ ln by omega)
      exact ⟨this, ⟨by show (1 : Nat) ≤ 3; omega, fun _ => q⟩, hx⟩
    · rw [if_neg q1]
      by_cases q2 : dgB c s = true
      · rw [if_pos q2]
        have := runT_b (P := dgB c) (show s ≤ ln by omega)
        exact ⟨this, ⟨by show (2 : Nat) ≤ 3; omega, fun _ => q⟩, hx⟩
      · rw [if_neg q2]
        exact ⟨⟨Nat.le_succ s, q⟩, ⟨Nat.le_refl 3, fun _ => q⟩, hx⟩
  · rw [if_neg q]
    exact ⟨⟨Nat.le_refl s, b.2⟩, ⟨Nat.zero_le 3, fun e => absurd rfl e⟩, hx⟩
theorem advF_v {c : Nat → Nat} {ln : Nat} {S : PS} (h : PV ln S) : PV ln (advF c ln S) := by
  unfold advF
  split
  · exact tkN_v h.1.2 h.2.2
  · exact h
theorem failF_v {code ln : Nat} {S : PS} (h : PV ln S) (hc : code ≤ 4) : PV ln (failF code S) := by
  unfold failF
  split
  · exact ⟨h.1, h.2.1, hc⟩
  · exact h
def sb (x : Nat) : Int32 := (nI x).toInt8.toInt32
theorem sb_lt : ∀ x, x < 256 → ((¬ sb x < 97 ∧ ¬ 122 < sb x) ↔ (97 ≤ x ∧ x ≤ 122)) := by decide +kernel
theorem sb_fig : ∀ x, x < 256 → ((¬ sb x < 48 ∧ ¬ 57 < sb x) ↔ (48 ≤ x ∧ x ≤ 57)) := by decide +kernel
theorem sb_lo : ∀ x, x < 128 → sb x = nI x := by decide +kernel
theorem sb_hi : ∀ x, x < 256 → 128 ≤ x → sb x < 0 := by decide +kernel
theorem sb_eq {x y : Nat} (hx : x < 256) (hy : y < 128) : sb x = nI y ↔ x = y := by
  by_cases q : x < 128
  · rw [sb_lo x q]
    exact nI_eq (by omega) (by omega)
  · constructor
    · intro e
      have := sb_hi x hx (by omega)
      rw [e] at this
      exact absurd this (nI_pos (by omega))
    · intro e
      omega
/-- the class's tokens -/
def TC (I : TI) (c : Nat → Nat) (ln : Nat) (S : PS) : Prop := (I 344 1 = nI ln ∧ I 344 2 = nI (ts S) ∧ I 344 3 = nI (te S) ∧ I 344 4 = nI (tk S) ∧ (tk S = 2 → I 344 5 = nI (min (numF c S) 1000000)) ∧ I 344 6 = nI (er S) ∧ I 344 7 = ep S) ∧ ∀ i, i < ln → I 350 i = sb (c i)
def txV (c : Nat → Nat) (ln : Nat) : Prop := ln ≤ 600 ∧ ∀ i, i < ln → c i < 256
theorem min_10 {a d : Nat} : min (10 * min a 1000000 + d) 1000000 = min (10 * a + d) 1000000 := by omega
theorem c_failed {Q : Int32 → Prop} {c : Nat → Nat} {ln : Nat} {S : PS} (h : TC I c ln S) (v : PV ln S) (k0 : er S = 0 → Q 0) (k1 : er S ≠ 0 → Q 1) : W_X7_failed I L Q := by
  have := v.2.2
  unfold W_X7_failed
  rw [h.1.2.2.2.2.2.1]
  refine ⟨fun e => k0 ((nI_eq (b := 0) (by omega) (by omega)).mp e), fun e => k1 (fun z => e (by rw [z]; rfl))⟩
theorem c_fail {Q : TI → Prop} {c : Nat → Nat} {ln : Nat} {S : PS} {code : Nat} {x : Int32} (h : TC I c ln S) (v : PV ln S) (hx : x = nI code) (k : ∀ J, (∀ q, q ≠ 344 → J q = I q) → TC J c ln (failF code S) → Q J) : W_X7_fail x I L Q := by
  subst hx
  unfold W_X7_fail
  refine c_failed h v (fun e => ⟨fun z => absurd rfl z, fun _ => ?_⟩) (fun e => ⟨fun _ => ?_, fun z => absurd z (by decide)⟩)
  · refine k _ (fun q hq => by rw [up2_row hq, up2_row hq]) ?_
    unfold failF
    rw [if_pos e]
    obtain ⟨⟨h1, h2, h3, h4, h5, h6, h7⟩, h8⟩ := h
    refine ⟨⟨?_, ?_, ?_, ?_, fun q => ?_, ?_, ?_⟩, fun i hi => by rw [up2_row (by decide), up2_row (by decide)]; exact h8 i hi⟩
    · rw [up2_n (Or.inr (by decide)), up2_n (Or.inr (by decide))]; exact h1
    · rw [up2_n (Or.inr (by decide)), up2_n (Or.inr (by decide))]; exact h2
    · rw [up2_n (Or.inr (by decide)), up2_n (Or.inr (by decide))]; exact h3
    · rw [up2_n (Or.inr (by decide)), up2_n (Or.inr (by decide))]; exact h4
    · rw [up2_n (Or.inr (by decide)), up2_n (Or.inr (by decide))]; exact h5 q
    · rw [up2_n (Or.inr (by decide)), up2_s]; rfl
    · rw [up2_s, up2_n (Or.inr (by decide))]; exact h2
  · refine k I (fun _ _ => rfl) ?_
    unfold failF
    rw [if_neg e]
    exact h
end TEXT
