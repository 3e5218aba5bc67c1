/-! changes, quietFrom, shortest of a wave: both classes -/
def chP (H : Nat) (w : Int64) (t : Nat) : Bool := decide (t < H) && (bw w t ^^ bw w (t + 1))
def chN (H : Nat) (w : Int64) : Nat := fb_ct (chP H w) 64
def qfN (w : Int64) : Nat → Nat
  | 0 => 0
  | t + 1 => if bw w t = bw w (t + 1) then qfN w t else t + 1
theorem qfN_le (w : Int64) : ∀ t, qfN w t ≤ t
  | 0 => Nat.le_refl _
  | t + 1 => by
    have := qfN_le w t
    unfold qfN
    split <;> omega
/-- the end of the run that holds t -/
def isEnd (H : Nat) (w : Int64) (t e : Nat) : Prop := t ≤ e ∧ e ≤ H ∧ (∀ k, t ≤ k → k ≤ e → bw w k = bw w t) ∧ (e = H ∨ bw w (e + 1) ≠ bw w t)
theorem isEnd.one {H : Nat} {w : Int64} {t e f : Nat} (h : isEnd H w t e) (h2 : isEnd H w t f) : e = f := by
  obtain ⟨a, b, c, d⟩ := h
  obtain ⟨a2, b2, c2, d2⟩ := h2
  rcases Nat.lt_trichotomy e f with q | q | q
  · rcases d with d | d
    · omega
    · exact absurd (c2 (e + 1) (by omega) (by omega)) d
  · exact q
  · rcases d2 with d | d
    · omega
    · exact absurd (c (f + 1) (by omega) (by omega)) d
def rsN (w : Int64) : Nat → Nat
  | 0 => 0
  | t + 1 => if bw w (t + 1) = bw w t then rsN w t else t + 1
def lsN (w : Int64) : Nat → Nat
  | 0 => 0
  | t + 1 => if bw w (t + 1) = bw w t then lsN w t else if 0 < rsN w t ∧ (lsN w t = 0 ∨ t + 1 - rsN w t < lsN w t) then t + 1 - rsN w t else lsN w t
def lsI (n : Nat) : Int32 := if n = 0 then -1 else nI n
theorem rsN_le (w : Int64) : ∀ t, rsN w t ≤ t
  | 0 => Nat.le_refl _
  | t + 1 => by
    have := rsN_le w t
    unfold rsN
    split <;> omega
theorem lsN_le (w : Int64) : ∀ t, lsN w t ≤ t
  | 0 => Nat.le_refl _
  | t + 1 => by
    have := lsN_le w t
    unfold lsN
    split
    · omega
    · split <;> omega
theorem run_keep {H : Nat} {w : Int64} {t e : Nat} (h : isEnd H w t e) (hs : rsN w t = t) : ∀ j, t ≤ j → j ≤ e → rsN w j = t ∧ lsN w j = lsN w t := by
  intro j h1 h2
  induction j with
  | zero =>
    have : t = 0 := by omega
    subst this
    exact ⟨rfl, rfl⟩
  | succ j ih =>
    by_cases q : t = j + 1
    · subst q
      exact ⟨hs, rfl⟩
    · obtain ⟨a, b⟩ := ih (by omega) (by omega)
      have e1 : bw w (j + 1) = bw w j := by rw [h.2.2.1 (j + 1) (by omega) h2, h.2.2.1 j (by omega) (by omega)]
      refine ⟨?_, ?_⟩
      · show (if _ then _ else _) = _
        rw [if_pos e1, a]
      · show (if _ then _ else _) = _
        rw [if_pos e1, b]