/-! gain, bestReplay -/
section GAIN
variable {I J : TI} {L M : TL} {b d B : Nat} {X : XT}
def upR (r : RW) (k : Nat) (v : Int64) : RW := fun i => if i = k then v else r i
theorem upR_row {L : TL} {a j : Nat} {v : Int64} : (up2 L a j v) a = upR (L a) j v := funext fun i => up2_at
theorem upR_dl {r : RW} {k g w : Nat} {v : Int64} (h : k < 45) : dl (upR r k v) g w = dl r g w := by
  unfold dl upR
  rw [if_neg (by omega)]
theorem SEqn.row {C : CQ} {r s : RW} {se : Nat → Int64} {j : Nat} {sh de : Nat → Int64} (hC : CV C) (hj : j ≤ cG C) (h : SEqn C r se j sh de) (e : ∀ k, k < 9 ∨ 21 ≤ k → s k = r k) : SEqn C s se j sh de := by
  have := hC.1
  refine ⟨fun n hn => by rw [e (5 + n) (by omega)]; exact h.1 n hn, fun g hg => ?_⟩
  rw [h.2 g hg]
  unfold shG latC dl
  rw [e (21 + g) (by omega), e (33 + g) (by omega), e (45 + 3 * g + 2) (by omega)]
theorem DEqn.row {C : CQ} {r s : RW} {j : Nat} {ch de : Nat → Int64} (hC : CV C) (hj : j ≤ cG C) (h : DEqn C r j ch de) (e : ∀ k, k < 9 ∨ 21 ≤ k → s k = r k) : DEqn C s j ch de := by
  have := hC.1
  refine ⟨fun n hn => by rw [e (5 + n) (by omega)]; exact h.1 n hn, fun g hg => ?_⟩
  obtain ⟨a, c⟩ := h.2 g hg
  rw [a, c]
  unfold latC dl
  rw [e (45 + 3 * g + 0) (by omega), e (45 + 3 * g + 1) (by omega), e (45 + 3 * g + 2) (by omega)]
  exact ⟨rfl, rfl⟩
/-- what would be wrong behind a replay -/
def stR (r : RW) (g : Nat) (m : Int64) : RW := upR r (9 + g) (r (9 + g) ||| m)
def gnF (C : CQ) (r : RW) (g : Nat) (m : Int64) : Nat := wsF C (shF C (stR r g m)) (deF C (stR r g m))
def hadF (C : CQ) (r : RW) : Nat := wsF C (shF C r) (deF C r)
theorem wsF_le (C : CQ) (hC : CV C) (sh de : Nat → Int64) : wsF C sh de ≤ 1024 := by
  have := hC.1
  have := hC.2.1
  have h := fb_sm_bound (f := fun n => pc (sh n ^^^ de n)) (c := 64) (n := cI C + cG C) (fun k _ => pc_le _)
  unfold wsF
  have : (cI C + cG C) * 64 ≤ 16 * 64 := Nat.mul_le_mul_right _ (by omega)
  omega
/-! bestReplay: pulses in their order, the best so far, what would be wrong, its price -/
noncomputable def kt (p : Nat → Bool) (i : Nat) : Nat := Classical.epsilon (fun t => p t = true ∧ fb_ct p t = i)
theorem kt_ok {p : Nat → Bool} {i t : Nat} (h : p t = true) (h2 : fb_ct p t = i) : kt p i = t := by
  have := Classical.epsilon_spec (p := fun t => p t = true ∧ fb_ct p t = i) ⟨t, h, h2⟩
  exact fb_ct_kth_one this.1 h (this.2.trans h2.symm)
abbrev SQ9 : Type := Int32 × Nat × Int32
noncomputable def brS (C : CQ) (r : RW) (g i : Nat) (s : SQ9) : SQ9 :=
  if prF C (cI C + g) (nI (kt (pf C r g) i)) (nI (en C r g (kt (pf C r g) i))) ≤ nI (un (r 3)) ∧ (gnF C r g (win (kt (pf C r g) i) (en C r g (kt (pf C r g) i))) < s.2.1 ∨ (gnF C r g (win (kt (pf C r g) i) (en C r g (kt (pf C r g) i))) = s.2.1 ∧ s.1 ≠ -1 ∧ prF C (cI C + g) (nI (kt (pf C r g) i)) (nI (en C r g (kt (pf C r g) i))) < s.2.2))
  then (nI (100 * (cI C + g) + i), gnF C r g (win (kt (pf C r g) i) (en C r g (kt (pf C r g) i))), prF C (cI C + g) (nI (kt (pf C r g) i)) (nI (en C r g (kt (pf C r g) i)))) else s
noncomputable def brI (C : CQ) (r : RW) (g : Nat) (s : SQ9) : Nat → SQ9
  | 0 => s
  | i + 1 => brS C r g i (brI C r g s i)
noncomputable def brG (C : CQ) (r : RW) : Nat → SQ9
  | 0 => (-1, hadF C r, 0)
  | g + 1 => brI C r g (brG C r g) (fb_ct (pf C r g) 64)
def brV (C : CQ) (r : RW) (s : SQ9) : Prop := (s.1 = -1 ∧ s.2.1 = hadF C r) ∨ (s.1 ≠ -1 ∧ s.2.1 < hadF C r)
theorem brS_v {C : CQ} {r : RW} {g i : Nat} {s : SQ9} (hC : CV C) (hg : g < cG C) (hi : i < 64) (h : brV C r s) : brV C r (brS C r g i s) := by
  have := hC.1
  have := hC.2.1
  unfold brS
  split
  · rename_i q
    refine Or.inr ⟨nI_nm1 (by omega), ?_⟩
    rcases h with ⟨a, c⟩ | ⟨a, c⟩
    · rcases q.2 with e | ⟨_, e, _⟩
      · rw [c] at e
        exact e
      · exact absurd a e
    · rcases q.2 with e | ⟨e, _, _⟩
      · exact Nat.lt_trans e c
      · show gnF C r g _ < _
        rw [e]
        exact c
  · exact h
theorem brI_v {C : CQ} {r : RW} {g : Nat} {s : SQ9} (hC : CV C) (hg : g < cG C) (h : brV C r s) : ∀ i, i ≤ 64 → brV C r (brI C r g s i)
  | 0, _ => h
  | i + 1, hi => brS_v hC hg (by omega) (brI_v hC hg h i (by omega))
theorem brG_v {C : CQ} {r : RW} (hC : CV C) : ∀ g, g ≤ cG C → brV C r (brG C r g)
  | 0, _ => Or.inl ⟨rfl, rfl⟩
  | g + 1, hg => brI_v hC (by omega) (brG_v hC g (by omega)) _ (fb_ct_le _ _)
/-- the i-th pulse of a gate -/
theorem pf_kth {C : CQ} {r : RW} {g i : Nat} (h : i < fb_ct (pf C r g) 64) : pf C r g (kt (pf C r g) i) = true ∧ fb_ct (pf C r g) (kt (pf C r g) i) = i := by
  obtain ⟨t, _, h2, h3⟩ := fb_ct_kth h
  rw [kt_ok h2 h3]
  exact ⟨h2, h3⟩
end GAIN
