/-! what a change of a delay or an input unsettles -/
section FORGET
variable {I J : TI} {L M : TL} {b d B : Nat} {X : XT}
def dP (r : RW) (k : Nat) : Bool := decide (dF r k 6 = 0 ∨ dF r k 6 = 1)
/-- the row without what was settled of the gates T, its disputes D dropped -/
def fgR (r : RW) (T D : Nat → Bool) : RW := fun i => if 9 ≤ i ∧ i < 45 then (if T ((i - 9) % 12) = true then 0 else r i) else if 81 ≤ i ∧ (i - 81) % 8 = 6 ∧ (i - 81) / 8 < un (r 4) ∧ D ((i - 81) / 8) = true ∧ dP r ((i - 81) / 8) = true then lN 4 else r i
theorem fgR_lo {r : RW} {T D : Nat → Bool} {i : Nat} (h : i < 9 ∨ (45 ≤ i ∧ i < 81)) : fgR r T D i = r i := by
  unfold fgR
  rw [if_neg (by omega), if_neg (by omega)]
theorem fgR_9 {r : RW} {T D : Nat → Bool} {g : Nat} (h : g < 12) : fgR r T D (9 + g) = if T g = true then 0 else r (9 + g) := by
  unfold fgR
  rw [if_pos (by omega), show (9 + g - 9) % 12 = g by omega]
theorem fgR_21 {r : RW} {T D : Nat → Bool} {g : Nat} (h : g < 12) : fgR r T D (21 + g) = if T g = true then 0 else r (21 + g) := by
  unfold fgR
  rw [if_pos (by omega), show (21 + g - 9) % 12 = g by omega]
theorem fgR_33 {r : RW} {T D : Nat → Bool} {g : Nat} (h : g < 12) : fgR r T D (33 + g) = if T g = true then 0 else r (33 + g) := by
  unfold fgR
  rw [if_pos (by omega), show (33 + g - 9) % 12 = g by omega]
theorem fgR_d {r : RW} {T D : Nat → Bool} {k f : Nat} (hk : k < un (r 4)) (hf : f < 8) : fgR r T D (81 + 8 * k + f) = if f = 6 ∧ D k = true ∧ dP r k = true then lN 4 else r (81 + 8 * k + f) := by
  unfold fgR
  rw [if_neg (by omega), show (81 + 8 * k + f - 81) % 8 = f by omega, show (81 + 8 * k + f - 81) / 8 = k by omega]
  by_cases q : f = 6 ∧ D k = true ∧ dP r k = true
  · rw [if_pos q, if_pos ⟨by omega, q.1, hk, q.2⟩]
  · rw [if_neg q, if_neg (fun z => q ⟨z.2.1, z.2.2.2⟩)]
theorem fgR_cg {r : RW} {T T2 D D2 : Nat → Bool} (h : ∀ g, g < 12 → T g = T2 g) (h2 : ∀ k, k < un (r 4) → D k = D2 k) : fgR r T D = fgR r T2 D2 := by
  funext i
  unfold fgR
  by_cases a : 9 ≤ i ∧ i < 45
  · rw [if_pos a, if_pos a, h _ (Nat.mod_lt _ (by omega))]
  · rw [if_neg a, if_neg a]
    by_cases c : (i - 81) / 8 < un (r 4)
    · rw [h2 _ c]
    · rw [if_neg (fun z => c z.2.2.1), if_neg (fun z => c z.2.2.1)]
theorem fgR_0 {r : RW} {T D : Nat → Bool} (h : ∀ g, g < 12 → T g = false) (h2 : ∀ k, k < un (r 4) → D k = false) : fgR r T D = r := by
  funext i
  unfold fgR
  by_cases a : 9 ≤ i ∧ i < 45
  · rw [if_pos a, h _ (Nat.mod_lt _ (by omega)), if_neg (by decide)]
  · rw [if_neg a]
    by_cases c : (i - 81) / 8 < un (r 4)
    · rw [h2 _ c, if_neg (fun z => absurd z.2.2.2.1 (by decide))]
    · rw [if_neg (fun z => c z.2.2.1)]
/-- one more gate -/
theorem fgR_g {r : RW} {T T2 D : Nat → Bool} {j : Nat} (hj : j < 12) (h : ∀ g, g < 12 → T2 g = (T g || g == j)) : upR (upR (upR (fgR r T D) (9 + j) 0) (21 + j) 0) (33 + j) 0 = fgR r T2 D := by
  funext i
  by_cases a : 9 ≤ i ∧ i < 45
  · have e := h ((i - 9) % 12) (Nat.mod_lt _ (by omega))
    have l : ∀ (S : Nat → Bool), fgR r S D i = if S ((i - 9) % 12) = true then 0 else r i := fun S => by unfold fgR; rw [if_pos a]
    rw [l T2, e]
    by_cases q : (i - 9) % 12 = j
    · have : ((i - 9) % 12 == j) = true := by rw [q]; exact beq_self_eq_true j
      rw [this, Bool.or_true, if_pos rfl]
      unfold upR
      by_cases c1 : i = 33 + j
      · rw [if_pos c1]
      · rw [if_neg c1]
        by_cases c2 : i = 21 + j
        · rw [if_pos c2]
        · rw [if_neg c2, if_pos (by omega)]
    · have : ((i - 9) % 12 == j) = false := by rw [beq_eq_false_iff_ne]; exact q
      rw [this, Bool.or_false, upR_n (by omega), upR_n (by omega), upR_n (by omega), l T]
  · rw [upR_n (by omega), upR_n (by omega), upR_n (by omega)]
    unfold fgR
    rw [if_neg a, if_neg a]
/-- one more dispute -/
theorem fgR_k {r : RW} {T D D2 : Nat → Bool} {j : Nat} (hj : j < un (r 4)) (hp : dP r j = true) (h : ∀ k, k < un (r 4) → D2 k = (D k || k == j)) : upR (fgR r T D) (81 + 8 * j + 6) (lN 4) = fgR r T D2 := by
  funext i
  by_cases a : 9 ≤ i ∧ i < 45
  · rw [upR_n (by omega)]
    unfold fgR
    rw [if_pos a, if_pos a]
  · by_cases c : i = 81 + 8 * j + 6
    · subst c
      rw [upR_s, fgR_d hj (by omega), if_pos ⟨rfl, by rw [h j hj, beq_self_eq_true, Bool.or_true], hp⟩]
    · rw [upR_n c]
      unfold fgR
      rw [if_neg a, if_neg a]
      by_cases q : 81 ≤ i ∧ (i - 81) % 8 = 6 ∧ (i - 81) / 8 < un (r 4)
      · have : ((i - 81) / 8 == j) = false := by rw [beq_eq_false_iff_ne]; omega
        rw [h _ q.2.2, this, Bool.or_false]
      · rw [if_neg (fun z => q ⟨z.1, z.2.1, z.2.2.1⟩), if_neg (fun z => q ⟨z.1, z.2.1, z.2.2.1⟩)]
theorem RV.fg {C : CQ} {r : RW} {T D : Nat → Bool} (hC : CV C) (h : RV C B r) : RV C B (fgR r T D) := by
  have hI := hC.1
  have hG := hC.2.1
  refine ⟨by rw [fgR_lo (by omega)]; exact h.1, fun p hp => by rw [fgR_lo (by omega)]; exact h.2.1 p hp, by rw [fgR_lo (by omega)]; exact h.2.2.1, fun n hn => by rw [fgR_lo (by omega)]; exact h.2.2.2.1 n hn, fun g hg => ?_, fun k hk => ?_⟩
  · obtain ⟨q1, q2, q3, q4⟩ := h.2.2.2.2.1 g hg
    rw [fgR_9 (by omega), fgR_21 (by omega), fgR_33 (by omega)]
    refine ⟨?_, ?_, ?_, fun w hw => ?_⟩
    · by_cases e : T g = true
      · rw [if_pos e]; exact inH_0
      · rw [if_neg e]; exact q1
    · by_cases e : T g = true
      · rw [if_pos e]; exact inH_0
      · rw [if_neg e]; exact q2
    · by_cases e : T g = true
      · rw [if_pos e, if_pos e]; rfl
      · rw [if_neg e, if_neg e]; exact q3
    · unfold dl
      rw [fgR_lo (by omega)]
      exact q4 w hw
  · rw [fgR_lo (by omega)] at hk
    have D0 := h.dp hk
    have e := fun f hf => fgR_d (r := r) (T := T) (D := D) (k := k) (f := f) hk hf
    by_cases q : D k = true ∧ dP r k = true
    · have e0 := e 0 (by omega); rw [if_neg (fun z => absurd z.1 (by decide)), show 81 + 8 * k + 0 = 81 + 8 * k by omega] at e0
      have e1 := e 1 (by omega); rw [if_neg (fun z => absurd z.1 (by decide)), show 81 + 8 * k + 1 = 82 + 8 * k by omega] at e1
      have e2 := e 2 (by omega); rw [if_neg (fun z => absurd z.1 (by decide)), show 81 + 8 * k + 2 = 83 + 8 * k by omega] at e2
      have e3 := e 3 (by omega); rw [if_neg (fun z => absurd z.1 (by decide)), show 81 + 8 * k + 3 = 84 + 8 * k by omega] at e3
      have e4 := e 4 (by omega); rw [if_neg (fun z => absurd z.1 (by decide)), show 81 + 8 * k + 4 = 85 + 8 * k by omega] at e4
      have e5 := e 5 (by omega); rw [if_neg (fun z => absurd z.1 (by decide)), show 81 + 8 * k + 5 = 86 + 8 * k by omega] at e5
      have e6 := e 6 (by omega); rw [if_pos ⟨rfl, q⟩, show 81 + 8 * k + 6 = 87 + 8 * k by omega] at e6
      have e7 := e 7 (by omega); rw [if_neg (fun z => absurd z.1 (by decide)), show 81 + 8 * k + 7 = 88 + 8 * k by omega] at e7
      unfold DPV at *
      rw [e0, e1, e2, e3, e4, e5, e6, e7]
      refine ⟨D0.1, D0.2.1, D0.2.2.1, D0.2.2.2.1, D0.2.2.2.2.1, ⟨4, by omega, rfl⟩, ?_⟩
      rcases D0.2.2.2.2.2.2 with z | z
      · exact Or.inl ⟨z.1, by decide⟩
      · exact Or.inr z
    · exact D0.same (fun f hf => by rw [e f hf, if_neg (fun z => q z.2)])
/-- the rows of the class between -/
def FG (I : TI) (L : TL) (b : Nat) (C : CQ) (r : RW) (T D : Nat → Bool) (i : TI) (l : TL) : Prop := (∀ q, (q < b + 17 ∨ b + 36 < q) → i q = I q) ∧ (∀ q, q ≠ b + 12 → q ≠ b + 13 → q ≠ b + 14 → l q = L q) ∧ (∀ w, w < 3 → ∀ n, n < cI C → l (b + 12 + w) n = L (b + 12 + w) n) ∧ (∀ w, w < 3 → ∀ g, g < cG C → l (b + 12 + w) (cI C + g) = if T g = true then 0 else L (b + 12 + w) (cI C + g)) ∧ ∀ k, k < un (r 4) → ∀ f, f < 8 → i (b + 17 + k) f = if f = 6 ∧ D k = true ∧ dP r k = true then 4 else dF r k f
theorem FG.sc {C : CQ} {r : RW} {T D : Nat → Bool} {i : TI} {l : TL} (hC : CV C) (hr : RV C B r) (h : SC I L (b + 6) C r) (f : FG I L b C r T D i l) : SC i l (b + 6) C (fgR r T D) := by
  have hI := hC.1
  have hG := hC.2.1
  have hc := hr.2.2.1
  obtain ⟨f1, f2, f3, f4, f5⟩ := f
  have w0 := fun n hn => f3 0 (by omega) n hn
  have w1 := fun n hn => f3 1 (by omega) n hn
  have g0 := fun g hg => f4 0 (by omega) g hg
  have g1 := fun g hg => f4 1 (by omega) g hg
  have g2 := fun g hg => f4 2 (by omega) g hg
  refine ⟨by rw [f1 _ (by omega), fgR_lo (by omega)]; exact h.1, fun p hp => by rw [f1 _ (by omega), fgR_lo (by omega)]; exact h.2.1 p hp, by rw [f1 _ (by omega), fgR_lo (by omega)]; exact h.2.2.1, fun n hn => ?_, fun g hg => ?_, fun k hk f hf => ?_⟩
  · obtain ⟨q1, q2, q3⟩ := h.2.2.2.1 n hn
    rw [fgR_lo (by omega), f2 (b + 6 + 5) (by omega) (by omega) (by omega), show b + 6 + 6 = b + 12 + 0 by omega, show b + 6 + 7 = b + 12 + 1 by omega, w0 n hn, w1 n hn]
    exact ⟨q1, q2, q3⟩
  · obtain ⟨q1, q2, q3, q4⟩ := h.2.2.2.2.1 g hg
    rw [show b + 6 + 6 = b + 12 + 0 by omega] at q1 ⊢
    rw [show b + 6 + 7 = b + 12 + 1 by omega] at q2 ⊢
    rw [show b + 6 + 8 = b + 12 + 2 by omega] at q3 ⊢
    rw [g0 g hg, g1 g hg, g2 g hg, fgR_9 (by omega), fgR_21 (by omega), fgR_33 (by omega), q1, q2, q3]
    refine ⟨rfl, rfl, rfl, fun w hw => ?_⟩
    rw [f1 _ (by omega), q4 w hw]
    unfold dl
    rw [fgR_lo (by omega)]
  · rw [fgR_lo (by omega)] at hk
    rw [show b + 6 + 11 + k = b + 17 + k by omega, f5 k hk f hf, fgR_d hk hf]
    by_cases q : f = 6 ∧ D k = true ∧ dP r k = true
    · rw [if_pos q, if_pos q]
      rfl
    · rw [if_neg q, if_neg q, ← h.2.2.2.2.2 k hk f hf, h.ds hk hf]
end FORGET
