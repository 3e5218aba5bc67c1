/-! calls that change: what they keep; setLimit, deposit, undo, snapshot -/
section MUTS
variable {I J : TI} {L M : TL} {b d B : Nat} {X : XT}
theorem WF_cong {C : CQ} {r s : RW} (hC : CV C) (e : ∀ k, 5 ≤ k → k < 81 → s k = r k) : ∀ n, n < cI C + cG C → shF C s n = shF C r n ∧ chF C s n = chF C r n ∧ deF C s n = deF C r n ∧ paF C s n = paF C r n := by
  have hI := hC.1
  have hG := hC.2.1
  have w := WF_ok hC s
  have dle : ∀ g, g < cG C → ∀ v, v < 3 → dl s g v = dl r g v := fun g hg v hv => by
    unfold dl
    rw [e _ (by omega) (by omega)]
  have w2 : WEq C r (shF C s) (chF C s) (deF C s) := by
    refine ⟨fun n hn => by rw [← e (5 + n) (by omega) (by omega)]; exact w.1 n hn, fun g hg => ?_⟩
    obtain ⟨a, c, f⟩ := w.2 g hg
    unfold latC at *
    rw [dle g hg 0 (by omega), dle g hg 1 (by omega)] at a
    rw [dle g hg 2 (by omega)] at c f
    rw [e (21 + g) (by omega) (by omega), e (33 + g) (by omega) (by omega), e (9 + g) (by omega) (by omega)] at f
    exact ⟨a, c, f⟩
  have p2 : PEqn C r (cG C) (paF C s) := by
    have p := paF_ok hC s
    refine ⟨p.1, fun g hg => ?_⟩
    rw [p.2 g hg, dle g hg 0 (by omega), dle g hg 1 (by omega)]
  intro n hn
  obtain ⟨a, c, f⟩ := w2.is hC hn
  exact ⟨a, c, f, PEqn.one hC _ (Nat.le_refl _) (paF_ok hC r) p2 n hn⟩
theorem BC.st {C : CQ} {r s : RW} (hC : CV C) (h : BC I L b C r) (eR : ∀ k, 5 ≤ k → k < 81 → s k = r k) (hS : SC J M (b + 6) C s) (e : ∀ k, b ≤ k → k ≤ b + 41 → (k < b + 6 ∨ b + 36 < k) → J k = I k ∧ M k = L k) : BC J M b C s := by
  refine ⟨h.1.fr (fun k a c => (e k (by omega) (by omega) (by omega)).1), hS, fun n hn => ?_⟩
  obtain ⟨a, c, f, g⟩ := WF_cong hC eR n hn
  rw [(e (b + 37) (by omega) (by omega) (by omega)).2, (e (b + 38) (by omega) (by omega) (by omega)).2, (e (b + 39) (by omega) (by omega) (by omega)).2, (e (b + 41) (by omega) (by omega) (by omega)).1, a, c, f, g]
  exact h.2.2 n hn
theorem CI.bench {Y : XT} {r : RW} (h : CI I L b d Y) (hV : XV Y B) (e : ∀ k, k < 436 → (k < b ∨ b + 41 < k) → J k = I k) (e2 : ∀ k, k < 436 → (k < b ∨ b + 41 < k) → M k = L k) (hB : BC J M b (xC Y) r) : CI J M b d (setr Y r) := by
  obtain ⟨h1, h2, ⟨h3, nx, h4, h5, h6⟩, h7, h8, h9, h10⟩ := h
  have hb := bn_lt h1.1
  refine ⟨h1, hB, ⟨by rw [e 1 (by omega) (by omega)]; exact h3, nx, h4, by rw [e 1 (by omega) (by omega)]; exact h5, fun j hj => ?_⟩, ⟨fun q => by rw [e 1 (by omega) (by omega)]; exact h7.1 q, fun s hs => ?_⟩, ?_, by rw [e 0 (by omega) (by omega)]; exact h9, ?_⟩
  · have hm : (nx + 10 - xk Y + j) % 10 < 10 := Nat.mod_lt _ (by omega)
    exact (h6 j hj).fr (hV.2.2.1.2 j hj).2.2.1 (fun k a c => e k (by omega) (by omega)) (fun k a c => e2 k (by omega) (by omega))
  · rw [e 1 (by omega) (by omega)]
    exact ⟨(h7.2 s hs).1, (h7.2 s hs).2.fr (hV.2.2.2.1 s hs).2.2.1 (fun k a c => e k (by omega) (by omega)) (fun k a c => e2 k (by omega) (by omega))⟩
  · rw [e 0 (by omega) (by omega), e 350 (by omega) (by omega)]
    exact h8
  · rw [e 0 (by omega) (by omega), e 351 (by omega) (by omega)]
    exact h10
theorem RV.mono {C : CQ} {B2 : Nat} {r : RW} (h : RV C B r) (hB : B ≤ B2) : RV C B2 r := ⟨h.1, fun p hp => Nat.le_trans (h.2.1 p hp) hB, h.2.2⟩
theorem XV.mono {B2 : Nat} (h : XV X B) (hB : B ≤ B2) : XV X B2 := ⟨h.1, h.2.1.mono hB, ⟨h.2.2.1.1, fun j hj => (h.2.2.1.2 j hj).mono hB⟩, fun s hs => (h.2.2.2.1 s hs).mono hB, h.2.2.2.2⟩
theorem INV.mono {B2 : Nat} (h : INV I L b d X B) (hB : B ≤ B2) : INV I L b d X B2 := ⟨h.1.mono hB, h.2⟩
theorem upR_s {r : RW} {k : Nat} {v : Int64} : upR r k v k = v := if_pos rfl
theorem upR_n {r : RW} {k i : Nat} {v : Int64} (h : i ≠ k) : upR r k v i = r i := if_neg h
theorem SC.lim {C : CQ} {r : RW} {a : Nat} {v : Int64} {x : Int32} (h : SC I L a C r) (hx : x = nI (un v)) : SC (up2 I a 8 x) L a C (upR r 0 v) := by
  obtain ⟨h1, h2, h3, h4, h5, h6⟩ := h
  refine ⟨by rw [up2_s, upR_s, hx], fun p hp => by rw [up2_row (by omega), upR_n (by omega)]; exact h2 p hp, by rw [up2_n (Or.inr (by decide)), upR_n (by omega)]; exact h3, fun n hn => by rw [upR_n (by omega)]; exact h4 n hn, fun g hg => ?_, fun k hk f hf => ?_⟩
  · rw [upR_n (by omega), upR_n (by omega), upR_n (by omega)]
    obtain ⟨q1, q2, q3, q4⟩ := h5 g hg
    refine ⟨q1, q2, q3, fun w hw => ?_⟩
    rw [up2_row (by omega), upR_dl (by omega)]
    exact q4 w hw
  · rw [upR_n (by omega)] at hk
    rw [up2_row (by omega), upR_n (by omega)]
    exact h6 k hk f hf
theorem SC.pur {C : CQ} {r : RW} {a p : Nat} {v : Int64} {x : Int32} (h : SC I L a C r) (hp : p < 3) (hx : x = nI (un v)) : SC (up2 I (a + 9) p x) L a C (upR r (1 + p) v) := by
  obtain ⟨h1, h2, h3, h4, h5, h6⟩ := h
  refine ⟨by rw [up2_row (by omega), upR_n (by omega)]; exact h1, fun q hq => ?_, by rw [up2_row (by omega), upR_n (by omega)]; exact h3, fun n hn => by rw [upR_n (by omega)]; exact h4 n hn, fun g hg => ?_, fun k hk f hf => ?_⟩
  · rw [up2_at]
    by_cases e : q = p
    · subst e
      rw [if_pos rfl, upR_s, hx]
    · rw [if_neg e, upR_n (by omega)]
      exact h2 q hq
  · rw [upR_n (by omega), upR_n (by omega), upR_n (by omega)]
    obtain ⟨q1, q2, q3, q4⟩ := h5 g hg
    refine ⟨q1, q2, q3, fun w hw => ?_⟩
    rw [up2_row (by omega), upR_dl (by omega)]
    exact q4 w hw
  · rw [upR_n (by omega)] at hk
    rw [up2_row (by omega), upR_n (by omega)]
    exact h6 k hk f hf
theorem RV.lim {C : CQ} {r : RW} {v : Int64} (hC : CV C) (h : RV C B r) (hv : 1 ≤ un v ∧ un v ≤ 20) : RV C B (upR r 0 v) := by
  obtain ⟨h1, h2, h3, h4, h5, h6⟩ := h
  refine ⟨by rw [upR_s]; exact hv, fun p hp => by rw [upR_n (by omega)]; exact h2 p hp, by rw [upR_n (by omega)]; exact h3, fun n hn => by rw [upR_n (by omega)]; exact h4 n hn, fun g hg => ?_, fun k hk => ?_⟩
  · rw [upR_n (by omega), upR_n (by omega), upR_n (by omega)]
    obtain ⟨q1, q2, q3, q4⟩ := h5 g hg
    exact ⟨q1, q2, q3, fun w hw => by rw [upR_dl (by omega)]; exact q4 w hw⟩
  · rw [upR_n (by omega)] at hk
    rw [upR_n (by omega), upR_n (by omega), upR_n (by omega), upR_n (by omega), upR_n (by omega), upR_n (by omega), upR_n (by omega), upR_n (by omega)]
    exact h6 k hk
theorem RV.pur {C : CQ} {r : RW} {p : Nat} {v : Int64} (hC : CV C) (h : RV C B r) (hp : p < 3) (hv : un v ≤ B) : RV C B (upR r (1 + p) v) := by
  obtain ⟨h1, h2, h3, h4, h5, h6⟩ := h
  refine ⟨by rw [upR_n (by omega)]; exact h1, fun q hq => ?_, by rw [upR_n (by omega)]; exact h3, fun n hn => by rw [upR_n (by omega)]; exact h4 n hn, fun g hg => ?_, fun k hk => ?_⟩
  · by_cases e : q = p
    · subst e
      rw [upR_s]
      exact hv
    · rw [upR_n (by omega)]
      exact h2 q hq
  · rw [upR_n (by omega), upR_n (by omega), upR_n (by omega)]
    obtain ⟨q1, q2, q3, q4⟩ := h5 g hg
    exact ⟨q1, q2, q3, fun w hw => by rw [upR_dl (by omega)]; exact q4 w hw⟩
  · rw [upR_n (by omega)] at hk
    rw [upR_n (by omega), upR_n (by omega), upR_n (by omega), upR_n (by omega), upR_n (by omega), upR_n (by omega), upR_n (by omega), upR_n (by omega)]
    exact h6 k hk
theorem un_i32 {n : Nat} (h : n < 2 ^ 31) : un (nI n).toInt64 = n := by rw [nI_l h, un_lN (by omega)]
end MUTS
