/-! accept -/
section ACCEPT
variable {I J : TI} {L M : TL} {b d B : Nat} {X : XT}
/-- what a ruling lays down -/
def rlV (v m : Int64) (s : Bool) : Int64 := if s = true then v ||| m else v &&& (m ^^^ (-1))
def rlR (r : RW) (g : Nat) (m : Int64) (s : Bool) : RW := upR (upR r (21 + g) (r (21 + g) ||| m)) (33 + g) (rlV (r (33 + g)) m s)
theorem rl_sub {v w m : Int64} {s : Bool} (h : (v &&& w) = v) : (rlV v m s &&& (w ||| m)) = rlV v m s := by
  unfold rlV
  apply bw_ext
  intro t ht
  have e : (bw v t && bw w t) = bw v t := by rw [← bw_and, h]
  cases s with
  | true =>
    rw [if_pos rfl, bw_and, bw_or, bw_or]
    cases hv : bw v t <;> cases hw : bw w t <;> cases hm : bw m t <;> rw [hv, hw] at e <;> first | rfl | exact absurd e (by decide)
  | false =>
    rw [if_neg (by decide), bw_and, bw_and, bw_or, bw_not _ ht]
    cases hv : bw v t <;> cases hw : bw w t <;> cases hm : bw m t <;> rw [hv, hw] at e <;> first | rfl | exact absurd e (by decide)
theorem RV.rl {C : CQ} {r : RW} {g : Nat} {m : Int64} {s : Bool} (hC : CV C) (h : RV C B r) (hg : g < cG C) (hm : inH (cH C) m) : RV C B (rlR r g m s) := by
  have hG := hC.2.1
  refine h.updL hC (fun k hk => by unfold rlR; rw [upR_n (by omega), upR_n (by omega)]) (fun g2 hg2 => ?_)
  obtain ⟨q1, q2, q3, -⟩ := h.2.2.2.2.1 g2 hg2
  unfold rlR
  rw [upR_n (show 9 + g2 ≠ 33 + g by omega), upR_n (show 9 + g2 ≠ 21 + g by omega), upR_n (show 21 + g2 ≠ 33 + g by omega)]
  refine ⟨q1, ?_⟩
  by_cases e : g2 = g
  · subst e
    rw [upR_s, upR_s]
    exact ⟨inH_or q2 hm, rl_sub q3⟩
  · rw [upR_n (show 21 + g2 ≠ 21 + g by omega), upR_n (show 33 + g2 ≠ 33 + g by omega), upR_n (show 33 + g2 ≠ 21 + g by omega)]
    exact ⟨q2, q3⟩
theorem SC.rl {C : CQ} {r : RW} {a g : Nat} {m : Int64} {s : Bool} (hC : CV C) (h : SC I L a C r) (hg : g < cG C) : SC I (up2 (up2 L (a + 7) (cI C + g) (r (21 + g) ||| m)) (a + 8) (cI C + g) (rlV (r (33 + g)) m s)) a C (rlR r g m s) := by
  have hG := hC.2.1
  refine h.updL hC (fun k hk => by unfold rlR; rw [upR_n (by omega), upR_n (by omega)]) (by rw [up2_row (by omega), up2_row (by omega)]) (fun n hn => ⟨by rw [up2_row (show a + 6 ≠ a + 8 by omega), up2_row (show a + 6 ≠ a + 7 by omega)], by rw [up2_row (show a + 7 ≠ a + 8 by omega), up2_n (Or.inr (by omega))]⟩) (fun g2 hg2 => ?_)
  obtain ⟨q1, q2, q3, -⟩ := h.2.2.2.2.1 g2 hg2
  unfold rlR
  rw [upR_n (show 9 + g2 ≠ 33 + g by omega), upR_n (show 9 + g2 ≠ 21 + g by omega), upR_n (show 21 + g2 ≠ 33 + g by omega), up2_row (show a + 6 ≠ a + 8 by omega), up2_row (show a + 6 ≠ a + 7 by omega), up2_row (show a + 7 ≠ a + 8 by omega)]
  refine ⟨q1, ?_⟩
  by_cases e : g2 = g
  · subst e
    rw [upR_s, upR_s, up2_s, up2_s]
    exact ⟨rfl, rfl⟩
  · rw [upR_n (show 21 + g2 ≠ 21 + g by omega), upR_n (show 33 + g2 ≠ 33 + g by omega), upR_n (show 33 + g2 ≠ 21 + g by omega), up2_n (Or.inr (show cI C + g2 ≠ cI C + g by omega)), up2_n (Or.inr (show cI C + g2 ≠ cI C + g by omega)), up2_row (show a + 8 ≠ a + 7 by omega)]
    exact ⟨q2, q3⟩
def rlB (r : RW) (k : Nat) : Bool := decide (dF r k 7 = 1) == decide (dF r k 3 = 1)
theorem rlB_n {r : RW} {k : Nat} {x y : Int32} (hx : x = if dF r k 7 = 1 then 1 else 0) (hy : y = if dF r k 3 = 1 then 1 else 0) : x = y ↔ rlB r k = true := by
  subst hx; subst hy
  unfold rlB
  by_cases p : dF r k 7 = 1 <;> by_cases q : dF r k 3 = 1 <;> simp [p, q]
theorem cnt_eq {m x y : Int64} : ((m &&& (x ^^^ (-1))) &&& (y ^^^ (-1))) = (m &&& ((x ||| y) ^^^ (-1))) := by
  apply bw_ext
  intro t ht
  rw [bw_and, bw_and, bw_not _ ht, bw_not _ ht, bw_and, bw_not _ ht, bw_or]
  cases bw m t <;> cases bw x t <;> cases bw y t <;> rfl
end ACCEPT
