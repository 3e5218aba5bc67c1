/-! stateAt, size, times, cost -/
section OPS3
variable {I J : TI} {L M : TL} {b d B : Nat} {X : XT}
def stF (C : CQ) (r : RW) (n t : Nat) : Int32 := if n < cI C then 0 else if bw (r (9 + (n - cI C))) t = true then 2 else bi (bw (r (21 + (n - cI C))) t)
theorem s_timeState {Q : Int32 → Prop} {C : CQ} {r : RW} {a n t : Nat} {x y : Int32} (h : SC I L a C r) (hC : CV C) (hx : x = nI n) (hn : n < cI C + cG C) (hy : y = nI t) (ht : t < 64) (k : Q (stF C r n t)) : W_X6_timeState a x y I L Q := by
  subst hx; subst hy
  have hI := hC.1
  have hG := hC.2.1
  have vn : vp_in (nI n) 16 := pk_in n 16 (by omega) rfl
  unfold stF at k
  unfold W_X6_timeState
  rw [pk_cl n rfl (by omega)]
  by_cases q : n < cI C
  · obtain ⟨a1, a2, a3⟩ := h.2.2.2.1 n q
    rw [if_pos q] at k
    rw [a2, a3]
    refine ⟨vn, s_bitOf rfl ht ⟨fun _ => ⟨vn, s_bitOf rfl ht ?_⟩, fun e => ?_⟩⟩
    · rw [bw_0]
      exact k
    · rw [bw_0] at e
      exact absurd e (by decide)
  · obtain ⟨g, rfl⟩ : ∃ g, n = cI C + g := ⟨n - cI C, by omega⟩
    obtain ⟨a1, a2, a3, -⟩ := h.2.2.2.2.1 g (by omega)
    rw [if_neg q, Nat.add_sub_cancel_left] at k
    rw [a1, a2]
    refine ⟨vn, s_bitOf rfl ht ⟨fun e => ⟨vn, s_bitOf rfl ht ?_⟩, fun e => ?_⟩⟩
    · rw [bi_1] at e
      rw [if_neg e] at k
      exact k
    · rw [bi_1] at e
      rw [if_pos e] at k
      exact k
def szF (C : CQ) (r : RW) (k : Nat) : Int32 := match k with
  | 0 => nI (cI C)
  | 1 => nI (cG C)
  | 2 => nI (cH C)
  | 3 => nI (un (r 0))
  | 4 => nI (cR C)
  | 5 => nI (cF C)
  | 6 => nI (un (r 4))
  | 7 => nI (un (r 1))
  | 8 => nI (un (r 2))
  | _ => nI (un (r 3))
theorem c_size {Q : Int32 → Prop} {QX : String → Prop} {n : Nat} (h : INV I L b d X B) (hn : n < 10) (k : Q (szF (xC X) (xr X) n)) : W_X8_size (nI n) I L b d Q QX := by
  obtain ⟨c1, c2, c3, c4, c5, -, -⟩ := h.bc.1
  obtain ⟨s1, s2, s3, -⟩ := h.bc.2.1
  have p0 : I (b + 15) 0 = nI (un (xr X 1)) := s2 0 (by omega)
  have p1 : I (b + 15) 1 = nI (un (xr X 2)) := s2 1 (by omega)
  have p2 : I (b + 15) 2 = nI (un (xr X 3)) := s2 2 (by omega)
  unfold W_X8_size
  rw [c1, c2, c3, c4, c5, s1, s3, p0, p1, p2]
  have z : ∀ m, m < 10 → nI n = nI m → n = m := fun m hm e => (nI_eq (by omega) (by omega)).mp e
  refine ⟨fun e => ?_, fun e => ?_, fun e => ?_, fun e => ?_, fun e => ?_, fun e => ?_, fun e => ?_, fun e => ?_, fun e => ?_, fun e => ?_, fun e => ?_⟩
  · have := z 0 (by omega) e; subst this; exact k
  · have := z 1 (by omega) e; subst this; exact k
  · have := z 2 (by omega) e; subst this; exact k
  · have := z 3 (by omega) e; subst this; exact k
  · have := z 4 (by omega) e; subst this; exact k
  · have := z 5 (by omega) e; subst this; exact k
  · have := z 6 (by omega) e; subst this; exact k
  · have := z 7 (by omega) e; subst this; exact k
  · have := z 8 (by omega) e; subst this; exact k
  · have := z 9 (by omega) e; subst this; exact k
  · exfalso
    rcases e with e | e
    · exact nI_pos (by omega) e
    · have := (nI_ltI (a := 9) (by omega) (by omega)).mp e
      omega
theorem c_size0 {Q : Int32 → Prop} {QX : String → Prop} {x : Int32} (hx : ¬ rg x 0 10) (k : QX NSE) : W_X8_size x I L b d Q QX := by
  have z : ∀ m, m < 10 → x = nI m → False := fun m hm e => hx (e ▸ rgi (Nat.zero_le _) hm)
  unfold W_X8_size
  exact ⟨fun e => (z 0 (by omega) e).elim, fun e => (z 1 (by omega) e).elim, fun e => (z 2 (by omega) e).elim, fun e => (z 3 (by omega) e).elim, fun e => (z 4 (by omega) e).elim, fun e => (z 5 (by omega) e).elim, fun e => (z 6 (by omega) e).elim, fun e => (z 7 (by omega) e).elim, fun e => (z 8 (by omega) e).elim, fun e => (z 9 (by omega) e).elim, fun _ => k⟩
/-- from and to are times of a bench, in their order -/
def tmO (x y : Int32) (H : Nat) : Prop := ∃ f t, x = nI f ∧ y = nI t ∧ f ≤ t ∧ t ≤ H
theorem c_times1 {Q : Prop} {QX : String → Prop} {x y : Int32} {f t : Nat} (h : INV I L b d X B) (hx : x = nI f) (hy : y = nI t) (h1 : f ≤ t) (h2 : t ≤ cH (xC X)) (k : Q) : W_X8_requireTimes x y I L b d Q QX := by
  have nb := h.nb
  subst hx; subst hy
  unfold W_X8_requireTimes
  refine c_time1 h rfl (by omega) ⟨fun e => absurd e (by decide), fun _ => c_time1 h rfl (by omega) ⟨fun e => absurd e (by decide), fun _ => ⟨fun _ => k, fun e => absurd (nI_le h1 (by omega)) e⟩⟩⟩
theorem c_times0 {Q : Prop} {QX : String → Prop} {x y : Int32} (h : INV I L b d X B) (hx : ¬ tmO x y (cH (xC X))) (k : QX IAE) : W_X8_requireTimes x y I L b d Q QX := by
  have nb := h.nb
  unfold W_X8_requireTimes
  by_cases q : rg x 0 (cH (xC X) + 1)
  · obtain ⟨f, -, hf, rfl⟩ := q
    refine c_time1 h rfl hf ⟨fun e => absurd e (by decide), fun _ => ?_⟩
    by_cases q2 : rg y 0 (cH (xC X) + 1)
    · obtain ⟨t, -, ht, rfl⟩ := q2
      refine c_time1 h rfl ht ⟨fun e => absurd e (by decide), fun _ => ⟨fun e => ?_, fun _ => k⟩⟩
      exact absurd ⟨f, t, rfl, rfl, (nI_leI (by omega) (by omega)).mp e, by omega⟩ hx
    · exact c_time0 h q2 ⟨fun _ => k, fun e => absurd rfl e⟩
  · exact c_time0 h q ⟨fun _ => k, fun e => absurd rfl e⟩
end OPS3
