/-! stateAt, size, times, cost -/
section OPS3
variable {I J : TI} {L M : TL} {b d B : Nat} {X : XT}
def stF (C : CQ) (r : RW) (n t : Nat) : Int32 := if n < cI C then 0 else if bw (r (9 + (n - cI C))) t = true then 2 else bi (bw (r (21 + (n - cI C))) t)
theorem s_timeState {Q : Int32 → Prop} {C : CQ} {r : RW} {a n t : Nat} {x y : Int32} (h : SC I L a C r) (hC : CV C) (hx : x = nI n) (hn : n < cI C + cG C) (hy : y = nI t) (ht : t < 64) (k : Q (stF C r n t)) : W_X6_timeState a x y I L Q := by
  subst hx; subst hy
  have hI := hC.1
  have hG := hC.2.1
  have vn : vp_in (nI n) 16 := pk_in n 16 (by omega) rfl
  unfold stF at k
  unfold W_X6_timeState
  rw [pk_cl n rfl (by omega)]
  by_cases q : n < cI C
  · obtain ⟨a1, a2, a3⟩ := h.2.2.2.1 n q
    rw [if_pos q] at k
    rw [a2, a3]
    refine ⟨vn, s_bitOf rfl ht ⟨fun _ => ⟨vn, s_bitOf rfl ht ?_⟩, fun e => ?_⟩⟩
    · rw [bw_0]
      exact k
    · rw [bw_0] at e
      exact absurd e (by decide)
  · obtain ⟨g, rfl⟩ : ∃ g, n = cI C + g := ⟨n - cI C, by omega⟩
    obtain ⟨a1, a2, a3, -⟩ := h.2.2.2.2.1 g (by omega)
    rw [if_neg q, Nat.add_sub_cancel_left] at k
    rw [a1, a2]
    refine ⟨vn, s_bitOf rfl ht ⟨fun e => ⟨vn, s_bitOf rfl ht ?_⟩, fun e => ?_⟩⟩
    · rw [bi_1] at e
      rw [if_neg e] at k
      exact k
    · rw [bi_1] at e
      rw [if_pos e] at k
      exact k
theorem op_stateAt {p1 p2 : Int32} {P : Int32 → Int32 → TI → TL → Prop} (h : INV I L b d X B) (fin : ∀ k r J M, OKL k r.toInt64 J M b d X B → P k r J M) : W_L_stateAt p1 p2 I L b d (fun k L1 => W_X9_stateAt p1 p2 I L1 (fun r J => P k r J L1)) := by
  have nb := h.nb
  unfold W_L_stateAt W_X8_stateAt
  by_cases hn : rg p1 0 (cI (xC X) + cG (xC X))
  · obtain ⟨n, -, hn, rfl⟩ := hn
    refine c_net1 h rfl hn ?_
    by_cases ht : rg p2 0 (cH (xC X) + 1)
    · obtain ⟨t, -, ht, rfl⟩ := ht
      refine c_time1 h rfl ht ⟨fun _ => s_timeState h.bc.2.1 h.C rfl hn rfl (by omega) ?_, fun e => absurd e (by decide)⟩
      unfold W_X9_stateAt
      refine m_noNet1 h.out rfl hn ⟨fun e => absurd rfl e, fun _ => ?_⟩
      refine s_in (a := 0) (c := cH (xC X) + 1) rfl rfl (by rw [h.thr.mc.2.2.1]; congr 1; exact (nI_pred _).symm) (by omega) (by omega) (by omega) (fun _ => s_fails1 ⟨fun _ => ?_, fun e => absurd rfl e⟩) (fun e => absurd (rgi (Nat.zero_le _) ht) e)
      have ff := fun v (e : v = stF (xC X) (xr X) n t) => fin 0 v (up2 I 436 0 0) (up2 L 456 0 (stF (xC X) (xr X) n t).toInt64) (fin0 h.out.thr up2_s (by rw [up2_s, e]))
      rw [h.thr.mc.1]
      by_cases q : n < cI (xC X)
      · have hneg : nI n - nI (cI (xC X)) < 0 := pk_sneg (by omega) q
        refine ⟨fun e => absurd hneg (lt_nle.mpr e), fun _ => ff 0 ?_⟩
        unfold stF
        rw [if_pos q]
      · obtain ⟨g, rfl⟩ : ∃ g, n = cI (xC X) + g := ⟨n - cI (xC X), by omega⟩
        rw [pk_sub (Nat.le_add_right _ _), Nat.add_sub_cancel_left, show (9 : Int32) + nI g = nI (9 + g) from nI_add 9 g, show (21 : Int32) + nI g = nI (21 + g) from nI_add 21 g, pk_cl (9 + g) rfl (by omega), pk_cl (21 + g) rfl (by omega), h.out.row]
        have es : stF (xC X) (xr X) (cI (xC X) + g) t = if bw (xr X (9 + g)) t = true then 2 else bi (bw (xr X (21 + g)) t) := by
          unfold stF
          rw [if_neg q, Nat.add_sub_cancel_left]
        refine ⟨fun _ => ⟨pk_in _ 241 (by omega) rfl, s_bit rfl (by omega) ⟨fun e => ⟨pk_in _ 241 (by omega) rfl, s_bit rfl (by omega) (ff _ ?_)⟩, fun e => ff 2 ?_⟩⟩, fun e => absurd (nI_pos' (by omega)) e⟩
        · rw [bi_1] at e
          rw [es, if_neg e]
        · rw [bi_1] at e
          rw [es, if_pos e]
    · refine c_time0 h ht ⟨fun e => absurd rfl e, fun _ => ⟨rfl, ?_⟩⟩
      unfold W_X9_stateAt
      refine m_noNet1 h rfl hn ⟨fun e => absurd rfl e, fun _ => ?_⟩
      refine s_in (a := 0) (c := cH (xC X) + 1) rfl rfl (by rw [h.thr.mc.2.2.1]; congr 1; exact (nI_pred _).symm) (by omega) (by omega) (by omega) (fun e => absurd e ht) (fun _ => s_fails0 ⟨fun e => absurd e (by decide), fun _ => ?_⟩)
      rw [up2_u]
      exact fin _ _ _ _ (fin1 h.thr up2_s (by decide))
  · refine c_net0 h hn ⟨rfl, ?_⟩
    unfold W_X9_stateAt
    exact m_noNet0 h hn ⟨fun _ => fin _ _ _ _ (fin1 h.thr up2_s (by decide)), fun e => absurd e (by decide)⟩
def szF (C : CQ) (r : RW) (k : Nat) : Int32 := match k with
  | 0 => nI (cI C)
  | 1 => nI (cG C)
  | 2 => nI (cH C)
  | 3 => nI (un (r 0))
  | 4 => nI (cR C)
  | 5 => nI (cF C)
  | 6 => nI (un (r 4))
  | 7 => nI (un (r 1))
  | 8 => nI (un (r 2))
  | _ => nI (un (r 3))
theorem c_size {Q : Int32 → Prop} {QX : String → Prop} {n : Nat} (h : INV I L b d X B) (hn : n < 10) (k : Q (szF (xC X) (xr X) n)) : W_X8_size (nI n) I L b d Q QX := by
  obtain ⟨c1, c2, c3, c4, c5, -, -⟩ := h.bc.1
  obtain ⟨s1, s2, s3, -⟩ := h.bc.2.1
  have p0 : I (b + 15) 0 = nI (un (xr X 1)) := s2 0 (by omega)
  have p1 : I (b + 15) 1 = nI (un (xr X 2)) := s2 1 (by omega)
  have p2 : I (b + 15) 2 = nI (un (xr X 3)) := s2 2 (by omega)
  unfold W_X8_size
  rw [c1, c2, c3, c4, c5, s1, s3, p0, p1, p2]
  have z : ∀ m, m < 10 → nI n = nI m → n = m := fun m hm e => (nI_eq (by omega) (by omega)).mp e
  refine ⟨fun e => ?_, fun e => ?_, fun e => ?_, fun e => ?_, fun e => ?_, fun e => ?_, fun e => ?_, fun e => ?_, fun e => ?_, fun e => ?_, fun e => ?_⟩
  · have := z 0 (by omega) e; subst this; exact k
  · have := z 1 (by omega) e; subst this; exact k
  · have := z 2 (by omega) e; subst this; exact k
  · have := z 3 (by omega) e; subst this; exact k
  · have := z 4 (by omega) e; subst this; exact k
  · have := z 5 (by omega) e; subst this; exact k
  · have := z 6 (by omega) e; subst this; exact k
  · have := z 7 (by omega) e; subst this; exact k
  · have := z 8 (by omega) e; subst this; exact k
  · have := z 9 (by omega) e; subst this; exact k
  · exfalso
    rcases e with e | e
    · exact nI_pos (by omega) e
    · have := (nI_ltI (a := 9) (by omega) (by omega)).mp e
      omega
theorem c_size0 {Q : Int32 → Prop} {QX : String → Prop} {x : Int32} (hx : ¬ rg x 0 10) (k : QX NSE) : W_X8_size x I L b d Q QX := by
  have z : ∀ m, m < 10 → x = nI m → False := fun m hm e => hx (e ▸ rgi (Nat.zero_le _) hm)
  unfold W_X8_size
  exact ⟨fun e => (z 0 (by omega) e).elim, fun e => (z 1 (by omega) e).elim, fun e => (z 2 (by omega) e).elim, fun e => (z 3 (by omega) e).elim, fun e => (z 4 (by omega) e).elim, fun e => (z 5 (by omega) e).elim, fun e => (z 6 (by omega) e).elim, fun e => (z 7 (by omega) e).elim, fun e => (z 8 (by omega) e).elim, fun e => (z 9 (by omega) e).elim, fun _ => k⟩
theorem op_size {p1 : Int32} {P : Int32 → Int32 → TI → TL → Prop} (h : INV I L b d X B) (fin : ∀ k r J M, OKL k r.toInt64 J M b d X B → P k r J M) : W_L_size p1 I L b d (fun k L1 => W_X9_size p1 I L1 (fun r J => P k r J L1)) := by
  unfold W_L_size
  by_cases hn : rg p1 0 10
  · obtain ⟨n, -, hn, rfl⟩ := hn
    refine c_size h hn ?_
    unfold W_X9_size
    refine s_in (a := 0) (c := 10) rfl rfl rfl (by omega) (by omega) (by omega) (fun _ => s_fails1 ⟨fun _ => ?_, fun e => absurd rfl e⟩) (fun e => absurd (rgi (Nat.zero_le _) hn) e)
    obtain ⟨m1, m2, m3, m4, m5, -⟩ := h.thr (x := 0).mc
    rw [m1, m2, m3, m4, m5, h.out.row, un_i, un_i]
    have ff := fun v (e : v = szF (xC X) (xr X) n) => fin 0 v (up2 I 436 0 0) (up2 L 456 0 (szF (xC X) (xr X) n).toInt64) (fin0 h.out.thr up2_s (by rw [up2_s, e]))
    have z : ∀ m, m < 10 → nI n = nI m → n = m := fun m hm e => (nI_eq (by omega) (by omega)).mp e
    refine ⟨fun e => ff _ ?_, fun e => ff _ ?_, fun e => ff _ ?_, fun e => ff _ ?_, fun e => ff _ ?_, fun e => ff _ ?_, fun e => ff _ ?_, fun e => ?_⟩
    · have := z 0 (by omega) e; subst this; rfl
    · have := z 1 (by omega) e; subst this; rfl
    · have := z 2 (by omega) e; subst this; rfl
    · have := z 3 (by omega) e; subst this; rfl
    · have := z 4 (by omega) e; subst this; rfl
    · have := z 5 (by omega) e; subst this; rfl
    · have := z 6 (by omega) e; subst this; rfl
    · have h6 : 6 < n := by
        rcases e with e | e
        · exact absurd e (nI_pos (by omega))
        · exact (nI_ltI (a := 6) (by omega) (by omega)).mp e
      have ei : (1 : Int32) + nI n - 7 = nI (n - 6) := by
        rw [show (1 : Int32) + nI n = nI (1 + n) from nI_add 1 n, show (7 : Int32) = nI 7 from rfl, pk_sub (by omega)]
        congr 1
        omega
      rw [pk_cl (n - 6) ei (by omega), un_i]
      refine ⟨pk_in (n - 6) 241 (by omega) ei, ff _ ?_⟩
      match n, h6, hn with
      | 7, _, _ => rfl
      | 8, _, _ => rfl
      | 9, _, _ => rfl
  · refine c_size0 hn ⟨rfl, ?_⟩
    unfold W_X9_size
    refine s_in (a := 0) (c := 10) rfl rfl rfl (by omega) (by omega) (by omega) (fun e => absurd e hn) (fun _ => s_fails0 ⟨fun e => absurd e (by decide), fun _ => ?_⟩)
    rw [up2_u]
    exact fin _ _ _ _ (fin1 h.thr up2_s (by decide))
/-- from and to are times of a bench, in their order -/
def tmO (x y : Int32) (H : Nat) : Prop := ∃ f t, x = nI f ∧ y = nI t ∧ f ≤ t ∧ t ≤ H
theorem c_times1 {Q : Prop} {QX : String → Prop} {x y : Int32} {f t : Nat} (h : INV I L b d X B) (hx : x = nI f) (hy : y = nI t) (h1 : f ≤ t) (h2 : t ≤ cH (xC X)) (k : Q) : W_X8_requireTimes x y I L b d Q QX := by
  have nb := h.nb
  subst hx; subst hy
  unfold W_X8_requireTimes
  refine c_time1 h rfl (by omega) ⟨fun e => absurd e (by decide), fun _ => c_time1 h rfl (by omega) ⟨fun e => absurd e (by decide), fun _ => ⟨fun _ => k, fun e => absurd (nI_le h1 (by omega)) e⟩⟩⟩
theorem c_times0 {Q : Prop} {QX : String → Prop} {x y : Int32} (h : INV I L b d X B) (hx : ¬ tmO x y (cH (xC X))) (k : QX IAE) : W_X8_requireTimes x y I L b d Q QX := by
  have nb := h.nb
  unfold W_X8_requireTimes
  by_cases q : rg x 0 (cH (xC X) + 1)
  · obtain ⟨f, -, hf, rfl⟩ := q
    refine c_time1 h rfl hf ⟨fun e => absurd e (by decide), fun _ => ?_⟩
    by_cases q2 : rg y 0 (cH (xC X) + 1)
    · obtain ⟨t, -, ht, rfl⟩ := q2
      refine c_time1 h rfl ht ⟨fun e => absurd e (by decide), fun _ => ⟨fun e => ?_, fun _ => k⟩⟩
      exact absurd ⟨f, t, rfl, rfl, (nI_leI (by omega) (by omega)).mp e, by omega⟩ hx
    · exact c_time0 h q2 ⟨fun _ => k, fun e => absurd rfl e⟩
  · exact c_time0 h q ⟨fun _ => k, fun e => absurd rfl e⟩
theorem m_noTimes1 {Q : Int32 → TI → Prop} {x y z : Int32} {g f t : Nat} (h : INV I L b d X B) (hz : z = nI (cI (xC X) + g)) (hg : g < cG (xC X)) (hx : x = nI f) (hy : y = nI t) (h1 : f ≤ t) (h2 : t ≤ cH (xC X)) (k : Q 0 (up2 I 436 0 0)) : W_X9_noTimes z x y I L Q := by
  have nb := h.nb
  subst hx; subst hy
  unfold W_X9_noTimes
  refine m_noGate1 h hz hg ⟨fun e => absurd rfl e, fun _ => ?_⟩
  refine s_in (a := 0) (c := cH (xC X) + 1) rfl rfl (by rw [h.thr.mc.2.2.1]; congr 1; exact (nI_pred _).symm) (by omega) (by omega) (by omega) (fun _ => ⟨fun e => absurd e (by decide), fun _ => ?_⟩) (fun e => absurd (rgi (Nat.zero_le _) (by omega)) e)
  refine s_in (a := f) (c := cH (xC X) + 1) rfl rfl (by rw [h.thr.mc.2.2.1]; congr 1; exact (nI_pred _).symm) (by omega) (by omega) (by omega) (fun _ => ⟨fun e => absurd e (by decide), fun _ => ?_⟩) (fun e => absurd (rgi h1 (by omega)) e)
  exact s_fails1 ⟨fun _ => k, fun e => absurd rfl e⟩
theorem m_noTimesG {Q : Int32 → TI → Prop} {x y z : Int32} (h : INV I L b d X B) (hz : ¬ rg z (cI (xC X)) (cI (xC X) + cG (xC X))) (k : Q 1 (up2 I 436 0 1)) : W_X9_noTimes z x y I L Q := by
  unfold W_X9_noTimes
  exact m_noGate0 h hz ⟨fun _ => k, fun e => absurd e (by decide)⟩
theorem m_noTimesT {Q : Int32 → TI → Prop} {x y z : Int32} {g : Nat} (h : INV I L b d X B) (hz : z = nI (cI (xC X) + g)) (hg : g < cG (xC X)) (hx : ¬ tmO x y (cH (xC X))) (k : Q 1 (up2 I 436 0 2)) : W_X9_noTimes z x y I L Q := by
  have nb := h.nb
  unfold W_X9_noTimes
  refine m_noGate1 h hz hg ⟨fun e => absurd rfl e, fun _ => ?_⟩
  have last : B_X9_noTimes_42 (up2 I 436 0 0) L Q := by
    show B_X9_noTimes_43 0 (up2 I 436 0 0) L Q
    refine s_fails0 ⟨fun e => absurd e (by decide), fun _ => ?_⟩
    rw [up2_u]
    exact k
  refine s_in (a := 0) (c := cH (xC X) + 1) rfl rfl (by rw [h.thr.mc.2.2.1]; congr 1; exact (nI_pred _).symm) (by omega) (by omega) (by omega) (fun q => ⟨fun e => absurd e (by decide), fun _ => ?_⟩) (fun e => ⟨fun _ => last, fun e => absurd rfl e⟩)
  obtain ⟨f, -, hf, rfl⟩ := q
  refine s_in (a := f) (c := cH (xC X) + 1) rfl rfl (by rw [h.thr.mc.2.2.1]; congr 1; exact (nI_pred _).symm) (by omega) (by omega) (by omega) (fun q => ⟨fun e => absurd e (by decide), fun _ => ?_⟩) (fun e => ⟨fun _ => last, fun e => absurd rfl e⟩)
  obtain ⟨t, h1, ht, rfl⟩ := q
  exact absurd ⟨f, t, rfl, rfl, h1, by omega⟩ hx
theorem op_cost {p1 p2 p3 : Int32} {P : Int32 → Int32 → TI → TL → Prop} (h : INV I L b d X B) (fin : ∀ k r J M, OKL k r.toInt64 J M b d X B → P k r J M) : W_L_cost p1 p2 p3 I L b d (fun k L1 => W_X9_cost p1 p2 p3 I L1 (fun r J => P k r J L1)) := by
  have nb := h.nb
  unfold W_L_cost W_X8_cost
  by_cases hg : rg p1 (cI (xC X)) (cI (xC X) + cG (xC X))
  · obtain ⟨n, n1, hn, rfl⟩ := hg
    obtain ⟨g, rfl⟩ : ∃ g, n = cI (xC X) + g := ⟨n - cI (xC X), by omega⟩
    have hg : g < cG (xC X) := by omega
    refine c_gate1 h rfl hg ?_
    by_cases ht : tmO p2 p3 (cH (xC X))
    · obtain ⟨f, t, rfl, rfl, h1, h2⟩ := ht
      refine c_times1 h rfl rfl h1 h2 (s_price h.bc.1 h.C rfl hn ?_)
      unfold W_X9_cost
      refine m_noTimes1 h.out rfl hg rfl rfl h1 h2 ⟨fun _ => s_costOf h.thr.mc h.C rfl hn (fin _ _ _ _ (fin0 h.out.thr up2_s up2_s)), fun e => absurd rfl e⟩
    · refine c_times0 h ht (Or.inr ⟨rfl, ?_⟩)
      unfold W_X9_cost
      exact m_noTimesT h rfl hg ht ⟨fun e => absurd e (by decide), fun _ => fin _ _ _ _ (fin1 h.thr up2_s (by decide))⟩
  · refine c_gate0 h hg (Or.inl ⟨rfl, ?_⟩)
    unfold W_X9_cost
    exact m_noTimesG h hg ⟨fun e => absurd e (by decide), fun _ => fin _ _ _ _ (fin1 h.thr up2_s (by decide))⟩
end OPS3
