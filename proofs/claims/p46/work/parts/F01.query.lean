/-! what the class's methods answer: questions -/
section JQ
variable {I J : TI} {L M : TL} {b d B : Nat} {X : XT}
theorem j_wave {Q : Int64 → Prop} {QX : String → Prop} {x y : Int32} {n m : Nat} (h : INV I L b d X B) (hx : x = nI n) (hy : y = nI m) (hn : n < cI (xC X) + cG (xC X)) (hm : m < 3) (k : Q (wvF (xC X) (xr X) m n)) : W_X8_wave x y I L b d Q QX := by
  unfold W_X8_wave
  exact c_wave1 h hx hy hn hm k
theorem j_dependsOn {Q : Int32 → Prop} {QX : String → Prop} {x : Int32} {g : Nat} (h : INV I L b d X B) (hx : x = nI (cI (xC X) + g)) (hg : g < cG (xC X)) (k : Q (nI (cD (xC X) (cI (xC X) + g)))) : W_X8_dependsOn x I L b d Q QX := by
  have nb := h.nb
  subst hx
  unfold W_X8_dependsOn
  have e5 : I (b + 5) (cI (xC X) + g) = nI (cD (xC X) (cI (xC X) + g)) := h.bc.1.2.2.2.2.2.2 _ (by omega)
  refine c_gate1 h rfl hg ?_
  rw [pk_cl (cI (xC X) + g) rfl (by omega), e5]
  exact ⟨pk_in _ 16 (by omega) rfl, k⟩
theorem j_stateAt {Q : Int32 → Prop} {QX : String → Prop} {x y : Int32} {n t : Nat} (h : INV I L b d X B) (hx : x = nI n) (hy : y = nI t) (hn : n < cI (xC X) + cG (xC X)) (ht : t ≤ cH (xC X)) (k : Q (stF (xC X) (xr X) n t)) : W_X8_stateAt x y I L b d Q QX := by
  have nb := h.nb
  subst hx
  subst hy
  unfold W_X8_stateAt
  refine c_net1 h rfl hn ?_
  exact c_time1 h rfl (Nat.lt_succ_of_le ht) ⟨fun _ => s_timeState h.bc.2.1 h.C rfl hn rfl (by omega) k, fun e => absurd e (by decide)⟩
theorem j_cost {Q : Int32 → Prop} {QX : String → Prop} {x y z : Int32} {g f t : Nat} (h : INV I L b d X B) (hx : x = nI (cI (xC X) + g)) (hg : g < cG (xC X)) (hy : y = nI f) (hz : z = nI t) (h1 : f ≤ t) (h2 : t ≤ cH (xC X)) (k : Q (prF (xC X) (cI (xC X) + g) (nI f) (nI t))) : W_X8_cost x y z I L b d Q QX := by
  have nb := h.nb
  subst hx
  subst hy
  subst hz
  unfold W_X8_cost
  refine c_gate1 h rfl hg ?_
  exact c_times1 h rfl rfl h1 h2 (s_price h.bc.1 h.C rfl (by omega) k)
theorem j_gate {Q : Int32 → Prop} {QX : String → Prop} {x y : Int32} {g k : Nat} (h : INV I L b d X B) (hx : x = nI (cI (xC X) + g)) (hg : g < cG (xC X)) (hy : y = nI k) (hk : k < 10) (q : Q (gtF (xC X) (xr X) g k)) : W_X8_gate x y I L b d Q QX := by
  have nb := h.nb
  subst hx
  subst hy
  have hn : cI (xC X) + g < cI (xC X) + cG (xC X) := by omega
  unfold W_X8_gate
  obtain ⟨o1, o2, o3, o4⟩ := h.C.net hg
  refine c_gate1 h rfl hg ?_
  have cc := h.bc.1
  obtain ⟨q1, q2, q3⟩ := cc.2.2.2.2.2.1 g hg
  replace q1 : I (b + 2) (cI (xC X) + g) = nI (cK (xC X) g) := q1
  replace q2 : I (b + 3) (cI (xC X) + g) = nI (cO (xC X) g) := q2
  replace q3 : I (b + 4) (cI (xC X) + g) = tx (cT (xC X) g) := q3
  obtain ⟨q4, q5, q6⟩ := h.bc.2.1.dc g hg
  have vn : vp_in (nI (cI (xC X) + g)) 16 := pk_in _ 16 o4 rfl
  rw [pk_cl (cI (xC X) + g) rfl (by omega), q1, q2, q3, q4, q5, q6]
  have z : ∀ m, m < 10 → nI k = nI m → k = m := fun m hm e => (nI_eq (by omega) (by omega)).mp e
  have run : ∀ v, v = gtF (xC X) (xr X) g k → Q v := fun v e => by rw [e]; exact q
  refine ⟨fun e => ⟨vn, run _ ?_⟩, fun e => ⟨vn, run _ ?_⟩, fun e => ⟨vn, run _ ?_⟩, fun e => ⟨vn, run _ ?_⟩, fun e => ⟨vn, run _ ?_⟩, fun e => ⟨vn, run _ ?_⟩, fun e => s_cone cc h.C rfl hn (run _ ?_), fun e => s_settledT h.bc.2.1 h.C rfl hg (run _ ?_), fun e => s_ruledT h.bc.2.1 h.C rfl hg (run _ ?_), fun e => c_pulses h rfl hg (run _ ?_), fun e => ?_⟩
  · have := z 0 (by omega) e; subst this; rfl
  · have := z 1 (by omega) e; subst this; rfl
  · have := z 2 (by omega) e; subst this; rfl
  · have := z 3 (by omega) e; subst this; rfl
  · have := z 4 (by omega) e; subst this; rfl
  · have := z 5 (by omega) e; subst this; rfl
  · have := z 6 (by omega) e; subst this; rfl
  · have := z 7 (by omega) e; subst this; rfl
  · have := z 8 (by omega) e; subst this; rfl
  · have := z 9 (by omega) e; subst this; rfl
  · exfalso
    rcases e with e | e
    · exact nI_pos (by omega) e
    · have := (nI_ltI (a := 9) (by omega) (by omega)).mp e
      omega
end JQ
