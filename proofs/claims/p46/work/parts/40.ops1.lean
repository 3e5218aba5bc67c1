section OPS
variable {I J : TI} {L M : TL} {b d B : Nat} {X : XT}
theorem rgi {n a c : Nat} (h1 : a ≤ n) (h2 : n < c) : rg (nI n) a c := ⟨n, h1, h2, rfl⟩
theorem INV.C (h : INV I L b d X B) : CV (xC X) := h.1.1
theorem INV.r (h : INV I L b d X B) : RV (xC X) B (xr X) := h.1.2.1
theorem INV.bc (h : INV I L b d X B) : BC I L b (xC X) (xr X) := h.2.2.2.1
theorem INV.nb (h : INV I L b d X B) : 1 ≤ cI (xC X) ∧ cI (xC X) ≤ 4 ∧ cG (xC X) ≤ 12 ∧ 4 ≤ cH (xC X) ∧ cH (xC X) ≤ 60 := ⟨h.C.1.1, h.C.1.2, h.C.2.1, h.C.2.2.1.1, h.C.2.2.1.2⟩
theorem c_net1 {Q : Prop} {QX : String → Prop} {x : Int32} {n : Nat} (h : INV I L b d X B) (hx : x = nI n) (hn : n < cI (xC X) + cG (xC X)) (k : Q) : W_X8_requireNet x I L b d Q QX :=
  s_requireNet h.bc.1 h.C (fun _ => k) (fun e => absurd (hx ▸ rgi (Nat.zero_le _) hn) e)
theorem c_net0 {Q : Prop} {QX : String → Prop} {x : Int32} (h : INV I L b d X B) (hx : ¬ rg x 0 (cI (xC X) + cG (xC X))) (k : QX NSE) : W_X8_requireNet x I L b d Q QX :=
  s_requireNet h.bc.1 h.C (fun e => absurd e hx) (fun _ => k)
theorem c_gate1 {Q : Prop} {QX : String → Prop} {x : Int32} {g : Nat} (h : INV I L b d X B) (hx : x = nI (cI (xC X) + g)) (hg : g < cG (xC X)) (k : Q) : W_X8_requireGate x I L b d Q QX :=
  s_requireGate h.bc.1 h.C (fun _ => k) (fun e => absurd (hx ▸ rgi (Nat.le_add_right _ _) (by omega)) e)
theorem c_gate0 {Q : Prop} {QX : String → Prop} {x : Int32} (h : INV I L b d X B) (hx : ¬ rg x (cI (xC X)) (cI (xC X) + cG (xC X))) (k : QX NSE) : W_X8_requireGate x I L b d Q QX :=
  s_requireGate h.bc.1 h.C (fun e => absurd e hx) (fun _ => k)
theorem c_time1 {Q : Int32 → Prop} {x : Int32} {t : Nat} (h : INV I L b d X B) (hx : x = nI t) (ht : t < cH (xC X) + 1) (k : Q 1) : W_X2_hasTime (b + 1) x I L Q :=
  s_hasTime h.bc.1 h.C (fun _ => k) (fun e => absurd (hx ▸ rgi (Nat.zero_le _) ht) e)
theorem c_time0 {Q : Int32 → Prop} {x : Int32} (h : INV I L b d X B) (hx : ¬ rg x 0 (cH (xC X) + 1)) (k : Q 0) : W_X2_hasTime (b + 1) x I L Q :=
  s_hasTime h.bc.1 h.C (fun e => absurd e hx) (fun _ => k)
theorem c_wave1 {Q : Int64 → Prop} {QX : String → Prop} {x y : Int32} {n m : Nat} (h : INV I L b d X B) (hx : x = nI n) (hy : y = nI m) (hn : n < cI (xC X) + cG (xC X)) (hm : m < 3) (k : Q (wvF (xC X) (xr X) m n)) : W_X8_requireWave x y I L b d Q QX := by
  have nb := h.nb
  subst hx; subst hy
  refine s_requireWave h.bc h.C (fun n2 m2 a a2 e1 e2 => ?_) (fun e => absurd ⟨rgi (Nat.zero_le _) hn, rgi (Nat.zero_le _) hm⟩ e)
  have q1 := (nI_eq (by omega) (by omega)).mp e1
  have q2 := (nI_eq (by omega) (by omega)).mp e2
  subst q1; subst q2
  exact k
theorem c_wave0 {Q : Int64 → Prop} {QX : String → Prop} {x y : Int32} (h : INV I L b d X B) (hx : ¬ (rg x 0 (cI (xC X) + cG (xC X)) ∧ rg y 0 3)) (k : QX NSE) : W_X8_requireWave x y I L b d Q QX :=
  s_requireWave h.bc h.C (fun n m a a2 e1 e2 => absurd ⟨e1 ▸ rgi (Nat.zero_le _) a, e2 ▸ rgi (Nat.zero_le _) a2⟩ hx) (fun _ => k)
def wrF (C : CQ) (r : RW) (n : Nat) : Int64 := shF C r n ^^^ deF C r n
end OPS
