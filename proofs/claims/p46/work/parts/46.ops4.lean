/-! gate, pulse, gain -/
section OPS4
variable {I J : TI} {L M : TL} {b d B : Nat} {X : XT}
def pf (C : CQ) (r : RW) (g : Nat) : Nat → Bool := psB (cH C) (un (r 0)) (r (21 + g) ||| r (9 + g)) (shF C r (cI C + g))
theorem pf_lt {C : CQ} {r : RW} {g t : Nat} (h : pf C r g t = true) : 0 < t ∧ t < cH C := psB_lt h
def en (C : CQ) (r : RW) (g t : Nat) : Nat := enN (shF C r (cI C + g)) (cH C) t
theorem pf_en {C : CQ} {r : RW} {g t : Nat} (h : pf C r g t = true) : t ≤ en C r g t ∧ en C r g t < cH C := by
  obtain ⟨p1, p2, p3, p4⟩ := psB_iff.mp h
  exact ⟨(enN_ok _ p1.2).1, p3.1⟩
/-- the pulse with number y of gate x begins at t -/
def puA (C : CQ) (r : RW) (x y : Int32) (g t : Nat) : Prop := x = nI (cI C + g) ∧ g < cG C ∧ pf C r g t = true ∧ ∃ i, i < 2 ^ 31 ∧ y = nI i ∧ fb_ct (pf C r g) t = i
theorem puA_one {C : CQ} {r : RW} {x y : Int32} {g t g2 t2 : Nat} (hC : CV C) (h : puA C r x y g t) (h2 : puA C r x y g2 t2) : g2 = g ∧ t2 = t := by
  have := hC.1
  have := hC.2.1
  obtain ⟨a1, a2, a3, i, a4, a5, a6⟩ := h
  obtain ⟨b1, b2, b3, j, b4, b5, b6⟩ := h2
  have e : cI C + g = cI C + g2 := (nI_eq (by omega) (by omega)).mp (a1.symm.trans b1)
  have eg : g2 = g := by omega
  subst eg
  have ei : i = j := (nI_eq a4 b4).mp (a5.symm.trans b5)
  subst ei
  exact ⟨rfl, fb_ct_kth_one b3 a3 (b6.trans a6.symm)⟩
theorem c_rp1 {Q : Int32 → Prop} {QX : String → Prop} {x y : Int32} {g t : Nat} (h : INV I L b d X B) (hp : puA (xC X) (xr X) x y g t) (k : Q (nI t)) : W_X8_requirePulse x y I L b d Q QX := by
  have nb := h.nb
  obtain ⟨a1, a2, a3, i, a4, a5, a6⟩ := id hp
  unfold W_X8_requirePulse
  refine c_gate1 h a1 a2 (s_pulseStart h.bc h.C h.r.1.2 a1 a2 (fun t2 j e1 e2 e3 => ?_) (fun q => (q t i a5 a3 a6 a4).elim))
  have lt := pf_lt (g := g) e2
  have hj : j < 2 ^ 31 := by
    have := fb_ct_le (pf (xC X) (xr X) g) t2
    have e4 : fb_ct (pf (xC X) (xr X) g) t2 = j := e3
    omega
  have := (puA_one h.C hp ⟨a1, a2, e2, j, hj, e1, e3⟩).2
  subst this
  exact ⟨fun _ => k, fun q => absurd q (nI_nm1 (by omega))⟩
theorem c_rp0 {Q : Int32 → Prop} {QX : String → Prop} {x y : Int32} (h : INV I L b d X B) (hp : ¬ ∃ g t, puA (xC X) (xr X) x y g t) (k : QX NSE) : W_X8_requirePulse x y I L b d Q QX := by
  have nb := h.nb
  unfold W_X8_requirePulse
  by_cases hg : rg x (cI (xC X)) (cI (xC X) + cG (xC X))
  · obtain ⟨n, n1, hn, rfl⟩ := hg
    obtain ⟨g, rfl⟩ : ∃ g, n = cI (xC X) + g := ⟨n - cI (xC X), by omega⟩
    have hg : g < cG (xC X) := by omega
    refine c_gate1 h rfl hg (s_pulseStart h.bc h.C h.r.1.2 rfl hg (fun t2 j e1 e2 e3 => ?_) (fun _ => ⟨fun q => absurd rfl q, fun _ => k⟩))
    have lt := pf_lt (g := g) e2
    have hj : j < 2 ^ 31 := by
      have := fb_ct_le (pf (xC X) (xr X) g) t2
      have e4 : fb_ct (pf (xC X) (xr X) g) t2 = j := e3
      omega
    exact absurd ⟨g, t2, rfl, hg, e2, j, hj, e1, e3⟩ hp
  · exact c_gate0 h hg k
theorem fpI.z (h : fpI I J) : J 436 0 = I 436 0 := h.2 0 (by omega) (by omega) (by omega)
theorem nneg {x : Int32} {i : Nat} (h : x = nI i) (hi : i < 2 ^ 31) : ¬ x < 0 := by
  rw [h]
  exact nI_pos hi
theorem c_pulses {Q : Int32 → Prop} {x : Int32} {g : Nat} (h : INV I L b d X B) (hx : x = nI (cI (xC X) + g)) (hg : g < cG (xC X)) (k : Q (nI (fb_ct (pf (xC X) (xr X) g) 64))) : W_X0_pulses b x I L Q := by
  unfold W_X0_pulses
  refine s_pulseStarts h.bc h.C h.r.1.2 hx hg (s_bcL ?_)
  rw [show pc (mkw (psB (cH (xC X)) (un (xr X 0)) (xr X (21 + g) ||| xr X (9 + g)) (shF (xC X) (xr X) (cI (xC X) + g)))) = fb_ct (pf (xC X) (xr X) g) 64 from fb_ct_cong (fun t ht => bw_mkw _ ht)]
  exact k
def gtF (C : CQ) (r : RW) (g k : Nat) : Int32 := match k with
  | 0 => nI (cK C g)
  | 1 => nI (cO C g)
  | 2 => tx (cT C g)
  | 3 => nI (dl r g 0)
  | 4 => nI (dl r g 1)
  | 5 => nI (dl r g 2)
  | 6 => nI (fb_ct (cD C (cI C + g)).testBit 32)
  | 7 => nI (pc (r (9 + g)))
  | 8 => nI (pc (r (21 + g) &&& (r (9 + g) ^^^ (-1))))
  | _ => nI (fb_ct (pf C r g) 64)
theorem s_settledT {Q : Int32 → Prop} {C : CQ} {r : RW} {a g : Nat} {x : Int32} (h : SC I L a C r) (hC : CV C) (hx : x = nI (cI C + g)) (hg : g < cG C) (k : Q (nI (pc (r (9 + g))))) : W_X6_settledTimes a x I L Q := by
  subst hx
  have n4 := (hC.net hg).2.2.2
  unfold W_X6_settledTimes
  rw [pk_cl (cI C + g) rfl (by omega), (h.2.2.2.2.1 g hg).1]
  exact ⟨pk_in _ 16 n4 rfl, s_bcL k⟩
theorem s_ruledT {Q : Int32 → Prop} {C : CQ} {r : RW} {a g : Nat} {x : Int32} (h : SC I L a C r) (hC : CV C) (hx : x = nI (cI C + g)) (hg : g < cG C) (k : Q (nI (pc (r (21 + g) &&& (r (9 + g) ^^^ (-1)))))) : W_X6_ruledTimes a x I L Q := by
  subst hx
  have n4 := (hC.net hg).2.2.2
  unfold W_X6_ruledTimes
  rw [pk_cl (cI C + g) rfl (by omega), (h.2.2.2.2.1 g hg).1, (h.2.2.2.2.1 g hg).2.1]
  exact ⟨pk_in _ 16 n4 rfl, pk_in _ 16 n4 rfl, s_bcL k⟩
/-- the cheap verdict -/
def cvF (r : RW) (g len : Nat) (v : Bool) : Int32 := if len ≤ dl r g (if v = true then 0 else 1) then 0 else 1
theorem c_cheap {Q : Int32 → Prop} {x y z : Int32} {g len : Nat} {v : Bool} (h : INV I L b d X B) (hx : x = nI (cI (xC X) + g)) (hg : g < cG (xC X)) (hy : y = nI len) (hl : len < 2 ^ 31) (hz : z = bi v) (k : Q (cvF (xr X) g len v)) : W_X0_cheapVerdict b x y z I L Q := by
  have dv := h.dv g hg (if v = true then 0 else 1) (by split <;> omega)
  unfold cvF at k
  unfold W_X0_cheapVerdict
  refine s_swing h.C h.bc.2.1.dc hx hz hg ?_
  refine pk_le len _ (fun q => ?_) (fun q => ?_) hy rfl hl (by omega)
  · rw [if_pos q] at k
    exact k
  · rw [if_neg (by omega)] at k
    exact k
def plF (C : CQ) (r : RW) (g t k : Nat) : Int32 := match k with
  | 0 => nI t
  | 1 => nI (en C r g t)
  | 2 => bi (bw (shF C r (cI C + g)) t)
  | 3 => prF C (cI C + g) (nI t) (nI (en C r g t))
  | _ => cvF r g (en C r g t - t + 1) (bw (shF C r (cI C + g)) t)
end OPS4
