/-! gate, pulse, gain -/
section OPS4
variable {I J : TI} {L M : TL} {b d B : Nat} {X : XT}
def pf (C : CQ) (r : RW) (g : Nat) : Nat → Bool := psB (cH C) (un (r 0)) (r (21 + g) ||| r (9 + g)) (shF C r (cI C + g))
theorem pf_lt {C : CQ} {r : RW} {g t : Nat} (h : pf C r g t = true) : 0 < t ∧ t < cH C := psB_lt h
def en (C : CQ) (r : RW) (g t : Nat) : Nat := enN (shF C r (cI C + g)) (cH C) t
theorem pf_en {C : CQ} {r : RW} {g t : Nat} (h : pf C r g t = true) : t ≤ en C r g t ∧ en C r g t < cH C := by
  obtain ⟨p1, p2, p3, p4⟩ := psB_iff.mp h
  exact ⟨(enN_ok _ p1.2).1, p3.1⟩
/-- the pulse with number y of gate x begins at t -/
def puA (C : CQ) (r : RW) (x y : Int32) (g t : Nat) : Prop := x = nI (cI C + g) ∧ g < cG C ∧ pf C r g t = true ∧ ∃ i, i < 2 ^ 31 ∧ y = nI i ∧ fb_ct (pf C r g) t = i
theorem puA_one {C : CQ} {r : RW} {x y : Int32} {g t g2 t2 : Nat} (hC : CV C) (h : puA C r x y g t) (h2 : puA C r x y g2 t2) : g2 = g ∧ t2 = t := by
  have := hC.1
  have := hC.2.1
  obtain ⟨a1, a2, a3, i, a4, a5, a6⟩ := h
  obtain ⟨b1, b2, b3, j, b4, b5, b6⟩ := h2
  have e : cI C + g = cI C + g2 := (nI_eq (by omega) (by omega)).mp (a1.symm.trans b1)
  have eg : g2 = g := by omega
  subst eg
  have ei : i = j := (nI_eq a4 b4).mp (a5.symm.trans b5)
  subst ei
  exact ⟨rfl, fb_ct_kth_one b3 a3 (b6.trans a6.symm)⟩
theorem c_rp1 {Q : Int32 → Prop} {QX : String → Prop} {x y : Int32} {g t : Nat} (h : INV I L b d X B) (hp : puA (xC X) (xr X) x y g t) (k : Q (nI t)) : W_X8_requirePulse x y I L b d Q QX := by
  have nb := h.nb
  obtain ⟨a1, a2, a3, i, a4, a5, a6⟩ := id hp
  unfold W_X8_requirePulse
  refine c_gate1 h a1 a2 (s_pulseStart h.bc h.C h.r.1.2 a1 a2 (fun t2 j e1 e2 e3 => ?_) (fun q => (q t i a5 a3 a6 a4).elim))
  have lt := pf_lt (g := g) e2
  have hj : j < 2 ^ 31 := by
    have := fb_ct_le (pf (xC X) (xr X) g) t2
    have e4 : fb_ct (pf (xC X) (xr X) g) t2 = j := e3
    omega
  have := (puA_one h.C hp ⟨a1, a2, e2, j, hj, e1, e3⟩).2
  subst this
  exact ⟨fun _ => k, fun q => absurd q (nI_nm1 (by omega))⟩
theorem c_rp0 {Q : Int32 → Prop} {QX : String → Prop} {x y : Int32} (h : INV I L b d X B) (hp : ¬ ∃ g t, puA (xC X) (xr X) x y g t) (k : QX NSE) : W_X8_requirePulse x y I L b d Q QX := by
  have nb := h.nb
  unfold W_X8_requirePulse
  by_cases hg : rg x (cI (xC X)) (cI (xC X) + cG (xC X))
  · obtain ⟨n, n1, hn, rfl⟩ := hg
    obtain ⟨g, rfl⟩ : ∃ g, n = cI (xC X) + g := ⟨n - cI (xC X), by omega⟩
    have hg : g < cG (xC X) := by omega
    refine c_gate1 h rfl hg (s_pulseStart h.bc h.C h.r.1.2 rfl hg (fun t2 j e1 e2 e3 => ?_) (fun _ => ⟨fun q => absurd rfl q, fun _ => k⟩))
    have lt := pf_lt (g := g) e2
    have hj : j < 2 ^ 31 := by
      have := fb_ct_le (pf (xC X) (xr X) g) t2
      have e4 : fb_ct (pf (xC X) (xr X) g) t2 = j := e3
      omega
    exact absurd ⟨g, t2, rfl, hg, e2, j, hj, e1, e3⟩ hp
  · exact c_gate0 h hg k
theorem m_fp {Q : Int32 → TI → Prop} {x y : Int32} {g : Nat} (h : INV I L b d X B) (hW : WEq (xC X) (xr X) (L 444) (L 445) (L 446)) (hx : x = nI (cI (xC X) + g)) (hg : g < cG (xC X))
    (k1 : ∀ J t i, INV J L b d X B → fpI I J → y = nI i → pf (xC X) (xr X) g t = true → fb_ct (pf (xC X) (xr X) g) t = i → J 436 18 = nI t → J 436 19 = nI (en (xC X) (xr X) g t) → Q 1 J)
    (k0 : ∀ J, INV J L b d X B → fpI I J → (∀ t i, y = nI i → pf (xC X) (xr X) g t = true → fb_ct (pf (xC X) (xr X) g) t = i → i < 2 ^ 31 → False) → J 436 20 = nI (fb_ct (pf (xC X) (xr X) g) 64) → Q 0 J) : W_X9_findsPulse x y I L Q :=
  s_findsPulse h.mc h.C h.row h.r.1.2 hx hg (WEq.is hW h.C (by omega)).1 (fun J t i e a1 a2 a3 a4 a5 => k1 J t i (h.ro e.ro (roL.rf L)) e a1 a2 a3 a4 a5) (fun J e a1 a2 => k0 J (h.ro e.ro (roL.rf L)) e a1 a2)
theorem fpI.z (h : fpI I J) : J 436 0 = I 436 0 := h.2 0 (by omega) (by omega) (by omega)
theorem nneg {x : Int32} {i : Nat} (h : x = nI i) (hi : i < 2 ^ 31) : ¬ x < 0 := by
  rw [h]
  exact nI_pos hi
theorem m_np1 {Q : Int32 → TI → TL → Prop} {x y : Int32} {g t : Nat} (h : INV I L b d X B) (hp : puA (xC X) (xr X) x y g t) (k : ∀ J M, INV J M b d X B → M 456 = L 456 → WEq (xC X) (xr X) (M 444) (M 445) (M 446) → J 436 0 = 0 → J 436 18 = nI t → J 436 19 = nI (en (xC X) (xr X) g t) → Q 0 J M) : W_X9_noPulse x y I L Q := by
  have nb := h.nb
  obtain ⟨a1, a2, a3, i, a4, a5, a6⟩ := id hp
  unfold W_X9_noPulse
  refine m_noGate1 h a1 a2 ⟨fun _ => m_waves h.thr (fun M hM e hW => ?_), fun q => absurd rfl q⟩
  refine ⟨fun q => absurd q (nneg a5 a4), fun _ => m_fp hM hW a1 a2 (fun J t2 j hJ ef e1 e2 e3 e4 e5 => ?_) (fun J hJ ef q _ => (q t i a5 a3 a6 a4).elim)⟩
  have lt := pf_lt (g := g) e2
  have hj : j < 2 ^ 31 := by
    have := fb_ct_le (pf (xC X) (xr X) g) t2
    have e4 : fb_ct (pf (xC X) (xr X) g) t2 = j := e3
    omega
  have := (puA_one h.C hp ⟨a1, a2, e2, j, hj, e1, e3⟩).2
  subst this
  refine ⟨fun q => absurd q (by decide), fun _ => s_fails1 ⟨Or.inl rfl, k J M hJ e hW ?_ e4 e5⟩⟩
  rw [ef.z, up2_s]
theorem m_np0 {Q : Int32 → TI → TL → Prop} {x y : Int32} (h : INV I L b d X B) (hp : ¬ ∃ g t, puA (xC X) (xr X) x y g t) (k : ∀ J M, INV J M b d X B → J 436 0 = 1 → Q 1 J M) : W_X9_noPulse x y I L Q := by
  have nb := h.nb
  unfold W_X9_noPulse
  by_cases hg : rg x (cI (xC X)) (cI (xC X) + cG (xC X))
  · obtain ⟨n, n1, hn, rfl⟩ := hg
    obtain ⟨g, rfl⟩ : ∃ g, n = cI (xC X) + g := ⟨n - cI (xC X), by omega⟩
    have hg : g < cG (xC X) := by omega
    refine m_noGate1 h rfl hg ⟨fun _ => m_waves h.thr (fun M hM e hW => ?_), fun q => absurd rfl q⟩
    have bad : ∀ J, INV J M b d X B → B_X9_noPulse_32 J M Q := by
      intro J hJ
      show B_X9_noPulse_33 0 J M Q
      exact s_fails0 ⟨Or.inr rfl, k _ M hJ.thr up2_s⟩
    refine ⟨fun _ => bad _ hM, fun _ => m_fp hM hW rfl hg (fun J t2 j hJ ef e1 e2 e3 e4 e5 => ?_) (fun J hJ ef q _ => ⟨fun _ => bad J hJ, fun y => absurd rfl y⟩)⟩
    have lt := pf_lt (g := g) e2
    have hj : j < 2 ^ 31 := by
      have := fb_ct_le (pf (xC X) (xr X) g) t2
      have e4 : fb_ct (pf (xC X) (xr X) g) t2 = j := e3
      omega
    exact absurd ⟨g, t2, rfl, hg, e2, j, hj, e1, e3⟩ hp
  · exact m_noGate0 h hg ⟨fun q => absurd q (by decide), fun _ => k _ _ h.thr up2_s⟩
theorem c_pulses {Q : Int32 → Prop} {x : Int32} {g : Nat} (h : INV I L b d X B) (hx : x = nI (cI (xC X) + g)) (hg : g < cG (xC X)) (k : Q (nI (fb_ct (pf (xC X) (xr X) g) 64))) : W_X0_pulses b x I L Q := by
  unfold W_X0_pulses
  refine s_pulseStarts h.bc h.C h.r.1.2 hx hg (s_bcL ?_)
  rw [show pc (mkw (psB (cH (xC X)) (un (xr X 0)) (xr X (21 + g) ||| xr X (9 + g)) (shF (xC X) (xr X) (cI (xC X) + g)))) = fb_ct (pf (xC X) (xr X) g) 64 from fb_ct_cong (fun t ht => bw_mkw _ ht)]
  exact k
theorem m_pulsesOf {Q : Int32 → TI → Prop} {x : Int32} {g : Nat} (h : INV I L b d X B) (hW : WEq (xC X) (xr X) (L 444) (L 445) (L 446)) (hx : x = nI (cI (xC X) + g)) (hg : g < cG (xC X)) (k : ∀ J, INV J L b d X B → J 436 0 = I 436 0 → Q (nI (fb_ct (pf (xC X) (xr X) g) 64)) J) : W_X9_pulsesOf x I L Q := by
  have nb := h.nb
  unfold W_X9_pulsesOf
  refine m_fp h hW hx hg (fun J t i hJ ef e1 e2 e3 _ _ => ?_) (fun J hJ ef _ e => by rw [e]; exact k J hJ ef.z)
  have lt := pf_lt (g := g) e2
  have := fb_ct_le (pf (xC X) (xr X) g) t
  exact absurd e1.symm (nI_nm1 (by omega))
def gtF (C : CQ) (r : RW) (g k : Nat) : Int32 := match k with
  | 0 => nI (cK C g)
  | 1 => nI (cO C g)
  | 2 => tx (cT C g)
  | 3 => nI (dl r g 0)
  | 4 => nI (dl r g 1)
  | 5 => nI (dl r g 2)
  | 6 => nI (fb_ct (cD C (cI C + g)).testBit 32)
  | 7 => nI (pc (r (9 + g)))
  | 8 => nI (pc (r (21 + g) &&& (r (9 + g) ^^^ (-1))))
  | _ => nI (fb_ct (pf C r g) 64)
theorem s_settledT {Q : Int32 → Prop} {C : CQ} {r : RW} {a g : Nat} {x : Int32} (h : SC I L a C r) (hC : CV C) (hx : x = nI (cI C + g)) (hg : g < cG C) (k : Q (nI (pc (r (9 + g))))) : W_X6_settledTimes a x I L Q := by
  subst hx
  have n4 := (hC.net hg).2.2.2
  unfold W_X6_settledTimes
  rw [pk_cl (cI C + g) rfl (by omega), (h.2.2.2.2.1 g hg).1]
  exact ⟨pk_in _ 16 n4 rfl, s_bcL k⟩
theorem s_ruledT {Q : Int32 → Prop} {C : CQ} {r : RW} {a g : Nat} {x : Int32} (h : SC I L a C r) (hC : CV C) (hx : x = nI (cI C + g)) (hg : g < cG C) (k : Q (nI (pc (r (21 + g) &&& (r (9 + g) ^^^ (-1)))))) : W_X6_ruledTimes a x I L Q := by
  subst hx
  have n4 := (hC.net hg).2.2.2
  unfold W_X6_ruledTimes
  rw [pk_cl (cI C + g) rfl (by omega), (h.2.2.2.2.1 g hg).1, (h.2.2.2.2.1 g hg).2.1]
  exact ⟨pk_in _ 16 n4 rfl, pk_in _ 16 n4 rfl, s_bcL k⟩
theorem op_gate {p1 p2 : Int32} {P : Int32 → Int32 → TI → TL → Prop} (h : INV I L b d X B) (fin : ∀ k r J M, OKL k r.toInt64 J M b d X B → P k r J M) : W_L_gate p1 p2 I L b d (fun k L1 => W_X9_gate p1 p2 I L1 (fun r J M => P k r J M)) := by
  have nb := h.nb
  unfold W_L_gate W_X8_gate
  by_cases hg : rg p1 (cI (xC X)) (cI (xC X) + cG (xC X))
  · obtain ⟨n, n1, hn, rfl⟩ := hg
    obtain ⟨g, rfl⟩ : ∃ g, n = cI (xC X) + g := ⟨n - cI (xC X), by omega⟩
    have hg : g < cG (xC X) := by omega
    obtain ⟨o1, o2, o3, o4⟩ := h.C.net hg
    refine c_gate1 h rfl hg ?_
    have cc := h.bc.1
    obtain ⟨q1, q2, q3⟩ := cc.2.2.2.2.2.1 g hg
    replace q1 : I (b + 2) (cI (xC X) + g) = nI (cK (xC X) g) := q1
    replace q2 : I (b + 3) (cI (xC X) + g) = nI (cO (xC X) g) := q2
    replace q3 : I (b + 4) (cI (xC X) + g) = tx (cT (xC X) g) := q3
    obtain ⟨q4, q5, q6⟩ := h.bc.2.1.dc g hg
    have vn : vp_in (nI (cI (xC X) + g)) 16 := pk_in _ 16 o4 rfl
    rw [pk_cl (cI (xC X) + g) rfl (by omega), q1, q2, q3, q4, q5, q6]
    by_cases hk : rg p2 0 10
    · obtain ⟨k, -, hk, rfl⟩ := hk
      have z : ∀ m, m < 10 → nI k = nI m → k = m := fun m hm e => (nI_eq (by omega) (by omega)).mp e
      have run : ∀ v, v = gtF (xC X) (xr X) g k → W_X9_gate (nI (cI (xC X) + g)) (nI k) I (up2 L 456 0 v.toInt64) (fun r J M => P 0 r J M) := by
        rintro v hv
        unfold W_X9_gate
        refine m_noGate1 h.out rfl hg ⟨fun e => absurd rfl e, fun _ => ?_⟩
        refine s_in (a := 0) (c := 10) rfl rfl rfl (by omega) (by omega) (by omega) (fun _ => s_fails1 ⟨fun _ => ?_, fun e => absurd rfl e⟩) (fun e => absurd (rgi (Nat.zero_le _) hk) e)
        refine m_waves h.out.thr (fun M hM e hW => ?_)
        have ff : ∀ (J : TI) (u : Int32), INV J M b d X B → J 436 0 = 0 → u = gtF (xC X) (xr X) g k → P 0 u J M := fun J u hJ hz hu => fin 0 u J M (fin0 hJ hz (by rw [e, up2_s, hu, hv]))
        have hz : (up2 I 436 0 0) 436 0 = 0 := up2_s
        obtain ⟨m1, m2, m3, m4, m5, m6⟩ := hM.mc
        obtain ⟨w1, w2, w3⟩ := m6 g hg
        have v12 : vp_in (nI g) 12 := pk_in g 12 (by omega) rfl
        rw [m1, pk_sub (Nat.le_add_right _ _), Nat.add_sub_cancel_left, pk_cl g rfl (by omega), w1, w2, w3, show (9 : Int32) + nI g = nI (9 + g) from nI_add 9 g, show (21 : Int32) + nI g = nI (21 + g) from nI_add 21 g, pk_cl (9 + g) rfl (by omega), pk_cl (21 + g) rfl (by omega), hM.row]
        have dly : ∀ w, w < 3 → k = 3 + w → B_X9_gate_168 (nI (cI (xC X) + g)) (nI k) (up2 I 436 0 0) M (fun r J M => P 0 r J M) := by
          intro w hw hk3
          unfold B_X9_gate_168
          refine s_delayOf (w := w) hM.mc h.C hM.row rfl hg (by rw [hk3, show (3 : Int32) = nI 3 from rfl, pk_sub (by omega), Nat.add_sub_cancel_left]) hw (ff _ _ hM hz ?_)
          match w, hw with
          | 0, _ => rw [hk3]; rfl
          | 1, _ => rw [hk3]; rfl
          | 2, _ => rw [hk3]; rfl
        refine ⟨fun e => ?_, fun e => ?_, fun e => ?_, fun e => ?_, fun e => ?_, fun e => ?_, fun e => ?_, fun e => ?_, fun e => ?_, fun e => ?_, fun e => ?_⟩
        · have := z 0 (by omega) e; subst this; exact ⟨v12, ff _ _ hM hz rfl⟩
        · have := z 1 (by omega) e; subst this; exact ⟨v12, ff _ _ hM hz rfl⟩
        · have := z 2 (by omega) e; subst this; exact ⟨v12, ff _ _ hM hz rfl⟩
        · exact dly 0 (by omega) (z 3 (by omega) e)
        · exact dly 1 (by omega) (z 4 (by omega) e)
        · exact dly 2 (by omega) (z 5 (by omega) e)
        · have := z 6 (by omega) e; subst this
          refine s_dep hM.mc h.C rfl hn (s_ones (ff _ _ hM hz ?_))
          rw [pc_lN, ct_64 (cD_lt h.C hn)]
          rfl
        · have := z 7 (by omega) e; subst this; exact ⟨pk_in _ 241 (by omega) rfl, s_ones (ff _ _ hM hz rfl)⟩
        · have := z 8 (by omega) e; subst this; exact ⟨pk_in _ 241 (by omega) rfl, pk_in _ 241 (by omega) rfl, s_ones (ff _ _ hM hz rfl)⟩
        · have := z 9 (by omega) e; subst this
          exact m_pulsesOf hM hW rfl hg (fun J hJ ez => ff J _ hJ (by rw [ez, hz]) rfl)
        · exfalso
          rcases e with e | e
          · exact nI_pos (by omega) e
          · have := (nI_ltI (a := 9) (by omega) (by omega)).mp e
            omega
      refine ⟨fun e => ⟨vn, run _ ?_⟩, fun e => ⟨vn, run _ ?_⟩, fun e => ⟨vn, run _ ?_⟩, fun e => ⟨vn, run _ ?_⟩, fun e => ⟨vn, run _ ?_⟩, fun e => ⟨vn, run _ ?_⟩, fun e => s_cone cc h.C rfl hn (run _ ?_), fun e => s_settledT h.bc.2.1 h.C rfl hg (run _ ?_), fun e => s_ruledT h.bc.2.1 h.C rfl hg (run _ ?_), fun e => c_pulses h rfl hg (run _ ?_), fun e => ?_⟩
      · have := z 0 (by omega) e; subst this; rfl
      · have := z 1 (by omega) e; subst this; rfl
      · have := z 2 (by omega) e; subst this; rfl
      · have := z 3 (by omega) e; subst this; rfl
      · have := z 4 (by omega) e; subst this; rfl
      · have := z 5 (by omega) e; subst this; rfl
      · have := z 6 (by omega) e; subst this; rfl
      · have := z 7 (by omega) e; subst this; rfl
      · have := z 8 (by omega) e; subst this; rfl
      · have := z 9 (by omega) e; subst this; rfl
      · exfalso
        rcases e with e | e
        · exact nI_pos (by omega) e
        · have := (nI_ltI (a := 9) (by omega) (by omega)).mp e
          omega
    · have zz : ∀ m, m < 10 → p2 = nI m → False := fun m hm e => hk (e ▸ rgi (Nat.zero_le _) hm)
      refine ⟨fun e => (zz 0 (by omega) e).elim, fun e => (zz 1 (by omega) e).elim, fun e => (zz 2 (by omega) e).elim, fun e => (zz 3 (by omega) e).elim, fun e => (zz 4 (by omega) e).elim, fun e => (zz 5 (by omega) e).elim, fun e => (zz 6 (by omega) e).elim, fun e => (zz 7 (by omega) e).elim, fun e => (zz 8 (by omega) e).elim, fun e => (zz 9 (by omega) e).elim, fun _ => ⟨rfl, ?_⟩⟩
      unfold W_X9_gate
      refine m_noGate1 h rfl hg ⟨fun e => absurd rfl e, fun _ => ?_⟩
      refine s_in (a := 0) (c := 10) rfl rfl rfl (by omega) (by omega) (by omega) (fun e => absurd e hk) (fun _ => s_fails0 ⟨fun e => absurd e (by decide), fun _ => ?_⟩)
      rw [up2_u]
      exact fin _ _ _ _ (fin1 h.thr up2_s (by decide))
  · refine c_gate0 h hg ⟨rfl, ?_⟩
    unfold W_X9_gate
    exact m_noGate0 h hg ⟨fun _ => fin _ _ _ _ (fin1 h.thr up2_s (by decide)), fun e => absurd e (by decide)⟩
/-- the cheap verdict -/
def cvF (r : RW) (g len : Nat) (v : Bool) : Int32 := if len ≤ dl r g (if v = true then 0 else 1) then 0 else 1
theorem c_cheap {Q : Int32 → Prop} {x y z : Int32} {g len : Nat} {v : Bool} (h : INV I L b d X B) (hx : x = nI (cI (xC X) + g)) (hg : g < cG (xC X)) (hy : y = nI len) (hl : len < 2 ^ 31) (hz : z = bi v) (k : Q (cvF (xr X) g len v)) : W_X0_cheapVerdict b x y z I L Q := by
  have dv := h.dv g hg (if v = true then 0 else 1) (by split <;> omega)
  unfold cvF at k
  unfold W_X0_cheapVerdict
  refine s_swing h.C h.bc.2.1.dc hx hz hg ?_
  refine pk_le len _ (fun q => ?_) (fun q => ?_) hy rfl hl (by omega)
  · rw [if_pos q] at k
    exact k
  · rw [if_neg (by omega)] at k
    exact k
theorem m_delayFor {Q : Int32 → Prop} {x z : Int32} {g : Nat} {v : Bool} (h : INV I L b d X B) (hx : x = nI (cI (xC X) + g)) (hg : g < cG (xC X)) (hz : z = bi v) (k : Q (nI (dl (xr X) g (if v = true then 0 else 1)))) : W_X9_delayFor x z I L Q := by
  subst hz
  unfold W_X9_delayFor B_X9_delayFor_12
  refine ⟨fun e => s_delayOf (w := 1) h.mc h.C h.row hx hg rfl (by omega) ?_, fun e => s_delayOf (w := 0) h.mc h.C h.row hx hg rfl (by omega) ?_⟩
  · rw [bi_1] at e
    rw [if_neg e] at k
    exact k
  · rw [bi_1] at e
    rw [if_pos e] at k
    exact k
def plF (C : CQ) (r : RW) (g t k : Nat) : Int32 := match k with
  | 0 => nI t
  | 1 => nI (en C r g t)
  | 2 => bi (bw (shF C r (cI C + g)) t)
  | 3 => prF C (cI C + g) (nI t) (nI (en C r g t))
  | _ => cvF r g (en C r g t - t + 1) (bw (shF C r (cI C + g)) t)
theorem op_pulse {p1 p2 p3 : Int32} {P : Int32 → Int32 → TI → TL → Prop} (h : INV I L b d X B) (fin : ∀ k r J M, OKL k r.toInt64 J M b d X B → P k r J M) : W_L_pulse p1 p2 p3 I L b d (fun k L1 => W_X9_pulse p1 p2 p3 I L1 (fun r J M => P k r J M)) := by
  have nb := h.nb
  unfold W_L_pulse W_X8_pulse
  by_cases hp : ∃ g t, puA (xC X) (xr X) p1 p2 g t
  · obtain ⟨g, t, hp⟩ := hp
    obtain ⟨rfl, hg, a3, i, a4, rfl, a6⟩ := id hp
    obtain ⟨o1, o2, o3, o4⟩ := h.C.net hg
    have lt := pf_lt a3
    have le := pf_en a3
    have hn : cI (xC X) + g < cI (xC X) + cG (xC X) := by omega
    have vn : vp_in (nI (cI (xC X) + g)) 16 := pk_in _ 16 o4 rfl
    have ed : nI (en (xC X) (xr X) g t) - nI t + 1 = nI (en (xC X) (xr X) g t - t + 1) := by rw [pk_sub le.1, nI_1]
    refine c_rp1 h hp (s_runEnd h.bc h.C rfl hn rfl (by omega) ?_)
    rw [pk_cl (cI (xC X) + g) rfl (by omega), (h.bc.2.2 _ hn).1]
    refine ⟨vn, s_bitOf rfl (by omega) ?_⟩
    by_cases hk : rg p3 0 5
    · obtain ⟨k, -, hk, rfl⟩ := hk
      have z : ∀ m, m < 5 → nI k = nI m → k = m := fun m hm e => (nI_eq (by omega) (by omega)).mp e
      have run : ∀ v, v = plF (xC X) (xr X) g t k → W_X9_pulse (nI (cI (xC X) + g)) (nI i) (nI k) I (up2 L 456 0 v.toInt64) (fun r J M => P 0 r J M) := by
        rintro v hv
        unfold W_X9_pulse
        refine m_np1 h.out hp (fun J M hJ e hW j0 j1 j2 => ⟨fun q => absurd rfl q, fun _ => ?_⟩)
        refine s_in (a := 0) (c := 5) rfl rfl rfl (by omega) (by omega) (by omega) (fun _ => s_fails1 ⟨fun _ => ?_, fun e => absurd rfl e⟩) (fun e => absurd (rgi (Nat.zero_le _) hk) e)
        have ff : ∀ (u : Int32), u = plF (xC X) (xr X) g t k → P 0 u J M := fun u hu => fin 0 u J M (fin0 hJ j0 (by rw [e, up2_s, hu, hv]))
        rw [pk_cl (cI (xC X) + g) rfl (by omega), (WEq.is hW h.C hn).1, j1, j2, ed]
        refine ⟨vn, s_bit rfl (by omega) ⟨fun e => ff _ ?_, fun e => ff _ ?_, fun e => ff _ ?_, fun e => s_costOf hJ.mc h.C rfl hn (ff _ ?_), fun e => ?_⟩⟩
        · have := z 0 (by omega) e; subst this; rfl
        · have := z 1 (by omega) e; subst this; rfl
        · have := z 2 (by omega) e; subst this; rfl
        · have := z 3 (by omega) e; subst this; rfl
        · have h4 : k = 4 := by
            rcases e with e | e
            · exact absurd e (nI_pos (by omega))
            · have := (nI_ltI (a := 3) (by omega) (by omega)).mp e
              omega
          subst h4
          have dv := h.dv g hg (if bw (shF (xC X) (xr X) (cI (xC X) + g)) t = true then 0 else 1) (by split <;> omega)
          refine m_delayFor hJ rfl hg rfl (pk_le _ _ (fun q => ff _ ?_) (fun q => ff _ ?_) rfl rfl (by omega) (by omega))
          · show _ = if _ then _ else _
            rw [if_pos q]
          · show _ = if _ then _ else _
            rw [if_neg (by omega)]
      refine ⟨fun e => run _ ?_, fun e => run _ ?_, fun e => run _ ?_, fun e => s_price h.bc.1 h.C rfl hn (run _ ?_), fun e => c_cheap h rfl hg ed (by omega) rfl (run _ ?_), fun e => ?_⟩
      · have := z 0 (by omega) e; subst this; rfl
      · have := z 1 (by omega) e; subst this; rfl
      · have := z 2 (by omega) e; subst this; rfl
      · have := z 3 (by omega) e; subst this; rfl
      · have := z 4 (by omega) e; subst this; rfl
      · exfalso
        rcases e with e | e
        · exact nI_pos (by omega) e
        · have := (nI_ltI (a := 4) (by omega) (by omega)).mp e
          omega
    · have zz : ∀ m, m < 5 → p3 = nI m → False := fun m hm e => hk (e ▸ rgi (Nat.zero_le _) hm)
      refine ⟨fun e => (zz 0 (by omega) e).elim, fun e => (zz 1 (by omega) e).elim, fun e => (zz 2 (by omega) e).elim, fun e => (zz 3 (by omega) e).elim, fun e => (zz 4 (by omega) e).elim, fun _ => ⟨rfl, ?_⟩⟩
      unfold W_X9_pulse
      refine m_np1 h hp (fun J M hJ e hW j0 j1 j2 => ⟨fun q => absurd rfl q, fun _ => ?_⟩)
      refine s_in (a := 0) (c := 5) rfl rfl rfl (by omega) (by omega) (by omega) (fun e => absurd e hk) (fun _ => s_fails0 ⟨fun e => absurd e (by decide), fun _ => ?_⟩)
      exact fin _ _ _ _ (fin1 hJ.thr up2_s (by decide))
  · refine c_rp0 h hp ⟨rfl, ?_⟩
    unfold W_X9_pulse
    exact m_np0 h hp (fun J M hJ j0 => ⟨fun _ => fin _ _ _ _ (fin1 hJ j0 (by decide)), fun q => absurd q (by decide)⟩)
end OPS4
