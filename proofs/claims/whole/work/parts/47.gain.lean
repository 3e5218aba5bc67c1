/-! gain, bestReplay -/
section GAIN
variable {I J : TI} {L M : TL} {b d B : Nat} {X : XT}
def upR (r : RW) (k : Nat) (v : Int64) : RW := fun i => if i = k then v else r i
theorem upR_row {L : TL} {a j : Nat} {v : Int64} : (up2 L a j v) a = upR (L a) j v := funext fun i => up2_at
theorem upR_dl {r : RW} {k g w : Nat} {v : Int64} (h : k < 45) : dl (upR r k v) g w = dl r g w := by
  unfold dl upR
  rw [if_neg (by omega)]
theorem SEqn.row {C : CQ} {r s : RW} {se : Nat → Int64} {j : Nat} {sh de : Nat → Int64} (hC : CV C) (hj : j ≤ cG C) (h : SEqn C r se j sh de) (e : ∀ k, k < 9 ∨ 21 ≤ k → s k = r k) : SEqn C s se j sh de := by
  have := hC.1
  refine ⟨fun n hn => by rw [e (5 + n) (by omega)]; exact h.1 n hn, fun g hg => ?_⟩
  rw [h.2 g hg]
  unfold shG latC dl
  rw [e (21 + g) (by omega), e (33 + g) (by omega), e (45 + 3 * g + 2) (by omega)]
theorem DEqn.row {C : CQ} {r s : RW} {j : Nat} {ch de : Nat → Int64} (hC : CV C) (hj : j ≤ cG C) (h : DEqn C r j ch de) (e : ∀ k, k < 9 ∨ 21 ≤ k → s k = r k) : DEqn C s j ch de := by
  have := hC.1
  refine ⟨fun n hn => by rw [e (5 + n) (by omega)]; exact h.1 n hn, fun g hg => ?_⟩
  obtain ⟨a, c⟩ := h.2 g hg
  rw [a, c]
  unfold latC dl
  rw [e (45 + 3 * g + 0) (by omega), e (45 + 3 * g + 1) (by omega), e (45 + 3 * g + 2) (by omega)]
  exact ⟨rfl, rfl⟩
/-- what would be wrong behind a replay -/
def stR (r : RW) (g : Nat) (m : Int64) : RW := upR r (9 + g) (r (9 + g) ||| m)
def gnF (C : CQ) (r : RW) (g : Nat) (m : Int64) : Nat := wsF C (shF C (stR r g m)) (deF C (stR r g m))
def hadF (C : CQ) (r : RW) : Nat := wsF C (shF C r) (deF C r)
theorem wsF_le (C : CQ) (hC : CV C) (sh de : Nat → Int64) : wsF C sh de ≤ 1024 := by
  have := hC.1
  have := hC.2.1
  have h := fb_sm_bound (f := fun n => pc (sh n ^^^ de n)) (c := 64) (n := cI C + cG C) (fun k _ => pc_le _)
  unfold wsF
  have : (cI C + cG C) * 64 ≤ 16 * 64 := Nat.mul_le_mul_right _ (by omega)
  omega
theorem INV.trial (h : INV I L b d X B) (e : sameL [b + 40] L M) : INV I M b d X B := by
  have hb := bn_lt h.2.2.1.1
  refine ⟨h.1, h.2.1.hi (fun _ _ => rfl) (fun k hk _ => e k (nin1 (by omega))), ?_⟩
  obtain ⟨h1, h2, ⟨h3, nx, h4, h5, h6⟩, h7, h8, h9, h10⟩ := h.2.2
  obtain ⟨a1, a2, a3⟩ := h2
  refine ⟨h1, ⟨a1, a2.fr h.r.2.2.1 (fun _ _ _ => rfl) (fun k q1 q2 => e k (nin1 (by omega))), fun n hn => ?_⟩, ⟨h3, nx, h4, h5, fun j hj => ?_⟩, ⟨h7.1, fun s hs => ⟨(h7.2 s hs).1, (h7.2 s hs).2.fr (h.1.2.2.2.1 s hs).2.2.1 (fun _ _ _ => rfl) (fun k q1 q2 => e k (nin1 (by omega)))⟩⟩, h8, h9, h10⟩
  · rw [e (b + 37) (nin1 (by omega)), e (b + 38) (nin1 (by omega)), e (b + 39) (nin1 (by omega))]
    exact a3 n hn
  · have hm : (nx + 10 - xk X + j) % 10 < 10 := Nat.mod_lt _ (by omega)
    exact (h6 j hj).fr (h.1.2.2.1.2 j hj).2.2.1 (fun _ _ _ => rfl) (fun k q1 q2 => e k (nin1 (by omega)))
theorem c_gainOf {Q : Int32 → TL → Prop} {x y z : Int32} {g f t : Nat} (h : INV I L b d X B) (hx : x = nI (cI (xC X) + g)) (hg : g < cG (xC X)) (hy : y = nI f) (hz : z = nI t) (h1 : f ≤ t) (h2 : t ≤ cH (xC X)) (k : ∀ M, INV I M b d X B → M 456 = L 456 → Q (nI (hadF (xC X) (xr X)) - nI (gnF (xC X) (xr X) g (win f t))) M) : W_X0_gainOf b x y z I L Q := by
  have nb := h.nb
  have hb := bn_lt h.2.2.1.1
  subst hx
  unfold W_X0_gainOf
  refine s_window hy hz (by omega) (by omega) ?_
  refine s_showInto (r := xr X) (se := fun j => stR (xr X) g (win f t) (9 + j)) h.bc.1 h.C h.bc.2.1 h.dv (fun j hj => (h.r.2.2.2.2.1 j hj).2.2.1) (Or.inr rfl) (fun j hj => ?_) (fun M hM hE => ?_)
  · show (if 9 + j = 9 + g then _ else _) = _
    by_cases q : j = g
    · subst q
      rw [if_pos rfl, if_pos rfl]
    · have : nI (cI (xC X) + j) ≠ nI (cI (xC X) + g) := fun e => q (by have := (nI_eq (by omega) (by omega)).mp e; omega)
      rw [if_neg (by omega), if_neg this]
  · have e39 : M (b + 39) = L (b + 39) := hM _ (nin1 (by omega))
    have e37 : M (b + 37) = L (b + 37) := hM _ (nin1 (by omega))
    refine s_wrongSum h.bc.1 h.C (s_wrongSum h.bc.1 h.C ?_)
    rw [e39, e37]
    have w1 : wsF (xC X) (L (b + 37)) (L (b + 39)) = hadF (xC X) (xr X) := wsF_cong (fun n hn => ⟨(h.bc.2.2 n hn).1, (h.bc.2.2 n hn).2.2.1⟩)
    have er : ∀ i, i < 9 ∨ 21 ≤ i → stR (xr X) g (win f t) i = xr X i := fun i hi => by
      unfold stR upR
      rw [if_neg (by have := nb.2.2.1; omega)]
    -- the bench's cheap and dear waves, as functions on the nets
    have wd : DEqn (xC X) (xr X) (cG (xC X)) (L (b + 38)) (L (b + 39)) := by
      have := WEqn.ext (sh2 := shF (xC X) (xr X)) (ch2 := L (b + 38)) (de2 := L (b + 39)) h.C (Nat.le_refl _) (WF_ok h.C (xr X)) (fun n hn => ⟨rfl, (h.bc.2.2 n hn).2.1, (h.bc.2.2 n hn).2.2.1⟩)
      exact this.d
    have hW : WEq (xC X) (stR (xr X) g (win f t)) (M (b + 40)) (L (b + 38)) (L (b + 39)) := WEqn.of (wd.row h.C (Nat.le_refl _) er) (hE.row h.C (Nat.le_refl _) er)
    have w2 : wsF (xC X) (M (b + 40)) (L (b + 39)) = gnF (xC X) (xr X) g (win f t) := wsF_cong (fun n hn => ⟨(hW.is h.C hn).1, (hW.is h.C hn).2.2⟩)
    rw [w1, w2]
    exact k M (h.trial hM) (hM 456 (nin1 (by omega)))
theorem m_wrongBehind {Q : Int32 → TL → Prop} {x y z : Int32} {g f t : Nat} (h : INV I L b d X B) (hx : x = nI (cI (xC X) + g)) (hg : g < cG (xC X)) (hy : y = nI f) (hz : z = nI t) (h1 : f ≤ t) (h2 : t ≤ cH (xC X)) (k : ∀ M, INV I M b d X B → M 456 = L 456 → WEq (xC X) (xr X) (M 444) (M 445) (M 446) → Q (nI (gnF (xC X) (xr X) g (win f t))) M) : W_X9_wrongBehind x y z I L Q := by
  have nb := h.nb
  subst hx
  have e9 : ((9 : Int32) + nI (cI (xC X) + g)) - (I 436 10) = nI (9 + g) := by
    rw [h.mc.1, show (9 : Int32) + nI (cI (xC X) + g) = nI (9 + (cI (xC X) + g)) from nI_add 9 _, pk_sub (by omega)]
    congr 1
    omega
  have v9 : vp_in (((9 : Int32) + nI (cI (xC X) + g)) - (I 436 10)) 241 := pk_in _ 241 (by omega) e9
  unfold W_X9_wrongBehind
  rw [pk_cl _ e9 (by omega)]
  refine ⟨v9, ?_⟩
  rintro _ rfl
  refine s_times hy hz (by omega) (by omega) ⟨v9, ?_⟩
  rintro _ rfl
  have r1 : (up2 L 437 (9 + g) (L 437 (9 + g) ||| win f t)) 437 = stR (xr X) g (win f t) := by rw [upR_row, h.row]; rfl
  refine s_waves h.mc h.C (fun g2 hg2 w hw => ?_) (fun M hM hW => ?_)
  · rw [r1]
    unfold stR
    rw [upR_dl (by omega)]
    have := h.dv g2 hg2 w hw
    omega
  · rw [r1] at hW
    refine s_wrongs h.mc h.C ⟨v9, ?_⟩
    rintro _ rfl
    have r2 : (up2 M 437 (9 + g) (L 437 (9 + g))) 437 = L 437 := by
      rw [upR_row, hM 437 (by decide), r1]
      funext i
      unfold stR upR
      by_cases q : i = 9 + g
      · rw [if_pos q, q]
      · rw [if_neg q, if_neg q, h.row]
    have w2 : wsF (xC X) (M 444) (M 446) = gnF (xC X) (xr X) g (win f t) := wsF_cong (fun n hn => ⟨(hW.is h.C hn).1, (hW.is h.C hn).2.2⟩)
    rw [w2]
    refine s_waves h.mc h.C (fun g2 hg2 w hw => ?_) (fun M2 hM2 hW2 => ?_)
    · rw [r2, h.row]
      have := h.dv g2 hg2 w hw
      omega
    · rw [r2, h.row] at hW2
      refine k M2 (h.wv (fun q q1 q2 q3 q4 => ?_)) ?_ hW2
      · rw [hM2 q (nin3 q1 q2 q3)]
        by_cases q5 : q = 437
        · rw [q5, r2]
        · rw [up2_row q5, hM q (nin3 q1 q2 q3), up2_row q5]
      · rw [hM2 456 (by decide), up2_row (by decide), hM 456 (by decide), up2_row (by decide)]
theorem op_gain {p1 p2 p3 : Int32} {P : Int32 → Int32 → TI → TL → Prop} (h : INV I L b d X B) (fin : ∀ k r J M, OKL k r.toInt64 J M b d X B → P k r J M) : W_L_gain p1 p2 p3 I L b d (fun k L1 => W_X9_gain p1 p2 p3 I L1 (fun r J M => P k r J M)) := by
  have nb := h.nb
  unfold W_L_gain W_X8_gain
  by_cases hg : rg p1 (cI (xC X)) (cI (xC X) + cG (xC X))
  · obtain ⟨n, n1, hn, rfl⟩ := hg
    obtain ⟨g, rfl⟩ : ∃ g, n = cI (xC X) + g := ⟨n - cI (xC X), by omega⟩
    have hg : g < cG (xC X) := by omega
    refine c_gate1 h rfl hg ?_
    by_cases ht : tmO p2 p3 (cH (xC X))
    · obtain ⟨f, t, rfl, rfl, h1, h2⟩ := ht
      refine c_times1 h rfl rfl h1 h2 (c_gainOf h rfl hg rfl rfl h1 h2 (fun M hM _ => ?_))
      unfold W_X9_gain
      refine m_noTimes1 hM.out rfl hg rfl rfl h1 h2 ⟨fun _ => m_waves hM.out.thr (fun N hN e hW => s_wrongs hN.mc h.C ?_), fun e => absurd rfl e⟩
      rw [show wsF (xC X) (N 444) (N 446) = hadF (xC X) (xr X) from wsF_cong (fun n hn => ⟨(hW.is h.C hn).1, (hW.is h.C hn).2.2⟩)]
      refine m_wrongBehind hN rfl hg rfl rfl h1 h2 (fun N2 hN2 e2 _ => fin _ _ _ _ (fin0 hN2 up2_s (by rw [e2, e, up2_s])))
    · refine c_times0 h ht (Or.inr ⟨rfl, ?_⟩)
      unfold W_X9_gain
      exact m_noTimesT h rfl hg ht ⟨fun e => absurd e (by decide), fun _ => fin _ _ _ _ (fin1 h.thr up2_s (by decide))⟩
  · refine c_gate0 h hg (Or.inl ⟨rfl, ?_⟩)
    unfold W_X9_gain
    exact m_noTimesG h hg ⟨fun e => absurd e (by decide), fun _ => fin _ _ _ _ (fin1 h.thr up2_s (by decide))⟩
/-! bestReplay: pulses in their order, the best so far, what would be wrong, its price -/
noncomputable def kt (p : Nat → Bool) (i : Nat) : Nat := Classical.epsilon (fun t => p t = true ∧ fb_ct p t = i)
theorem kt_ok {p : Nat → Bool} {i t : Nat} (h : p t = true) (h2 : fb_ct p t = i) : kt p i = t := by
  have := Classical.epsilon_spec (p := fun t => p t = true ∧ fb_ct p t = i) ⟨t, h, h2⟩
  exact fb_ct_kth_one this.1 h (this.2.trans h2.symm)
abbrev ST : Type := Int32 × Nat × Int32
noncomputable def brS (C : CQ) (r : RW) (g i : Nat) (s : ST) : ST :=
  if prF C (cI C + g) (nI (kt (pf C r g) i)) (nI (en C r g (kt (pf C r g) i))) ≤ nI (un (r 3)) ∧ (gnF C r g (win (kt (pf C r g) i) (en C r g (kt (pf C r g) i))) < s.2.1 ∨ (gnF C r g (win (kt (pf C r g) i) (en C r g (kt (pf C r g) i))) = s.2.1 ∧ s.1 ≠ -1 ∧ prF C (cI C + g) (nI (kt (pf C r g) i)) (nI (en C r g (kt (pf C r g) i))) < s.2.2))
  then (nI (100 * (cI C + g) + i), gnF C r g (win (kt (pf C r g) i) (en C r g (kt (pf C r g) i))), prF C (cI C + g) (nI (kt (pf C r g) i)) (nI (en C r g (kt (pf C r g) i)))) else s
noncomputable def brI (C : CQ) (r : RW) (g : Nat) (s : ST) : Nat → ST
  | 0 => s
  | i + 1 => brS C r g i (brI C r g s i)
noncomputable def brG (C : CQ) (r : RW) : Nat → ST
  | 0 => (-1, hadF C r, 0)
  | g + 1 => brI C r g (brG C r g) (fb_ct (pf C r g) 64)
def brV (C : CQ) (r : RW) (s : ST) : Prop := (s.1 = -1 ∧ s.2.1 = hadF C r) ∨ (s.1 ≠ -1 ∧ s.2.1 < hadF C r)
theorem brS_v {C : CQ} {r : RW} {g i : Nat} {s : ST} (hC : CV C) (hg : g < cG C) (hi : i < 64) (h : brV C r s) : brV C r (brS C r g i s) := by
  have := hC.1
  have := hC.2.1
  unfold brS
  split
  · rename_i q
    refine Or.inr ⟨nI_nm1 (by omega), ?_⟩
    rcases h with ⟨a, c⟩ | ⟨a, c⟩
    · rcases q.2 with e | ⟨_, e, _⟩
      · rw [c] at e
        exact e
      · exact absurd a e
    · rcases q.2 with e | ⟨e, _, _⟩
      · exact Nat.lt_trans e c
      · show gnF C r g _ < _
        rw [e]
        exact c
  · exact h
theorem brI_v {C : CQ} {r : RW} {g : Nat} {s : ST} (hC : CV C) (hg : g < cG C) (h : brV C r s) : ∀ i, i ≤ 64 → brV C r (brI C r g s i)
  | 0, _ => h
  | i + 1, hi => brS_v hC hg (by omega) (brI_v hC hg h i (by omega))
theorem brG_v {C : CQ} {r : RW} (hC : CV C) : ∀ g, g ≤ cG C → brV C r (brG C r g)
  | 0, _ => Or.inl ⟨rfl, rfl⟩
  | g + 1, hg => brI_v hC (by omega) (brG_v hC g (by omega)) _ (fb_ct_le _ _)
/-- the i-th pulse of a gate -/
theorem pf_kth {C : CQ} {r : RW} {g i : Nat} (h : i < fb_ct (pf C r g) 64) : pf C r g (kt (pf C r g) i) = true ∧ fb_ct (pf C r g) (kt (pf C r g) i) = i := by
  obtain ⟨t, _, h2, h3⟩ := fb_ct_kth h
  rw [kt_ok h2 h3]
  exact ⟨h2, h3⟩
theorem c_bestReplay {Q : Int32 → TL → Prop} (h : INV I L b d X B) (k : ∀ M, INV I M b d X B → Q (brG (xC X) (xr X) (cG (xC X))).1 M) : W_X8_bestReplay I L b d Q := by
  have nb := h.nb
  have hh := wsF_le (xC X) h.C (shF (xC X) (xr X)) (deF (xC X) (xr X))
  unfold W_X8_bestReplay
  rw [h.bc.1.1]
  have gap : ∀ s : ST, brV (xC X) (xr X) s → s.2.1 ≤ hadF (xC X) (xr X) := fun s hs => by rcases hs with ⟨_, q⟩ | ⟨_, q⟩ <;> omega
  refine lp5 (fun n v1 v2 v3 v4 l => L_X8_bestReplay_18 I b d Q n v1 v2 v3 v4 l) (fun v1 v2 v3 v4 l => ∃ g, g ≤ cG (xC X) ∧ v4 = nI (cI (xC X) + g) ∧ v1 = (brG (xC X) (xr X) g).1 ∧ v2 = nI (hadF (xC X) (xr X) - (brG (xC X) (xr X) g).2.1) ∧ v3 = (brG (xC X) (xr X) g).2.2 ∧ INV I l b d X B) (fun _ _ _ v4 _ => cI (xC X) + cG (xC X) - v4.toNatClampNeg) ?_ _ _ _ _ _ ⟨0, Nat.zero_le _, rfl, rfl, by show (0 : Int32) = nI (hadF _ _ - hadF _ _); rw [Nat.sub_self]; rfl, rfl, h⟩
  rintro n v1 v2 v3 v4 l ⟨g, g0, rfl, rfl, rfl, rfl, hl⟩ ih
  show D_X8_bestReplay_18 I b d Q _ _ _ _ (nI (cI (xC X) + g)) l
  unfold D_X8_bestReplay_18
  refine s_nets2 hl.bc.1 ?_
  refine pk_le (cI (xC X) + cG (xC X)) (cI (xC X) + g) (fun hc => ?_) (fun hc => ?_) rfl rfl (by omega) (by omega)
  · have : g = cG (xC X) := by omega
    subst this
    exact k l hl
  · have hg : g < cG (xC X) := by omega
    have cn := fb_ct_le (pf (xC X) (xr X) g) 64
    refine c_pulses hl rfl hg ?_
    refine lp5 (fun n2 v1 v2 v3 v6 l => L_X8_bestReplay_47 (nI (cI (xC X) + g)) (nI (fb_ct (pf (xC X) (xr X) g) 64)) I b d Q (fun v1 v2 v3 v4 L => L_X8_bestReplay_18 I b d Q n v1 v2 v3 v4 L) n2 v1 v2 v3 v6 l) (fun v1 v2 v3 v6 l => ∃ i, i ≤ fb_ct (pf (xC X) (xr X) g) 64 ∧ v6 = nI i ∧ v1 = (brI (xC X) (xr X) g (brG (xC X) (xr X) g) i).1 ∧ v2 = nI (hadF (xC X) (xr X) - (brI (xC X) (xr X) g (brG (xC X) (xr X) g) i).2.1) ∧ v3 = (brI (xC X) (xr X) g (brG (xC X) (xr X) g) i).2.2 ∧ INV I l b d X B) (fun _ _ _ v6 _ => fb_ct (pf (xC X) (xr X) g) 64 - v6.toNatClampNeg) ?_ _ _ _ _ _ ⟨0, Nat.zero_le _, rfl, rfl, rfl, rfl, hl⟩
    clear hl
    rintro n2 v1 v2 v3 v6 l ⟨i, i0, rfl, rfl, rfl, rfl, hl⟩ ih2
    refine pk_le (fb_ct (pf (xC X) (xr X) g) 64) i (fun hq => ?_) (fun hq => ?_) rfl rfl (by omega) (by omega)
    · have : i = fb_ct (pf (xC X) (xr X) g) 64 := by omega
      subst this
      exact ih _ _ _ _ _ ⟨g + 1, by omega, nI_1 _, rfl, rfl, rfl, hl⟩ (by rw [nI_1, nI_clamp (by omega), nI_clamp (by omega)]; omega)
    · obtain ⟨kp, kc⟩ := pf_kth hq
      have klt := pf_lt kp
      have ken := pf_en kp
      have hv := brI_v (r := xr X) h.C hg (brG_v (r := xr X) h.C g g0) i (by omega)
      have hle := gap _ hv
      have hgn := wsF_le (xC X) h.C (shF (xC X) (stR (xr X) g (win (kt (pf (xC X) (xr X) g) i) (en (xC X) (xr X) g (kt (pf (xC X) (xr X) g) i))))) (deF (xC X) (stR (xr X) g (win (kt (pf (xC X) (xr X) g) i) (en (xC X) (xr X) g (kt (pf (xC X) (xr X) g) i)))))
      have p3 : I (b + 15) 2 = nI (un (xr X 3)) := hl.bc.2.1.2.1 2 (by omega)
      have nx : ∀ (s : ST) (v2 : Int32) (l2 : TL), s = brS (xC X) (xr X) g i (brI (xC X) (xr X) g (brG (xC X) (xr X) g) i) → v2 = nI (hadF (xC X) (xr X) - s.2.1) → INV I l2 b d X B → B_X8_bestReplay_169 s.1 v2 s.2.2 (nI (cI (xC X) + g)) (nI (fb_ct (pf (xC X) (xr X) g) 64)) (nI i) I l2 b d Q (fun v1 v2 v3 v4 L => L_X8_bestReplay_18 I b d Q n v1 v2 v3 v4 L) (fun v1 v2 v3 v6 L => L_X8_bestReplay_47 (nI (cI (xC X) + g)) (nI (fb_ct (pf (xC X) (xr X) g) 64)) I b d Q (fun v1 v2 v3 v4 L => L_X8_bestReplay_18 I b d Q n v1 v2 v3 v4 L) n2 v1 v2 v3 v6 L) := by
        rintro s v2 l2 rfl rfl hl2
        exact ih2 _ _ _ _ _ ⟨i + 1, by omega, nI_1 i, rfl, rfl, rfl, hl2⟩ (by rw [nI_1, nI_clamp (by omega), nI_clamp (by omega)]; omega)
      refine s_pulseStart hl.bc h.C h.r.1.2 rfl hg (fun t2 j e1 e2 e3 => ?_) (fun q => (q _ i rfl kp kc (by omega)).elim)
      have hj : j = i := by
        have := fb_ct_le (pf (xC X) (xr X) g) t2
        have l2 := pf_lt (g := g) e2
        have e4 : fb_ct (pf (xC X) (xr X) g) t2 = j := e3
        exact ((nI_eq (by omega) (by omega)).mp e1).symm
      subst hj
      have ht : t2 = kt (pf (xC X) (xr X) g) j := (kt_ok (p := pf (xC X) (xr X) g) e2 e3).symm
      subst ht
      refine s_runEnd hl.bc h.C rfl hc rfl (by omega) (s_price hl.bc.1 h.C rfl hc ?_)
      rw [p3]
      -- the step, by cases
      generalize hs : brI (xC X) (xr X) g (brG (xC X) (xr X) g) j = s at *
      have bs : brS (xC X) (xr X) g j s = if prF (xC X) (cI (xC X) + g) (nI (kt (pf (xC X) (xr X) g) j)) (nI (en (xC X) (xr X) g (kt (pf (xC X) (xr X) g) j))) ≤ nI (un (xr X 3)) ∧ (gnF (xC X) (xr X) g (win (kt (pf (xC X) (xr X) g) j) (en (xC X) (xr X) g (kt (pf (xC X) (xr X) g) j))) < s.2.1 ∨ (gnF (xC X) (xr X) g (win (kt (pf (xC X) (xr X) g) j) (en (xC X) (xr X) g (kt (pf (xC X) (xr X) g) j))) = s.2.1 ∧ s.1 ≠ -1 ∧ prF (xC X) (cI (xC X) + g) (nI (kt (pf (xC X) (xr X) g) j)) (nI (en (xC X) (xr X) g (kt (pf (xC X) (xr X) g) j))) < s.2.2)) then (nI (100 * (cI (xC X) + g) + j), gnF (xC X) (xr X) g (win (kt (pf (xC X) (xr X) g) j) (en (xC X) (xr X) g (kt (pf (xC X) (xr X) g) j))), prF (xC X) (cI (xC X) + g) (nI (kt (pf (xC X) (xr X) g) j)) (nI (en (xC X) (xr X) g (kt (pf (xC X) (xr X) g) j)))) else s := rfl
      change gnF (xC X) (xr X) g (win (kt (pf (xC X) (xr X) g) j) (en (xC X) (xr X) g (kt (pf (xC X) (xr X) g) j))) ≤ 1024 at hgn
      change hadF (xC X) (xr X) ≤ 1024 at hh
      change (prF (xC X) (cI (xC X) + g) (nI (kt (pf (xC X) (xr X) g) j)) (nI (en (xC X) (xr X) g (kt (pf (xC X) (xr X) g) j))) ≤ nI (un (xr X 3)) → _) ∧ (¬ prF (xC X) (cI (xC X) + g) (nI (kt (pf (xC X) (xr X) g) j)) (nI (en (xC X) (xr X) g (kt (pf (xC X) (xr X) g) j))) ≤ nI (un (xr X 3)) → _)
      refine ⟨fun hpr => c_gainOf hl rfl hg rfl rfl ken.1 (Nat.le_of_lt ken.2) (fun M hM _ => ?_), fun hpr => ?_⟩
      · change B_X8_bestReplay_129 _ _ _ _ _ _ (prF (xC X) (cI (xC X) + g) (nI (kt (pf (xC X) (xr X) g) j)) (nI (en (xC X) (xr X) g (kt (pf (xC X) (xr X) g) j)))) (nI (hadF (xC X) (xr X)) - nI (gnF (xC X) (xr X) g (win (kt (pf (xC X) (xr X) g) j) (en (xC X) (xr X) g (kt (pf (xC X) (xr X) g) j))))) _ _ _ _ _ _ _
        generalize prF (xC X) (cI (xC X) + g) (nI (kt (pf (xC X) (xr X) g) j)) (nI (en (xC X) (xr X) g (kt (pf (xC X) (xr X) g) j))) = pr at *
        generalize gnF (xC X) (xr X) g (win (kt (pf (xC X) (xr X) g) j) (en (xC X) (xr X) g (kt (pf (xC X) (xr X) g) j))) = gn at *
        have e100 : ((100 : Int32) * nI (cI (xC X) + g)) + nI j = nI (100 * (cI (xC X) + g) + j) := by rw [show (100 : Int32) = nI 100 from rfl, pk_mul, nI_add]
        have c1 : nI (hadF (xC X) (xr X) - s.2.1) < nI (hadF (xC X) (xr X)) - nI gn ↔ gn < s.2.1 := by
          rw [Int32.lt_iff_toInt_lt, pk_sub_toInt (by omega) (by omega), nI_toInt (by omega)]
          omega
        have c2 : nI (hadF (xC X) (xr X)) - nI gn ≤ 0 ↔ hadF (xC X) (xr X) ≤ gn := by
          rw [Int32.le_iff_toInt_le, pk_sub_toInt (by omega) (by omega), show (0 : Int32).toInt = 0 from rfl]
          omega
        have c3 : nI (hadF (xC X) (xr X)) - nI gn = nI (hadF (xC X) (xr X) - s.2.1) ↔ gn = s.2.1 := by
          rw [← Int32.toInt_inj, pk_sub_toInt (by omega) (by omega), nI_toInt (by omega)]
          omega
        have better : (gn < s.2.1 ∨ (gn = s.2.1 ∧ s.1 ≠ -1 ∧ pr < s.2.2)) → gn ≤ hadF (xC X) (xr X) → B_X8_bestReplay_154 (nI (cI (xC X) + g)) (nI (fb_ct (pf (xC X) (xr X) g) 64)) (nI j) pr (nI (hadF (xC X) (xr X)) - nI gn) I M b d Q (fun v1 v2 v3 v4 L => L_X8_bestReplay_18 I b d Q n v1 v2 v3 v4 L) (fun v1 v2 v3 v6 L => L_X8_bestReplay_47 (nI (cI (xC X) + g)) (nI (fb_ct (pf (xC X) (xr X) g) 64)) I b d Q (fun v1 v2 v3 v4 L => L_X8_bestReplay_18 I b d Q n v1 v2 v3 v4 L) n2 v1 v2 v3 v6 L) := by
          intro q q2
          unfold B_X8_bestReplay_154
          rw [e100]
          exact nx (nI (100 * (cI (xC X) + g) + j), gn, pr) _ M (by rw [bs, if_pos ⟨hpr, q⟩]) (pk_sub q2) hM
        have same : ¬ (gn < s.2.1 ∨ (gn = s.2.1 ∧ s.1 ≠ -1 ∧ pr < s.2.2)) → B_X8_bestReplay_169 s.1 (nI (hadF (xC X) (xr X) - s.2.1)) s.2.2 (nI (cI (xC X) + g)) (nI (fb_ct (pf (xC X) (xr X) g) 64)) (nI j) I M b d Q (fun v1 v2 v3 v4 L => L_X8_bestReplay_18 I b d Q n v1 v2 v3 v4 L) (fun v1 v2 v3 v6 L => L_X8_bestReplay_47 (nI (cI (xC X) + g)) (nI (fb_ct (pf (xC X) (xr X) g) 64)) I b d Q (fun v1 v2 v3 v4 L => L_X8_bestReplay_18 I b d Q n v1 v2 v3 v4 L) n2 v1 v2 v3 v6 L) := by
          intro q
          exact nx s _ M (by rw [bs, if_neg (fun z => q z.2)]) rfl hM
        refine ⟨fun q => ?_, fun q => ⟨fun q2 => ?_, fun q2 => ⟨fun q3 => ?_, fun q3 => ⟨fun q4 => ?_, fun q4 => ?_⟩⟩⟩⟩
        · rw [c1] at q
          exact better (Or.inl q) (by omega)
        · rw [c1] at q
          rw [c2] at q2
          refine same ?_
          rintro (z | ⟨z, z2, _⟩)
          · exact q z
          · rcases hv with ⟨y, _⟩ | ⟨_, y⟩
            · exact z2 y
            · omega
        · rw [c1] at q
          rw [c3] at q3
          refine same ?_
          rintro (z | ⟨z, _, _⟩)
          · exact q z
          · exact q3 z
        · rw [c1] at q
          refine same ?_
          rintro (z | ⟨_, _, z⟩)
          · exact q z
          · exact lt_le_f z q4
        · rw [c2] at q2
          rw [c3] at q3
          refine better (Or.inr ⟨q3, ?_, le_nlt.mp q4⟩) (by omega)
          rcases hv with ⟨_, y⟩ | ⟨y, _⟩
          · omega
          · exact y
      · have hz : ¬ nI (hadF (xC X) (xr X) - s.2.1) < 0 := nI_pos (by omega)
        refine ⟨fun q => absurd q hz, fun _ => ⟨fun _ => nx s _ l (by rw [bs, if_neg (fun z => hpr z.1)]) rfl hl, fun q => absurd (show (0 : Int32) ≤ 0 by decide) q⟩⟩
theorem m_bestReplay {Q : Int32 → TI → TL → Prop} (h : INV I L b d X B) (hB : B < 2 ^ 31) (k : ∀ J M, INV J M b d X B → Q (brG (xC X) (xr X) (cG (xC X))).1 J M) : W_X9_bestReplay I L Q := by
  have nb := h.nb
  have hh := wsF_le (xC X) h.C (shF (xC X) (xr X)) (deF (xC X) (xr X))
  have hp3 : un (xr X 3) ≤ B := h.r.2.1 2 (by omega)
  have p3 : xr X 3 = (nI (un (xr X 3))).toInt64 := by
    rw [nI_l (by omega)]
    exact un_e _
  have gap : ∀ s : ST, brV (xC X) (xr X) s → s.2.1 ≤ hadF (xC X) (xr X) := fun s hs => by rcases hs with ⟨_, q⟩ | ⟨_, q⟩ <;> omega
  unfold W_X9_bestReplay
  refine m_waves h.thr (fun M hM e hW => s_wrongs hM.mc h.C ?_)
  rw [show wsF (xC X) (M 444) (M 446) = hadF (xC X) (xr X) from wsF_cong (fun n hn => ⟨(hW.is h.C hn).1, (hW.is h.C hn).2.2⟩), hM.mc.1]
  refine lp6 (fun n v1 v2 v3 v4 i l => L_X9_bestReplay_24 Q n v1 v2 v3 v4 i l) (fun v1 v2 v3 v4 i l => ∃ g, g ≤ cG (xC X) ∧ v4 = nI (cI (xC X) + g) ∧ v1 = (brG (xC X) (xr X) g).1 ∧ v2 = nI (brG (xC X) (xr X) g).2.1 ∧ v3 = (brG (xC X) (xr X) g).2.2 ∧ INV i l b d X B ∧ WEq (xC X) (xr X) (l 444) (l 445) (l 446)) (fun _ _ _ v4 _ _ => cI (xC X) + cG (xC X) - v4.toNatClampNeg) ?_ _ _ _ _ _ _ ⟨0, Nat.zero_le _, rfl, rfl, rfl, rfl, hM, hW⟩
  rintro n v1 v2 v3 v4 i0 l ⟨g, g0, rfl, rfl, rfl, rfl, hl, hw⟩ ih
  show D_X9_bestReplay_24 Q _ _ _ _ (nI (cI (xC X) + g)) i0 l
  unfold D_X9_bestReplay_24
  refine s_nets9 hl.mc ?_
  refine pk_le (cI (xC X) + cG (xC X)) (cI (xC X) + g) (fun hc => ?_) (fun hc => ?_) rfl rfl (by omega) (by omega)
  · have : g = cG (xC X) := by omega
    subst this
    exact k i0 l hl
  · have hg : g < cG (xC X) := by omega
    have cn := fb_ct_le (pf (xC X) (xr X) g) 64
    refine lp6 (fun n2 v1 v2 v3 v5 i l => L_X9_bestReplay_36 (nI (cI (xC X) + g)) Q (fun v1 v2 v3 v4 I L => L_X9_bestReplay_24 Q n v1 v2 v3 v4 I L) n2 v1 v2 v3 v5 i l) (fun v1 v2 v3 v5 i l => ∃ j, j ≤ fb_ct (pf (xC X) (xr X) g) 64 ∧ v5 = nI j ∧ v1 = (brI (xC X) (xr X) g (brG (xC X) (xr X) g) j).1 ∧ v2 = nI (brI (xC X) (xr X) g (brG (xC X) (xr X) g) j).2.1 ∧ v3 = (brI (xC X) (xr X) g (brG (xC X) (xr X) g) j).2.2 ∧ INV i l b d X B ∧ WEq (xC X) (xr X) (l 444) (l 445) (l 446)) (fun _ _ _ v5 _ _ => fb_ct (pf (xC X) (xr X) g) 64 + 1 - v5.toNatClampNeg) ?_ _ _ _ _ _ _ ⟨0, Nat.zero_le _, rfl, rfl, rfl, rfl, hl, hw⟩
    clear hl hw hM hW e
    rintro n2 v1 v2 v3 v5 i1 l ⟨j, j0, rfl, rfl, rfl, rfl, hl, hw⟩ ih2
    show D_X9_bestReplay_36 (nI (cI (xC X) + g)) Q _ _ _ _ _ (nI j) i1 l
    unfold D_X9_bestReplay_36
    have hv := brI_v (r := xr X) h.C hg (brG_v (r := xr X) h.C g g0) j (by omega)
    have hle := gap _ hv
    change hadF (xC X) (xr X) ≤ 1024 at hh
    refine m_fp hl hw rfl hg (fun J t i hJ ef e1 e2 e3 e4 e5 => ?_) (fun J hJ ef q _ => ⟨fun _ => ?_, fun y => absurd rfl y⟩)
    · have hi : i = j := by
        have := fb_ct_le (pf (xC X) (xr X) g) t
        have l2 := pf_lt e2
        exact ((nI_eq (by omega) (by omega)).mp e1).symm
      subst hi
      have hlt : i < fb_ct (pf (xC X) (xr X) g) 64 := by
        have l2 := pf_lt e2
        have := fb_ct_mono (pf (xC X) (xr X) g) (m := t + 1) (n := 64) (by omega)
        have s1 : fb_ct (pf (xC X) (xr X) g) (t + 1) = fb_ct (pf (xC X) (xr X) g) t + (if pf (xC X) (xr X) g t = true then 1 else 0) := rfl
        rw [e2, if_pos rfl] at s1
        omega
      have ht : t = kt (pf (xC X) (xr X) g) i := (kt_ok e2 e3).symm
      subst ht
      have klt := pf_lt e2
      have ken := pf_en e2
      refine ⟨fun y => absurd y (by decide), fun _ => ?_⟩
      rw [e4, e5]
      refine s_costOf hJ.mc h.C rfl hc ?_
      rw [hJ.row, p3, wide_le]
      have hgn := wsF_le (xC X) h.C (shF (xC X) (stR (xr X) g (win (kt (pf (xC X) (xr X) g) i) (en (xC X) (xr X) g (kt (pf (xC X) (xr X) g) i))))) (deF (xC X) (stR (xr X) g (win (kt (pf (xC X) (xr X) g) i) (en (xC X) (xr X) g (kt (pf (xC X) (xr X) g) i)))))
      change gnF (xC X) (xr X) g (win (kt (pf (xC X) (xr X) g) i) (en (xC X) (xr X) g (kt (pf (xC X) (xr X) g) i))) ≤ 1024 at hgn
      have nx : ∀ (s : ST) (l2 : TL), s = brS (xC X) (xr X) g i (brI (xC X) (xr X) g (brG (xC X) (xr X) g) i) → INV J l2 b d X B → WEq (xC X) (xr X) (l2 444) (l2 445) (l2 446) → B_X9_bestReplay_152 s.1 (nI s.2.1) s.2.2 (nI (cI (xC X) + g)) (nI i) J l2 Q (fun v1 v2 v3 v4 I L => L_X9_bestReplay_24 Q n v1 v2 v3 v4 I L) (fun v1 v2 v3 v5 I L => L_X9_bestReplay_36 (nI (cI (xC X) + g)) Q (fun v1 v2 v3 v4 I L => L_X9_bestReplay_24 Q n v1 v2 v3 v4 I L) n2 v1 v2 v3 v5 I L) := by
        rintro s l2 rfl hl2 hw2
        exact ih2 _ _ _ _ _ _ ⟨i + 1, by omega, nI_1 i, rfl, rfl, rfl, hl2, hw2⟩ (by rw [nI_1, nI_clamp (by omega), nI_clamp (by omega)]; omega)
      generalize hs : brI (xC X) (xr X) g (brG (xC X) (xr X) g) i = s at *
      have bs : brS (xC X) (xr X) g i s = if prF (xC X) (cI (xC X) + g) (nI (kt (pf (xC X) (xr X) g) i)) (nI (en (xC X) (xr X) g (kt (pf (xC X) (xr X) g) i))) ≤ nI (un (xr X 3)) ∧ (gnF (xC X) (xr X) g (win (kt (pf (xC X) (xr X) g) i) (en (xC X) (xr X) g (kt (pf (xC X) (xr X) g) i))) < s.2.1 ∨ (gnF (xC X) (xr X) g (win (kt (pf (xC X) (xr X) g) i) (en (xC X) (xr X) g (kt (pf (xC X) (xr X) g) i))) = s.2.1 ∧ s.1 ≠ -1 ∧ prF (xC X) (cI (xC X) + g) (nI (kt (pf (xC X) (xr X) g) i)) (nI (en (xC X) (xr X) g (kt (pf (xC X) (xr X) g) i))) < s.2.2)) then (nI (100 * (cI (xC X) + g) + i), gnF (xC X) (xr X) g (win (kt (pf (xC X) (xr X) g) i) (en (xC X) (xr X) g (kt (pf (xC X) (xr X) g) i))), prF (xC X) (cI (xC X) + g) (nI (kt (pf (xC X) (xr X) g) i)) (nI (en (xC X) (xr X) g (kt (pf (xC X) (xr X) g) i)))) else s := rfl
      refine ⟨fun hpr => m_wrongBehind hJ rfl hg rfl rfl ken.1 (by omega) (fun M hM _ hW => ?_), fun hpr => ?_⟩
      · generalize prF (xC X) (cI (xC X) + g) (nI (kt (pf (xC X) (xr X) g) i)) (nI (en (xC X) (xr X) g (kt (pf (xC X) (xr X) g) i))) = pr at *
        generalize gnF (xC X) (xr X) g (win (kt (pf (xC X) (xr X) g) i) (en (xC X) (xr X) g (kt (pf (xC X) (xr X) g) i))) = gn at *
        have e100 : ((100 : Int32) * nI (cI (xC X) + g)) + nI i = nI (100 * (cI (xC X) + g) + i) := by rw [show (100 : Int32) = nI 100 from rfl, pk_mul, nI_add]
        have better : (gn < s.2.1 ∨ (gn = s.2.1 ∧ s.1 ≠ -1 ∧ pr < s.2.2)) → B_X9_bestReplay_122 s.1 (nI s.2.1) s.2.2 (nI (cI (xC X) + g)) (nI i) pr (nI gn) J M Q (fun v1 v2 v3 v4 I L => L_X9_bestReplay_24 Q n v1 v2 v3 v4 I L) (fun v1 v2 v3 v5 I L => L_X9_bestReplay_36 (nI (cI (xC X) + g)) Q (fun v1 v2 v3 v4 I L => L_X9_bestReplay_24 Q n v1 v2 v3 v4 I L) n2 v1 v2 v3 v5 I L) := by
          intro q
          refine ⟨fun _ => ?_, fun y => absurd y (by decide)⟩
          rw [e100]
          exact nx (nI (100 * (cI (xC X) + g) + i), gn, pr) M (by rw [bs, if_pos ⟨hpr, q⟩]) hM hW
        have same : ¬ (gn < s.2.1 ∨ (gn = s.2.1 ∧ s.1 ≠ -1 ∧ pr < s.2.2)) → B_X9_bestReplay_126 s.1 (nI s.2.1) s.2.2 (nI (cI (xC X) + g)) (nI i) pr (nI gn) J M Q (fun v1 v2 v3 v4 I L => L_X9_bestReplay_24 Q n v1 v2 v3 v4 I L) (fun v1 v2 v3 v5 I L => L_X9_bestReplay_36 (nI (cI (xC X) + g)) Q (fun v1 v2 v3 v4 I L => L_X9_bestReplay_24 Q n v1 v2 v3 v4 I L) n2 v1 v2 v3 v5 I L) := by
          intro q
          refine ⟨fun y => absurd rfl y, fun _ => ?_⟩
          exact nx s M (by rw [bs, if_neg (fun z => q z.2)]) hM hW
        refine pk_lt gn s.2.1 (fun q => better (Or.inl q)) (fun q => ?_) rfl rfl (by omega) (by omega)
        refine ⟨fun q2 => same ?_, fun q2 => ⟨fun q3 => same ?_, fun q3 => ⟨fun q4 => same ?_, fun q4 => better (Or.inr ⟨(nI_eq (by omega) (by omega)).mp q2, q3, le_nlt.mp q4⟩)⟩⟩⟩
        · rintro (z | ⟨z, _, _⟩)
          · omega
          · exact q2 (by rw [z])
        · rintro (z | ⟨_, z, _⟩)
          · omega
          · exact z q3
        · rintro (z | ⟨_, _, z⟩)
          · omega
          · exact lt_le_f z q4
      · exact nx s l (by rw [bs, if_neg (fun z => hpr z.1)]) hJ hw
    · have hj : j = fb_ct (pf (xC X) (xr X) g) 64 := by
        rcases Nat.lt_or_ge j (fb_ct (pf (xC X) (xr X) g) 64) with y | y
        · obtain ⟨y1, y2⟩ := pf_kth y
          exact (q _ j rfl y1 y2 (by omega)).elim
        · omega
      subst hj
      exact ih _ _ _ _ _ _ ⟨g + 1, by omega, nI_1 _, rfl, rfl, rfl, hJ, hw⟩ (by rw [nI_1, nI_clamp (by omega), nI_clamp (by omega)]; omega)
theorem op_bestReplay {P : Int32 → Int32 → TI → TL → Prop} (h : INV I L b d X B) (hB : B < 2 ^ 31) (fin : ∀ r J M, INV J M b d X B → P r r J M) : W_X8_bestReplay I L b d (fun r L1 => W_X9_bestReplay I L1 (fun r2 J M => P r r2 J M)) :=
  c_bestReplay h (fun _ hM => m_bestReplay hM hB (fun J N hN => fin _ J N hN))
end GAIN
