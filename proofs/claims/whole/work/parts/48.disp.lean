/-! disputes: dispute, disputes, misjudged -/
section DISP
variable {I J : TI} {L M : TL} {b d B : Nat} {X : XT}
def dF (r : RW) (k f : Nat) : Int32 := (r (81 + 8 * k + f)).toInt32
def dN (r : RW) (k : Nat) : Nat := un (r (81 + 8 * k))
def dA (r : RW) (k : Nat) : Nat := un (r (82 + 8 * k))
def dE (r : RW) (k : Nat) : Nat := un (r (83 + 8 * k))
theorem i64_back (x : Int32) : x.toInt64.toInt32 = x := by
  rw [← Int32.toInt_inj]
  simp
theorem SC.ds {C : CQ} {r : RW} {a k f : Nat} (h : SC I L a C r) (hk : k < un (r 4)) (hf : f < 8) : I (a + 11 + k) f = dF r k f := by
  unfold dF
  rw [← h.2.2.2.2.2 k hk f hf, i64_back]
/-- what a dispute of a sound row is -/
theorem RV.ds {C : CQ} {r : RW} {k : Nat} (h : RV C B r) (hC : CV C) (hk : k < un (r 4)) : (cI C ≤ dN r k ∧ dN r k < cI C + cG C) ∧ (1 ≤ dA r k ∧ dA r k ≤ dE r k ∧ dE r k < cH C) ∧ dF r k 0 = nI (dN r k) ∧ dF r k 1 = nI (dA r k) ∧ dF r k 2 = nI (dE r k) ∧ (dF r k 3 = 0 ∨ dF r k 3 = 1) ∧ (dF r k 4 = 0 ∨ dF r k 4 = 1) ∧ (dF r k 5 = 0 ∨ dF r k 5 = 1) ∧ (∃ s, s ≤ 4 ∧ dF r k 6 = nI s) ∧ ((dF r k 7 = -1 ∧ dF r k 6 ≠ 1) ∨ dF r k 7 = 0 ∨ dF r k 7 = 1) := by
  have hI := hC.1
  have hG := hC.2.1
  have hH := hC.2.2.1
  obtain ⟨⟨g, g1, g2⟩, ⟨a, e, a1, a2, a3, a4, a5⟩, p3, p4, p5, ⟨s, s1, s2⟩, p7⟩ := h.2.2.2.2.2 k hk
  have e0 : dN r k = cI C + g := by unfold dN; rw [g2, un_lN (by omega)]
  have e1 : dA r k = a := by unfold dA; rw [a4, un_lN (by omega)]
  have e2 : dE r k = e := by unfold dE; rw [a5, un_lN (by omega)]
  have z : ∀ x : Int64, (x = 0 → x.toInt32 = 0) ∧ (x = 1 → x.toInt32 = 1) ∧ (x = -1 → x.toInt32 = -1) := fun x => ⟨fun q => by rw [q]; rfl, fun q => by rw [q]; rfl, fun q => by rw [q]; rfl⟩
  have f1 : dF r k 1 = (r (82 + 8 * k)).toInt32 := by unfold dF; rw [show 81 + 8 * k + 1 = 82 + 8 * k by omega]
  have f2 : dF r k 2 = (r (83 + 8 * k)).toInt32 := by unfold dF; rw [show 81 + 8 * k + 2 = 83 + 8 * k by omega]
  have f3 : dF r k 3 = (r (84 + 8 * k)).toInt32 := by unfold dF; rw [show 81 + 8 * k + 3 = 84 + 8 * k by omega]
  have f4 : dF r k 4 = (r (85 + 8 * k)).toInt32 := by unfold dF; rw [show 81 + 8 * k + 4 = 85 + 8 * k by omega]
  have f5 : dF r k 5 = (r (86 + 8 * k)).toInt32 := by unfold dF; rw [show 81 + 8 * k + 5 = 86 + 8 * k by omega]
  have f6 : dF r k 6 = (r (87 + 8 * k)).toInt32 := by unfold dF; rw [show 81 + 8 * k + 6 = 87 + 8 * k by omega]
  have f7 : dF r k 7 = (r (88 + 8 * k)).toInt32 := by unfold dF; rw [show 81 + 8 * k + 7 = 88 + 8 * k by omega]
  rw [f1, f2, f3, f4, f5, f6, f7]
  refine ⟨by omega, by omega, un_i _, un_i _, un_i _, p3.imp (z _).1 (z _).2.1, p4.imp (z _).1 (z _).2.1, p5.imp (z _).1 (z _).2.1, ⟨s, s1, by rw [s2, lN_i]⟩, ?_⟩
  · rcases p7 with ⟨q1, q2⟩ | q1 | q1
    · refine Or.inl ⟨(z _).2.2 q1, fun q3 => ?_⟩
      rw [s2, lN_i] at q3
      have := (nI_eq (a := s) (b := 1) (by omega) (by omega)).mp q3
      rw [s2, this] at q2
      exact q2 rfl
    · exact Or.inr (Or.inl ((z _).1 q1))
    · exact Or.inr (Or.inr ((z _).2.1 q1))
theorem s_of {Q : Int32 → Prop} {r : RW} {k f : Nat} {x y : Int32} (hr : L 437 = r) (hx : x = nI k) (hk : k < 20) (hy : y = nI f) (hf : f < 8) (q : Q (dF r k f)) : W_X9_of x y I L Q := by
  subst hx; subst hy
  have e : ((81 : Int32) + ((8 : Int32) * nI k)) + nI f = nI (81 + 8 * k + f) := by
    rw [show (8 : Int32) = nI 8 from rfl, show (81 : Int32) = nI 81 from rfl, pk_mul, nI_add, nI_add]
  unfold W_X9_of
  rw [pk_cl _ e (by omega), hr]
  exact ⟨pk_in _ 241 (by omega) e, q⟩
theorem s_noDispute {Q : Int32 → TI → Prop} {x : Int32} (h : INV I L b d X B) (h1 : rg x 0 (un (xr X 4)) → Q 0 (up2 I 436 0 0)) (h0 : ¬ rg x 0 (un (xr X 4)) → Q 1 (up2 I 436 0 1)) : W_X9_noDispute x I L Q := by
  have hc := h.r.2.2.1
  unfold W_X9_noDispute
  rw [h.row]
  have yes : rg x 0 (un (xr X 4)) → W_X9_fails 1 1 (up2 I 436 0 0) L (fun (r2659 : Int32) (I2660 : TI) => (r2659 = 0 ∨ r2659 = 1) ∧ (Q r2659 I2660)) := fun e => s_fails1 ⟨Or.inl rfl, h1 e⟩
  have no : ¬ rg x 0 (un (xr X 4)) → W_X9_fails 0 1 (up2 I 436 0 0) L (fun (r2659 : Int32) (I2660 : TI) => (r2659 = 0 ∨ r2659 = 1) ∧ (Q r2659 I2660)) := fun e => s_fails0 ⟨Or.inr rfl, by rw [up2_u]; exact h0 e⟩
  by_cases q : un (xr X 4) = 0
  · have e : xr X 4 - 1 = ((-1 : Int32)).toInt64 := by rw [un_e (xr X 4), q]; rfl
    rw [e]
    have nr : ¬ rg x 0 (un (xr X 4)) := by
      rintro ⟨n, _, n2, _⟩
      omega
    unfold W_X9_in
    rw [show (0 : Int64) = (0 : Int32).toInt64 from rfl, wide_lt, wide_lt]
    refine ⟨fun _ => no nr, fun e2 => ⟨fun _ => no nr, fun e3 => ?_⟩⟩
    rw [lt_nle, Int32.le_iff_toInt_le] at e2 e3
    rw [show (0 : Int32).toInt = 0 from rfl] at e2
    rw [show (-1 : Int32).toInt = -1 from rfl] at e3
    omega
  · refine s_in (a := 0) (c := un (xr X 4)) rfl rfl ?_ (by omega) (by omega) (by omega) yes no
    rw [show nI (un (xr X 4)) - 1 = nI (un (xr X 4) - 1) by rw [show (1 : Int32) = nI 1 from rfl, pk_sub (by omega)], nI_l (by omega)]
    conv => lhs; rw [un_e (xr X 4)]
    rw [show (1 : Int64) = lN 1 from rfl, lN_sub (by omega)]
theorem m_noD1 {Q : Int32 → TI → Prop} {x : Int32} {k : Nat} (h : INV I L b d X B) (hx : x = nI k) (hk : k < un (xr X 4)) (q : Q 0 (up2 I 436 0 0)) : W_X9_noDispute x I L Q :=
  s_noDispute h (fun _ => q) (fun e => absurd (hx ▸ rgi (Nat.zero_le _) hk) e)
theorem m_noD0 {Q : Int32 → TI → Prop} {x : Int32} (h : INV I L b d X B) (hx : ¬ rg x 0 (un (xr X 4))) (q : Q 1 (up2 I 436 0 1)) : W_X9_noDispute x I L Q :=
  s_noDispute h (fun e => absurd e hx) (fun _ => q)
theorem c_rd1 {Q : Nat → Prop} {QX : String → Prop} {x : Int32} {k : Nat} (h : INV I L b d X B) (hx : x = nI k) (hk : k < un (xr X 4)) (q : Q (b + 17 + k)) : W_X8_requireDispute x I L b d Q QX := by
  have hc := h.r.2.2.1
  subst hx
  have e : I (b + 6) 7 = nI (un (xr X 4)) := h.bc.2.1.2.2.1
  unfold W_X8_requireDispute
  rw [e, pk_cl k rfl (by omega)]
  exact ⟨fun z => absurd z (nI_pos (by omega)), fun _ => ⟨fun _ => ⟨pk_in k 20 (by omega) rfl, q⟩, fun z => absurd (nI_lt hk (by omega)) z⟩⟩
theorem c_rd0 {Q : Nat → Prop} {QX : String → Prop} {x : Int32} (h : INV I L b d X B) (hx : ¬ rg x 0 (un (xr X 4))) (q : QX NSE) : W_X8_requireDispute x I L b d Q QX := by
  have hc := h.r.2.2.1
  have e : I (b + 6) 7 = nI (un (xr X 4)) := h.bc.2.1.2.2.1
  have key := rg_iff (x := x) (a := 0) (c := un (xr X 4)) (by omega) (by omega)
  unfold W_X8_requireDispute
  rw [e]
  exact ⟨fun _ => q, fun z => ⟨fun z2 => absurd (key.mpr ⟨lt_nle.mp z, z2⟩) hx, fun _ => q⟩⟩
theorem dis_l (h : INV I L b d X B) {k : Nat} (hk : k < 20) : LAY (b + 17 + k) = 2 := st_disl (bn_st h.2.2.1.1) hk
theorem INV.ds (h : INV I L b d X B) {k f : Nat} (hk : k < un (xr X 4)) (hf : f < 8) : I (b + 17 + k) f = dF (xr X) k f := by
  have := h.bc.2.1.ds hk hf
  rw [show b + 6 + 11 + k = b + 17 + k by omega] at this
  exact this
/-- who has lost by a verdict -/
def loF (r : RW) (k : Nat) (v : Int32) : Int32 := if dF r k 5 = v then 1 - dF r k 4 else dF r k 4
theorem c_loser {Q : Int32 → Prop} {k : Nat} {v : Int32} (h : INV I L b d X B) (hk : k < un (xr X 4)) (hv : v = 0 ∨ v = 1) (q : Q (loF (xr X) k v)) : W_X3_loserBy (b + 17 + k) v I L Q := by
  unfold loF at q
  unfold W_X3_loserBy B_X3_loserBy_17
  rw [h.ds hk (by omega), h.ds hk (by omega)]
  have fin : ∀ s, s = v → ((¬ s = dF (xr X) k 5 → Q (dF (xr X) k 4)) ∧ (s = dF (xr X) k 5 → Q ((1 : Int32) - dF (xr X) k 4))) := by
    rintro s rfl
    refine ⟨fun e => ?_, fun e => ?_⟩
    · rw [if_neg (fun z => e z.symm)] at q
      exact q
    · rw [if_pos e.symm] at q
      exact q
  refine ⟨fun _ => ⟨fun e => fin 0 ?_, fun e => fin 1 e.symm⟩, fun e => ?_⟩
  · rcases hv with z | z
    · exact z.symm
    · exact absurd z e
  · rcases hv with z | z <;> rw [z] at e <;> exact absurd e (by decide)
theorem m_loser {Q : Int32 → Prop} {k : Nat} {x : Int32} (h : INV I L b d X B) (hx : x = nI k) (hk : k < un (xr X 4)) (q : Q (loF (xr X) k (dF (xr X) k 7))) : W_X9_loserOf x I L Q := by
  have hc := h.r.2.2.1
  unfold loF at q
  unfold W_X9_loserOf
  refine s_of (f := 5) h.row hx (by omega) rfl (by omega) (s_of (f := 7) h.row hx (by omega) rfl (by omega) ⟨fun e => s_of (f := 4) h.row hx (by omega) rfl (by omega) ?_, fun e => s_of (f := 4) h.row hx (by omega) rfl (by omega) ?_⟩)
  · rw [if_neg e] at q
    exact q
  · rw [if_pos e] at q
    exact q
theorem m_stake {Q : Int32 → Prop} {k : Nat} {x : Int32} (h : INV I L b d X B) (hx : x = nI k) (hk : k < un (xr X 4)) (q : Q (prF (xC X) (dN (xr X) k) (dF (xr X) k 1) (dF (xr X) k 2))) : W_X9_stakeOf x I L Q := by
  have hc := h.r.2.2.1
  obtain ⟨s1, s2, s3, -⟩ := h.r.ds h.C hk
  unfold W_X9_stakeOf
  refine s_of (f := 0) h.row hx (by omega) rfl (by omega) (s_of (f := 1) h.row hx (by omega) rfl (by omega) (s_of (f := 2) h.row hx (by omega) rfl (by omega) (s_costOf h.mc h.C s3 s1.2 q)))
theorem c_stake {Q : Int32 → Prop} {k : Nat} (h : INV I L b d X B) (hk : k < un (xr X 4)) (q : Q (prF (xC X) (dN (xr X) k) (dF (xr X) k 1) (dF (xr X) k 2))) : W_X0_price b (I (b + 17 + k) 0) (I (b + 17 + k) 1) (I (b + 17 + k) 2) I L Q := by
  obtain ⟨s1, s2, s3, -⟩ := h.r.ds h.C hk
  rw [h.ds hk (by omega), h.ds hk (by omega), h.ds hk (by omega)]
  exact s_price h.bc.1 h.C s3 s1.2 q
def dpF (C : CQ) (r : RW) (k w : Nat) : Int32 := match w with
  | 8 => if dF r k 7 = -1 then -1 else loF r k (dF r k 7)
  | 9 => prF C (dN r k) (dF r k 1) (dF r k 2)
  | f => dF r k f
theorem op_dispute {p1 p2 : Int32} {P : Int32 → Int32 → TI → TL → Prop} (h : INV I L b d X B) (fin : ∀ k r J M, OKL k r.toInt64 J M b d X B → P k r J M) : W_L_dispute p1 p2 I L b d (fun k L1 => W_X9_dispute p1 p2 I L1 (fun r J => P k r J L1)) := by
  have hc := h.r.2.2.1
  unfold W_L_dispute W_X8_dispute
  by_cases hk : rg p1 0 (un (xr X 4))
  · obtain ⟨k, -, hk, rfl⟩ := hk
    obtain ⟨s1, s2, s3, s4, s5, s6, s7, s8, s9, s10⟩ := h.r.ds h.C hk
    refine c_rd1 h rfl hk ⟨dis_l h (by omega), ?_⟩
    by_cases hw : rg p2 0 10
    · obtain ⟨w, -, hw, rfl⟩ := hw
      have z : ∀ m, m < 10 → nI w = nI m → w = m := fun m hm e => (nI_eq (by omega) (by omega)).mp e
      have run : ∀ v, v = dpF (xC X) (xr X) k w → W_X9_dispute (nI k) (nI w) I (up2 L 456 0 v.toInt64) (fun r J => P 0 r J (up2 L 456 0 v.toInt64)) := by
        intro v hv
        unfold W_X9_dispute
        refine m_noD1 h.out rfl hk ⟨fun e => absurd rfl e, fun _ => ?_⟩
        refine s_in (a := 0) (c := 10) rfl rfl rfl (by omega) (by omega) (by omega) (fun _ => s_fails1 ⟨fun _ => ?_, fun e => absurd rfl e⟩) (fun e => absurd (rgi (Nat.zero_le _) hw) e)
        have ff : ∀ (u : Int32), u = dpF (xC X) (xr X) k w → P 0 u (up2 I 436 0 0) (up2 L 456 0 v.toInt64) := fun u hu => fin 0 u _ _ (fin0 h.out.thr up2_s (by rw [up2_s, hu, hv]))
        refine pk_le 8 w (fun q => ⟨fun e => ?_, fun e => ?_⟩) (fun q => s_of (f := w) h.out.row rfl (by omega) rfl q (ff _ ?_)) rfl rfl (by omega) (by omega)
        · have w8 : w = 8 := by
            have : w ≠ 9 := fun q2 => e (by rw [q2]; rfl)
            omega
          subst w8
          refine s_of (f := 7) h.out.row rfl (by omega) rfl (by omega) ⟨fun e2 => m_loser h.out.thr rfl hk (ff _ ?_), fun e2 => ff _ ?_⟩
          · show _ = if _ then _ else _
            rw [if_neg e2]
          · show _ = if _ then _ else _
            rw [if_pos e2]
        · have := z 9 (by omega) e
          subst this
          exact m_stake h.out.thr rfl hk (ff _ rfl)
        · match w, q with
          | 0, _ => rfl
          | 1, _ => rfl
          | 2, _ => rfl
          | 3, _ => rfl
          | 4, _ => rfl
          | 5, _ => rfl
          | 6, _ => rfl
          | 7, _ => rfl
      rw [h.ds hk (show 3 < 8 by omega), h.ds hk (show 4 < 8 by omega), h.ds hk (show 5 < 8 by omega), h.ds hk (show 6 < 8 by omega), h.ds hk (show 7 < 8 by omega)]
      refine ⟨fun e => ?_, fun e => ?_, fun e => ?_, fun e => ?_, fun e => ?_, fun e => ?_, fun e => ?_, fun e => ?_, fun e => ?_, fun e => ?_, fun e => ?_⟩
      · have := z 0 (by omega) e; subst this; exact run _ (h.ds hk (by omega))
      · have := z 1 (by omega) e; subst this; exact run _ (h.ds hk (by omega))
      · have := z 2 (by omega) e; subst this; exact run _ (h.ds hk (by omega))
      · have := z 3 (by omega) e; subst this; exact run _ rfl
      · have := z 4 (by omega) e; subst this; exact run _ rfl
      · have := z 5 (by omega) e; subst this
        refine ⟨fun e2 => run 0 ?_, fun e2 => run 1 ?_⟩
        · show _ = dF (xr X) k 5
          rw [e2]
        · show _ = dF (xr X) k 5
          rcases s8 with q | q
          · exact absurd q e2
          · rw [q]
      · have := z 6 (by omega) e; subst this; exact run _ rfl
      · have := z 7 (by omega) e; subst this; exact run _ rfl
      · have := z 8 (by omega) e; subst this
        by_cases q : dF (xr X) k 7 = -1
        · rw [q]
          refine ⟨fun q2 => absurd rfl q2, fun _ => run (-1) ?_⟩
          show _ = if _ then _ else _
          rw [if_pos q]
        · refine c_loser h hk ?_ (run _ ?_)
          · rcases s10 with ⟨q2, _⟩ | q2 | q2
            · exact absurd q2 q
            · exact Or.inl q2
            · exact Or.inr q2
          · show _ = if _ then _ else _
            rw [if_neg q]
      · have := z 9 (by omega) e; subst this
        exact c_stake h hk (run _ rfl)
      · exfalso
        rcases e with e | e
        · exact nI_pos (by omega) e
        · have := (nI_ltI (a := 9) (by omega) (by omega)).mp e
          omega
    · have zz : ∀ m, m < 10 → p2 = nI m → False := fun m hm e => hw (e ▸ rgi (Nat.zero_le _) hm)
      refine ⟨fun e => (zz 0 (by omega) e).elim, fun e => (zz 1 (by omega) e).elim, fun e => (zz 2 (by omega) e).elim, fun e => (zz 3 (by omega) e).elim, fun e => (zz 4 (by omega) e).elim, fun e => (zz 5 (by omega) e).elim, fun e => (zz 6 (by omega) e).elim, fun e => (zz 7 (by omega) e).elim, fun e => (zz 8 (by omega) e).elim, fun e => (zz 9 (by omega) e).elim, fun _ => ⟨rfl, ?_⟩⟩
      unfold W_X9_dispute
      refine m_noD1 h rfl hk ⟨fun e => absurd rfl e, fun _ => ?_⟩
      refine s_in (a := 0) (c := 10) rfl rfl rfl (by omega) (by omega) (by omega) (fun e => absurd e hw) (fun _ => s_fails0 ⟨fun e => absurd e (by decide), fun _ => ?_⟩)
      rw [up2_u]
      exact fin _ _ _ _ (fin1 h.thr up2_s (by decide))
  · refine c_rd0 h hk ⟨rfl, ?_⟩
    unfold W_X9_dispute
    exact m_noD0 h hk ⟨fun _ => fin _ _ _ _ (fin1 h.thr up2_s (by decide)), fun e => absurd e (by decide)⟩
theorem row4 (h : INV I L b d X B) {j : Nat} (hj : j ≤ 20) : L 437 4 ≤ (nI j).toInt64 ↔ un (xr X 4) ≤ j := by
  have hc := h.r.2.2.1
  rw [h.row, nI_l (by omega)]
  conv => lhs; rw [un_e (xr X 4)]
  exact lN_le (by omega) (by omega)
def dcF (r : RW) (s : Int32) : Nat → Nat := fb_ct (fun k => decide (dF r k 6 = s))
theorem op_disputes {p1 : Int32} {P : Int32 → Int32 → TI → TL → Prop} (h : INV I L b d X B) (fin : ∀ k r J M, OKL k r.toInt64 J M b d X B → P k r J M) : W_L_disputes p1 I L b d (fun k L1 => W_X9_disputes p1 I L1 (fun r J => P k r J L1)) := by
  have hc := h.r.2.2.1
  have e7 : I (b + 6) 7 = nI (un (xr X 4)) := h.bc.2.1.2.2.1
  have cl : ∀ n, dcF (xr X) p1 n ≤ n := fb_ct_le _
  unfold W_L_disputes W_X8_disputes
  by_cases hs : rg p1 0 5
  · have key := (rg_iff (x := p1) (a := 0) (c := 5) (by omega) (by omega)).mp hs
    have cls : ∃ n, L_X8_disputes_24 p1 I L b d (fun (r3749 : Int32) => W_X9_disputes p1 I (up2 L 456 0 (r3749.toInt64)) (fun r J => P 0 r J (up2 L 456 0 (r3749.toInt64)))) (fun (e9 : String) => (e9 = "java/lang/IllegalArgumentException" ∧ W_X9_disputes p1 I L (fun r J => P 1 r J L))) n 0 0 := by
      refine lp2 (fun n u v => L_X8_disputes_24 p1 I L b d _ _ n u v) (fun u v => ∃ j, j ≤ un (xr X 4) ∧ v = nI j ∧ u = nI (dcF (xr X) p1 j)) (fun _ v => un (xr X 4) - v.toNatClampNeg) ?_ _ _ ⟨0, Nat.zero_le _, rfl, rfl⟩
      rintro n u v ⟨j, h1, rfl, rfl⟩ ih
      refine pk_le (un (xr X 4)) j (fun q => ?_) (fun q => ?_) e7 rfl (by omega) (by omega)
      · have : j = un (xr X 4) := by omega
        subst this
        unfold W_X9_disputes
        refine s_in (a := 0) (c := 5) rfl rfl rfl (by omega) (by omega) (by omega) (fun _ => s_fails1 ⟨fun _ => ?_, fun e => absurd rfl e⟩) (fun e => absurd hs e)
        refine lp2 (fun n u v => L_X9_disputes_28 p1 (up2 I 436 0 0) (up2 L 456 0 (nI (dcF (xr X) p1 (un (xr X 4)))).toInt64) _ n u v) (fun u v => ∃ j, j ≤ un (xr X 4) ∧ v = nI j ∧ u = nI (dcF (xr X) p1 j)) (fun _ v => un (xr X 4) - v.toNatClampNeg) ?_ _ _ ⟨0, Nat.zero_le _, rfl, rfl⟩
        rintro n u v ⟨j, h1, rfl, rfl⟩ ih
        refine ek_if (row4 h.out (j := j) (by omega)) (fun q => ?_) (fun q => ?_)
        · have : j = un (xr X 4) := by omega
          subst this
          exact fin _ _ _ _ (fin0 h.out.thr up2_s up2_s)
        · have hst : dcF (xr X) p1 (j + 1) = dcF (xr X) p1 j + (if decide (dF (xr X) j 6 = p1) = true then 1 else 0) := rfl
          have nx : ∀ z : Int32, nI (dcF (xr X) p1 j) + z = nI (dcF (xr X) p1 (j + 1)) → B_X9_disputes_57 p1 (nI j) (nI (dcF (xr X) p1 j)) z (up2 I 436 0 0) (up2 L 456 0 (nI (dcF (xr X) p1 (un (xr X 4)))).toInt64) (fun r J => P 0 r J (up2 L 456 0 (nI (dcF (xr X) p1 (un (xr X 4)))).toInt64)) (fun v2 v3 => L_X9_disputes_28 p1 (up2 I 436 0 0) (up2 L 456 0 (nI (dcF (xr X) p1 (un (xr X 4)))).toInt64) (fun r J => P 0 r J (up2 L 456 0 (nI (dcF (xr X) p1 (un (xr X 4)))).toInt64)) n v2 v3) := fun z hz => ih _ _ ⟨j + 1, by omega, nI_1 j, hz⟩ (by rw [nI_1, nI_clamp (by omega), nI_clamp (by omega)]; omega)
          refine s_of (f := 6) h.out.row rfl (by omega) rfl (by omega) ⟨fun e => nx 0 ?_, fun e => nx 1 ?_⟩
          · rw [hst, decide_eq_false e]
            exact nI_add _ 0
          · rw [hst, decide_eq_true e]
            exact nI_1 _
      · have hst : dcF (xr X) p1 (j + 1) = dcF (xr X) p1 j + (if decide (dF (xr X) j 6 = p1) = true then 1 else 0) := rfl
        rw [pk_cl j rfl (by omega), h.ds q (by omega)]
        refine ⟨pk_in j 20 (by omega) rfl, fun e => ?_, fun e => ?_⟩
        · exact ih _ _ ⟨j + 1, by omega, nI_1 j, by rw [hst, decide_eq_false e]; rfl⟩ (by rw [nI_1, nI_clamp (by omega), nI_clamp (by omega)]; omega)
        · exact ih _ _ ⟨j + 1, by omega, nI_1 j, by rw [hst, decide_eq_true e]; exact nI_1 _⟩ (by rw [nI_1, nI_clamp (by omega), nI_clamp (by omega)]; omega)
    refine ⟨fun e => absurd e (lt_nle.mpr key.1), fun _ => ⟨fun _ => cls, fun e => ?_⟩⟩
    obtain ⟨n, _, hn, rfl⟩ := hs
    exact absurd (nI_le (show n ≤ 4 by omega) (by omega)) e
  · have bad : W_X9_disputes p1 I L (fun r J => P 1 r J L) := by
      unfold W_X9_disputes
      refine s_in (a := 0) (c := 5) rfl rfl rfl (by omega) (by omega) (by omega) (fun e => absurd e hs) (fun _ => s_fails0 ⟨fun e => absurd e (by decide), fun _ => ?_⟩)
      rw [up2_u]
      exact fin _ _ _ _ (fin1 h.thr up2_s (by decide))
    refine ⟨fun _ => ⟨rfl, bad⟩, fun e => ⟨fun e2 => ?_, fun _ => ⟨rfl, bad⟩⟩⟩
    refine absurd ((rg_iff (x := p1) (a := 0) (c := 5) (by omega) (by omega)).mpr ⟨lt_nle.mp e, ?_⟩) hs
    rw [Int32.lt_iff_toInt_lt, nI_toInt (by omega)]
    rw [Int32.le_iff_toInt_le, show (4 : Int32).toInt = 4 from rfl] at e2
    omega
/-- the verdict of the dear wave -/
def rpF (C : CQ) (r : RW) (k : Nat) : Int32 := if ((if dF r k 3 = 1 then deF C r (dN r k) else deF C r (dN r k) ^^^ (-1)) &&& win (dA r k) (dE r k)) = 0 then 0 else 1
theorem c_dearV {Q : Int32 → Prop} {k : Nat} (h : INV I L b d X B) (hk : k < un (xr X 4)) (q : Q (rpF (xC X) (xr X) k)) : W_X0_dearVerdict b (b + 17 + k) I L Q := by
  have nb := h.nb
  obtain ⟨s1, s2, s3, s4, s5, s6, -⟩ := h.r.ds h.C hk
  have e3 := (h.bc.2.2 _ s1.2).2.2.1
  have vn : vp_in (nI (dN (xr X) k)) 16 := pk_in _ 16 (by omega) rfl
  unfold rpF at q
  unfold W_X0_dearVerdict B_X0_dearVerdict_33
  rw [h.ds hk (by omega), h.ds hk (by omega), h.ds hk (by omega), h.ds hk (by omega), s3, s4, s5, pk_cl (dN (xr X) k) rfl (by omega), e3]
  have fin : ∀ s : Int64, s = (if dF (xr X) k 3 = 1 then deF (xC X) (xr X) (dN (xr X) k) else deF (xC X) (xr X) (dN (xr X) k) ^^^ (-1)) → W_X8_window (nI (dA (xr X) k)) (nI (dE (xr X) k)) I L (fun (r294 : Int64) => ((s &&& r294) = 0 → Q 0) ∧ (¬ (s &&& r294) = 0 → Q 1)) := by
    rintro s rfl
    refine s_window rfl rfl (by omega) (by omega) ⟨fun e => ?_, fun e => ?_⟩
    · rw [if_pos e] at q
      exact q
    · rw [if_neg e] at q
      exact q
  exact ⟨fun e => ⟨vn, fin _ (by rw [if_neg e])⟩, fun e => ⟨vn, fin _ (by rw [if_pos e])⟩⟩
theorem m_replayed {Q : Int32 → Prop} {k : Nat} {x : Int32} (h : INV I L b d X B) (hW : WEq (xC X) (xr X) (L 444) (L 445) (L 446)) (hx : x = nI k) (hk : k < un (xr X 4)) (q : Q (rpF (xC X) (xr X) k)) : W_X9_replayed x I L Q := by
  have nb := h.nb
  have hc := h.r.2.2.1
  obtain ⟨s1, s2, s3, s4, s5, s6, -⟩ := h.r.ds h.C hk
  unfold rpF at q
  unfold W_X9_replayed
  refine s_of (f := 0) h.row hx (by omega) rfl (by omega) ?_
  rw [s3, pk_cl (dN (xr X) k) rfl (by omega), (WEq.is hW h.C s1.2).2.2]
  refine ⟨pk_in _ 16 (by omega) rfl, ?_⟩
  rintro _ rfl
  have fin : ∀ s : Int64, s = (if dF (xr X) k 3 = 1 then deF (xC X) (xr X) (dN (xr X) k) else deF (xC X) (xr X) (dN (xr X) k) ^^^ (-1)) → B_X9_replayed_31 x s I L Q := by
    rintro s rfl
    unfold B_X9_replayed_31 W_X9_windowOf
    refine s_of (f := 1) h.row hx (by omega) rfl (by omega) (s_of (f := 2) h.row hx (by omega) rfl (by omega) ?_)
    refine s_times s4 s5 (by omega) (by omega) ⟨fun e => ?_, fun e => ?_⟩
    · rw [if_neg e] at q
      exact q
    · rw [if_pos e] at q
      exact q
  refine s_of (f := 3) h.row hx (by omega) rfl (by omega) ⟨fun e => fin _ (by rw [if_neg e]), fun e => fin _ (by rw [if_pos e])⟩
def mjF (C : CQ) (r : RW) : Nat → Nat := fb_ct (fun k => decide (dF r k 7 ≠ -1 ∧ dF r k 7 ≠ rpF C r k))
theorem op_misjudged {P : Int32 → Int32 → TI → TL → Prop} (h : INV I L b d X B) (fin : ∀ r J M, INV J M b d X B → P r r J M) : W_X8_misjudged I L b d (fun r => W_X9_misjudged I L (fun r2 J M => P r r2 J M)) := by
  have hc := h.r.2.2.1
  have e7 : I (b + 6) 7 = nI (un (xr X 4)) := h.bc.2.1.2.2.1
  have cl : ∀ n, mjF (xC X) (xr X) n ≤ n := fb_ct_le _
  unfold W_X8_misjudged
  refine lp2 (fun n u v => L_X8_misjudged_4 I L b d _ n u v) (fun u v => ∃ j, j ≤ un (xr X 4) ∧ v = nI j ∧ u = nI (mjF (xC X) (xr X) j)) (fun _ v => un (xr X 4) - v.toNatClampNeg) ?_ _ _ ⟨0, Nat.zero_le _, rfl, rfl⟩
  rintro n u v ⟨j, h1, rfl, rfl⟩ ih
  refine pk_le (un (xr X 4)) j (fun q => ?_) (fun q => ?_) e7 rfl (by omega) (by omega)
  · have : j = un (xr X 4) := by omega
    subst this
    unfold W_X9_misjudged
    refine m_waves h.thr (fun M hM e hW => ?_)
    refine lp2 (fun n u v => L_X9_misjudged_13 (up2 I 436 0 0) M _ n u v) (fun u v => ∃ j, j ≤ un (xr X 4) ∧ v = nI j ∧ u = nI (mjF (xC X) (xr X) j)) (fun _ v => un (xr X 4) - v.toNatClampNeg) ?_ _ _ ⟨0, Nat.zero_le _, rfl, rfl⟩
    rintro n u v ⟨j, h1, rfl, rfl⟩ ih
    refine ek_if (row4 hM (j := j) (by omega)) (fun q => ?_) (fun q => ?_)
    · have : j = un (xr X 4) := by omega
      subst this
      exact fin _ _ _ hM
    · have hst : mjF (xC X) (xr X) (j + 1) = mjF (xC X) (xr X) j + (if decide (dF (xr X) j 7 ≠ -1 ∧ dF (xr X) j 7 ≠ rpF (xC X) (xr X) j) = true then 1 else 0) := rfl
      have nx : ∀ z : Int32, nI (mjF (xC X) (xr X) j) + z = nI (mjF (xC X) (xr X) (j + 1)) → B_X9_misjudged_57 (nI j) (nI (mjF (xC X) (xr X) j)) z (up2 I 436 0 0) M (fun r2 J M => P (nI (mjF (xC X) (xr X) (un (xr X 4)))) r2 J M) (fun v1 v2 => L_X9_misjudged_13 (up2 I 436 0 0) M (fun r2 J M => P (nI (mjF (xC X) (xr X) (un (xr X 4)))) r2 J M) n v1 v2) := fun z hz => ih _ _ ⟨j + 1, by omega, nI_1 j, hz⟩ (by rw [nI_1, nI_clamp (by omega), nI_clamp (by omega)]; omega)
      refine s_of (f := 7) hM.row rfl (by omega) rfl (by omega) ⟨fun e2 => nx 0 ?_, fun e2 => s_of (f := 7) hM.row rfl (by omega) rfl (by omega) (m_replayed hM hW rfl (by omega) ⟨fun e3 => nx 0 ?_, fun e3 => nx 1 ?_⟩)⟩
      · rw [hst, decide_eq_false (fun z => z.1 e2)]
        exact nI_add _ 0
      · rw [hst, decide_eq_false (fun z => z.2 e3)]
        exact nI_add _ 0
      · rw [hst, decide_eq_true ⟨e2, e3⟩]
        exact nI_1 _
  · have hst : mjF (xC X) (xr X) (j + 1) = mjF (xC X) (xr X) j + (if decide (dF (xr X) j 7 ≠ -1 ∧ dF (xr X) j 7 ≠ rpF (xC X) (xr X) j) = true then 1 else 0) := rfl
    rw [pk_cl j rfl (by omega), h.ds q (by omega)]
    have nx : ∀ z : Int32, z = nI (mjF (xC X) (xr X) (j + 1)) → L_X8_misjudged_4 I L b d (fun r => W_X9_misjudged I L (fun r2 J M => P r r2 J M)) n z (nI j + 1) := fun z hz => ih _ _ ⟨j + 1, by omega, nI_1 j, hz⟩ (by rw [nI_1, nI_clamp (by omega), nI_clamp (by omega)]; omega)
    refine ⟨pk_in j 20 (by omega) rfl, fun e2 => nx _ ?_, fun e2 => c_dearV h q ⟨fun e3 => nx _ ?_, fun e3 => nx _ ?_⟩⟩
    · rw [hst, decide_eq_false (fun z => z.1 e2)]
      rfl
    · rw [hst, decide_eq_false (fun z => z.2 e3)]
      rfl
    · rw [hst, decide_eq_true ⟨e2, e3⟩]
      exact nI_1 _
end DISP
