/-! what the class's methods do: deposit, setDelay, toggle, replay -/
section JM
variable {I J : TI} {L M : TL} {b d B : Nat} {X : XT}
/-- the three purses together -/
def pS (r : RW) : Nat := un (r 1) + un (r 2) + un (r 3)
theorem pS_cg {r s : RW} (h : ∀ i, 1 ≤ i → i ≤ 3 → s i = r i) : pS s = pS r := by
  unfold pS
  rw [h 1 (by omega) (by omega), h 2 (by omega) (by omega), h 3 (by omega) (by omega)]
theorem pS_up {r : RW} {p v : Nat} (hp : p < 3) (hv : v < 2 ^ 64) : pS (upR r (1 + p) (lN v)) + un (r (1 + p)) = pS r + v := by
  have e : un (lN v) = v := un_lN hv
  unfold pS
  match p, hp with
  | 0, _ =>
    rw [show 1 + 0 = 1 from rfl, upR_s, upR_n (show (2 : Nat) ≠ 1 by decide), upR_n (show (3 : Nat) ≠ 1 by decide), e]
    omega
  | 1, _ =>
    rw [show 1 + 1 = 2 from rfl, upR_s, upR_n (show (1 : Nat) ≠ 2 by decide), upR_n (show (3 : Nat) ≠ 2 by decide), e]
    omega
  | 2, _ =>
    rw [show 1 + 2 = 3 from rfl, upR_s, upR_n (show (1 : Nat) ≠ 3 by decide), upR_n (show (2 : Nat) ≠ 3 by decide), e]
    omega
theorem pS_pay {r : RW} {p a : Nat} (hp : p < 2) (h1 : a ≤ un (r (1 + p))) (h2 : un (r (1 + p)) < 2 ^ 63) (h3 : un (r 3) + a < 2 ^ 63) : pS (payR r p a) = pS r := by
  unfold payR
  have e1 := pS_up (r := r) (p := p) (v := un (r (1 + p)) - a) (by omega) (by omega)
  have e2 := pS_up (r := upR r (1 + p) (lN (un (r (1 + p)) - a))) (p := 2) (v := un (r 3) + a) (by omega) (by omega)
  rw [show 1 + 2 = 3 from rfl, upR_n (show (3 : Nat) ≠ 1 + p by omega)] at e2
  omega
theorem stR_pS {r : RW} {g : Nat} {m : Int64} : pS (stR r g m) = pS r := pS_cg (fun i h1 h2 => upR_n (by omega))
theorem rlR_pS {r : RW} {g : Nat} {m : Int64} {s : Bool} : pS (rlR r g m s) = pS r := pS_cg (fun i h1 h2 => by unfold rlR; rw [upR_n (by omega), upR_n (by omega)])
theorem fgF_pS {C : CQ} {r : RW} {net : Nat} : pS (fgF C r net) = pS r := pS_cg (fun i h1 h2 => fgR_lo (by omega))
theorem j_deposit {Q : Int32 → TI → TL → Prop} {QX : String → TI → TL → Prop} {x y : Int32} {p a : Nat} (h : INV I L b d X B) (hB : 1000000 ≤ B) (hB2 : B < 2 ^ 30) (hx : x = nI p) (hp : p < 3) (hy : y = nI a) (ha : a < 100000)
    (k1 : ∀ v J M X2, v < 2 ^ 31 → INV J M b d X2 B → xC X2 = xC X → hiI I J → pS (xr X2) = pS (xr X) + a → Q (nI v) J M) (k2 : Q (-3) I L) : W_X8_deposit x y I L b d Q QX := by
  have hbl := bn_lt h.2.2.1.1
  subst hx
  subst hy
  unfold W_X8_deposit
  have hu := h.r.2.1 p hp
  have e15 : I (b + 15) p = nI (un (xr X (1 + p))) := h.bc.2.1.2.1 p hp
  rw [pk_cl p rfl (by omega), e15, nI_add]
  have vp : vp_in (nI p) 3 := pk_in p 3 hp rfl
  refine ⟨fun e => absurd e (nI_pos (by omega)), fun _ => ⟨fun e => absurd e (nI_ge (b := 3) hp (by omega)), fun _ => ⟨fun e => absurd e (nI_pos (by omega)), fun _ => ⟨fun _ => ⟨vp, ?_⟩, fun e => absurd (nI_le (show a ≤ 99999 by omega) (by omega)) e⟩⟩⟩⟩
  rintro _ rfl
  refine pk_le (un (xr X (1 + p)) + a) 1000000 (fun q => ?_) (fun q => k2) rfl rfl (by omega) (by omega)
  refine c_record h.1 h.2.2 (fun J M hJ hi hm hb => ⟨vp, ?_⟩)
  have hr2 : RV (xC X) B (upR (xr X) (1 + p) (lN (un (xr X (1 + p)) + a))) := h.r.pur h.C hp (by rw [un_lN (by omega)]; omega)
  have hC2 : CI (up2 J (b + 15) p (nI (un (xr X (1 + p)) + a))) M b d (setr (recX X) (upR (xr X) (1 + p) (lN (un (xr X (1 + p)) + a)))) := by
    refine hJ.bench (recX_V h.1) (fun q q1 q2 => up2_row (by omega)) (fun _ _ _ => rfl) (hJ.2.1.st h.C (fun q q1 q2 => upR_n (by omega)) (hJ.2.1.2.1.pur hp (by rw [un_lN (by omega)])) (fun q q1 q2 q3 => ⟨up2_row (by omega), rfl⟩))
  refine k1 _ _ _ (setr (recX X) (upR (xr X) (1 + p) (lN (un (xr X (1 + p)) + a)))) (by omega) ⟨setr_V (recX_V h.1) hr2, trivial, hC2⟩ rfl (fun q hq => by rw [up2_row (by omega), hi q hq]) ?_
  have e1 := pS_up (r := xr X) (p := p) (v := un (xr X (1 + p)) + a) hp (by omega)
  show pS (upR (xr X) (1 + p) (lN (un (xr X (1 + p)) + a))) = _
  omega
theorem j_setDelay {Q : Int32 → TI → TL → Prop} {QX : String → TI → TL → Prop} {x y z : Int32} {g w v : Nat} (h : INV I L b d X B) (hx : x = nI (cI (xC X) + g)) (hg : g < cG (xC X)) (hy : y = nI w) (hw : w < 3) (hz : z = nI v) (v1 : 1 ≤ v) (v9 : v < 10)
    (k : ∀ r J M X2, INV J M b d X2 B → xC X2 = xC X → hiI I J → pS (xr X2) = pS (xr X) → Q r J M) : W_X8_setDelay x y z I L b d Q QX := by
  have nb := h.nb
  have hbl := bn_lt h.2.2.1.1
  have hn : cI (xC X) + g < cI (xC X) + cG (xC X) := by omega
  subst hx
  subst hy
  subst hz
  unfold W_X8_setDelay
  refine c_gate1 h rfl hg ?_
  refine ⟨fun e => absurd e (nI_pos (by omega)), fun _ => ⟨fun e => absurd e (nI_ge (b := 3) hw (by omega)), fun _ => ⟨fun e => absurd e (nI_nlt (b := 1) v1 (by omega)), fun _ => ⟨fun _ => ?_, fun e => absurd (nI_le (show v ≤ 9 by omega) (by omega)) e⟩⟩⟩⟩
  refine c_record h.1 h.2.2 (fun J M hJ hi hm hb => ?_)
  have vw : vp_in (nI w) 3 := pk_in w 3 hw rfl
  have vn : vp_in (nI (cI (xC X) + g)) 16 := pk_in _ 16 (by omega) rfl
  have hS0 : SC J M (b + 6) (xC X) (xr X) := hJ.2.1.2.1
  have hdl := h.dv g hg w hw
  have e8 : J (b + 8 + w) (cI (xC X) + g) = nI (dl (xr X) g w) := by
    have := (hS0.2.2.2.2.1 g hg).2.2.2 w hw
    rw [show b + 6 + 2 + w = b + 8 + w by omega] at this
    exact this
  rw [pk_cl w rfl (by omega), pk_cl (cI (xC X) + g) rfl (by omega), e8]
  refine ⟨vw, vn, ?_⟩
  rintro _ rfl
  refine ⟨fun e => ?_, fun e => ?_⟩
  · exact k _ _ _ (setr (recX X) (xr X)) ⟨setr_V (recX_V h.1) h.r, trivial, hJ⟩ rfl hi rfl
  · refine ⟨vw, vn, ?_⟩
    rintro _ rfl
    have hS1 : SC (up2 J (b + 8 + w) (cI (xC X) + g) (nI v)) M (b + 6) (xC X) (upR (xr X) (45 + 3 * g + w) (lN v)) := by
      have := hS0.del h.C hg hw (v := v) (by omega)
      rw [show b + 6 + 2 + w = b + 8 + w by omega] at this
      exact this
    have hR1 : RV (xC X) B (upR (xr X) (45 + 3 * g + w) (lN v)) := h.r.del h.C hg hw v1 (by omega)
    have hc1 : CC (up2 J (b + 8 + w) (cI (xC X) + g) (nI v)) (b + 1) (xC X) := CC.fr hJ.2.1.1 (fun q2 y1 y2 => up2_row (by omega))
    refine c_unsettle h.2.2.1.1 h.C hR1 hc1 hS1 rfl hn (fun J2 M2 hJ2 hM2 hR2 hBC => ?_)
    have gJ : ∀ q2, (q2 < b ∨ b + 41 < q2) → J2 q2 = J q2 := fun q2 y1 => by rw [hJ2 q2 (by omega) (by omega), up2_row (by omega)]
    have gM : ∀ q2, (q2 < b ∨ b + 41 < q2) → M2 q2 = M q2 := fun q2 y1 => hM2 q2 (by omega) (by omega) (by omega) (by omega) (by omega) (by omega)
    have hC2 : CI J2 M2 b d (setr (recX X) (fgF (xC X) (upR (xr X) (45 + 3 * g + w) (lN v)) (cI (xC X) + g))) := hJ.bench (recX_V h.1) (fun q2 y1 y2 => gJ q2 y2) (fun q2 y1 y2 => gM q2 y2) hBC
    refine k _ _ _ (setr (recX X) (fgF (xC X) (upR (xr X) (45 + 3 * g + w) (lN v)) (cI (xC X) + g))) ⟨setr_V (recX_V h.1) hR2, trivial, hC2⟩ rfl (fun q2 hq2 => by rw [gJ q2 (by omega), hi q2 hq2]) ?_
    show pS (fgF (xC X) (upR (xr X) (45 + 3 * g + w) (lN v)) (cI (xC X) + g)) = pS (xr X)
    rw [fgF_pS]
    exact pS_cg (fun i h1 h2 => upR_n (by omega))
theorem j_toggle {Q : Int32 → TI → TL → Prop} {QX : String → TI → TL → Prop} {x y : Int32} {n t : Nat} (h : INV I L b d X B) (hx : x = nI n) (hn : n < cI (xC X)) (hy : y = nI t) (ht : t ≤ cH (xC X))
    (k : ∀ r J M X2, INV J M b d X2 B → xC X2 = xC X → hiI I J → pS (xr X2) = pS (xr X) → Q r J M) : W_X8_toggle x y I L b d Q QX := by
  have nb := h.nb
  have hbl := bn_lt h.2.2.1.1
  have e4 : I (b + 1) 4 = nI (cI (xC X)) := h.bc.1.1
  subst hx
  subst hy
  have k1 := (rg_iff (x := nI n) (a := 0) (c := cI (xC X)) (by omega) (by omega)).mp (rgi (Nat.zero_le _) hn)
  unfold W_X8_toggle
  rw [e4]
  refine ⟨fun e => absurd e (nI_pos (by omega)), fun _ => ⟨fun _ => ?_, fun e => absurd k1.2 e⟩⟩
  refine c_time1 h rfl (Nat.lt_succ_of_le ht) ⟨fun _ => ?_, fun e => absurd e (by decide)⟩
  refine c_record h.1 h.2.2 (fun J M hJ hi hm hb => ?_)
  have hS0 : SC J M (b + 6) (xC X) (xr X) := hJ.2.1.2.1
  have e6 : J (b + 1) 6 = nI (cH (xC X)) := hJ.2.1.1.2.2.1
  have v4 : vp_in (nI n) 4 := pk_in n 4 (by omega) rfl
  have e11 : M (b + 11) n = xr X (5 + n) := (hS0.2.2.2.1 n hn).1
  rw [e6, pk_cl n rfl (by omega), e11]
  refine ⟨v4, s_window rfl rfl (by omega) (by omega) ⟨v4, ?_⟩⟩
  rintro _ rfl
  obtain ⟨w, hw⟩ : ∃ w, w = xr X (5 + n) ^^^ win t (cH (xC X)) := ⟨_, rfl⟩
  rw [← hw]
  have inw : inH (cH (xC X)) w := by
    rw [hw]
    exact inH_xor (h.r.2.2.2.1 n hn) (inH_win (Nat.le_refl _) (by omega))
  have hS1 : SC J (up2 M (b + 11) n w) (b + 6) (xC X) (upR (xr X) (5 + n) w) := hS0.inp h.C hn
  have hR1 : RV (xC X) B (upR (xr X) (5 + n) w) := h.r.inp h.C hn inw
  refine c_unsettle h.2.2.1.1 h.C hR1 hJ.2.1.1 hS1 rfl (Nat.lt_of_lt_of_le hn (Nat.le_add_right _ _)) (fun J2 M2 hJ2 hM2 hR2 hBC => ?_)
  have gJ : ∀ q2, (q2 < b ∨ b + 41 < q2) → J2 q2 = J q2 := fun q2 y1 => by rw [hJ2 q2 (by omega) (by omega)]
  have gM : ∀ q2, (q2 < b ∨ b + 41 < q2) → M2 q2 = M q2 := fun q2 y1 => by rw [hM2 q2 (by omega) (by omega) (by omega) (by omega) (by omega) (by omega), up2_row (by omega)]
  have hC2 : CI J2 M2 b d (setr (recX X) (fgF (xC X) (upR (xr X) (5 + n) w) n)) := hJ.bench (recX_V h.1) (fun q2 y1 y2 => gJ q2 y2) (fun q2 y1 y2 => gM q2 y2) hBC
  refine k _ _ _ (setr (recX X) (fgF (xC X) (upR (xr X) (5 + n) w) n)) ⟨setr_V (recX_V h.1) hR2, trivial, hC2⟩ rfl (fun q2 hq2 => by rw [gJ q2 (by omega), hi q2 hq2]) ?_
  show pS (fgF (xC X) (upR (xr X) (5 + n) w) n) = pS (xr X)
  rw [fgF_pS]
  exact pS_cg (fun i h1 h2 => upR_n (by omega))
theorem j_replay {Q : Int32 → TI → TL → Prop} {QX : String → TI → TL → Prop} {x y z : Int32} {g f t a : Nat} (h : INV I L b d X B) (hB : B < 2 ^ 30) (hx : x = nI (cI (xC X) + g)) (hg : g < cG (xC X)) (hy : y = nI f) (hz : z = nI t) (h1 : f ≤ t) (h2 : t ≤ cH (xC X)) (ea : prF (xC X) (cI (xC X) + g) (nI f) (nI t) = nI a) (ha : a ≤ 10000)
    (k1 : ∀ v J M X2, v < 2 ^ 31 → INV J M b d X2 B → xC X2 = xC X → hiI I J → pS (xr X2) + a = pS (xr X) → Q (nI v) J M) (k2 : Q (-3) I L) : W_X8_replay x y z I L b d Q QX := by
  have nb := h.nb
  have hbl := bn_lt h.2.2.1.1
  subst hx
  subst hy
  subst hz
  have hn : cI (xC X) + g < cI (xC X) + cG (xC X) := by omega
  unfold W_X8_replay
  refine c_gate1 h rfl hg ?_
  have hw : un (xr X 3) ≤ B := h.r.2.1 2 (by omega)
  have e15 : I (b + 15) 2 = nI (un (xr X 3)) := h.bc.2.1.2.1 2 (by omega)
  refine c_times1 h rfl rfl h1 h2 (s_price h.bc.1 h.C rfl hn ?_)
  rw [ea]
  refine pk_le _ _ (fun q => ?_) (fun q => k2) rfl e15 (by omega) (by omega)
  refine c_record h.1 h.2.2 (fun J M hJ hi hm2 hb => ?_)
  have ew : J (b + 15) 2 = nI (un (xr X 3)) := hJ.2.1.2.1.2.1 2 (by omega)
  rw [ew, pk_sub q]
  have hS1 : SC (up2 J (b + 15) 2 (nI (un (xr X 3) - a))) M (b + 6) (xC X) (upR (xr X) (1 + 2) (lN (un (xr X 3) - a))) := by
    have hS0 : SC J M (b + 6) (xC X) (xr X) := hJ.2.1.2.1
    exact hS0.pur (p := 2) (by omega) (by rw [un_lN (by omega)])
  have hr1 : RV (xC X) B (upR (xr X) (1 + 2) (lN (un (xr X 3) - a))) := h.r.pur h.C (by omega) (by rw [un_lN (by omega)]; omega)
  have hc1 : CC (up2 J (b + 15) 2 (nI (un (xr X 3) - a))) (b + 1) (xC X) := CC.fr hJ.2.1.1 (fun q2 y1 y2 => up2_row (by omega))
  refine c_settle h.2.2.1.1 h.C hr1 hc1 hS1 rfl hg rfl rfl h1 h2 (fun J2 M2 hJ2 hM2 hR hBC => ?_)
  have hC2 : CI J2 M2 b d (setr (recX X) (stR (upR (xr X) (1 + 2) (lN (un (xr X 3) - a))) g (win f t))) := hJ.bench (recX_V h.1) (fun q2 y1 y2 => by rw [hJ2 q2 (by omega), up2_row (by omega)]) (fun q2 y1 y2 => hM2 q2 (by omega) (by omega) (by omega) (by omega)) hBC
  have hV2 : XV (setr (recX X) (stR (upR (xr X) (1 + 2) (lN (un (xr X 3) - a))) g (win f t))) B := setr_V (recX_V h.1) hR
  refine k1 _ _ _ (setr (recX X) (stR (upR (xr X) (1 + 2) (lN (un (xr X 3) - a))) g (win f t))) ?_ ⟨hV2, trivial, hC2⟩ rfl (fun q2 hq2 => by rw [hJ2 q2 (by omega), up2_row (by omega), hi q2 hq2]) ?_
  · exact Nat.lt_of_le_of_lt (pc_le _) (by omega)
  · show pS (stR (upR (xr X) (1 + 2) (lN (un (xr X 3) - a))) g (win f t)) + a = pS (xr X)
    rw [stR_pS]
    have e1 := pS_up (r := xr X) (p := 2) (v := un (xr X 3) - a) (by omega) (by omega)
    rw [show 1 + 2 = 3 from rfl] at e1 ⊢
    omega
end JM
