/-! calls that ask: size, value, stateAt, wave, changes, quietFrom, shortest, wrong, firstWrong, allWrong, worst, errorPosition -/
def OKL (k : Int32) (r : Int64) (J : TI) (M : TL) (b d : Nat) (X : XT) (B : Nat) : Prop := J 436 0 = k ∧ (k = 0 → M 456 0 = r) ∧ INV J M b d X B
section OPS
variable {I J : TI} {L M : TL} {b d B : Nat} {X : XT}
theorem rgi {n a c : Nat} (h1 : a ≤ n) (h2 : n < c) : rg (nI n) a c := ⟨n, h1, h2, rfl⟩
theorem INV.C (h : INV I L b d X B) : CV (xC X) := h.1.1
theorem INV.r (h : INV I L b d X B) : RV (xC X) B (xr X) := h.1.2.1
theorem INV.mc (h : INV I L b d X B) : MC I (xC X) := h.2.1.1
theorem INV.row (h : INV I L b d X B) : L 437 = xr X := h.2.1.2.1
theorem INV.bc (h : INV I L b d X B) : BC I L b (xC X) (xr X) := h.2.2.2.1
theorem INV.nb (h : INV I L b d X B) : 1 ≤ cI (xC X) ∧ cI (xC X) ≤ 4 ∧ cG (xC X) ≤ 12 ∧ 4 ≤ cH (xC X) ∧ cH (xC X) ≤ 60 := ⟨h.C.1.1, h.C.1.2, h.C.2.1, h.C.2.2.1.1, h.C.2.2.1.2⟩
theorem INV.out (h : INV I L b d X B) {x : Int64} : INV I (up2 L 456 0 x) b d X B := h.ro (roI.rf I) (roL.rf L).out
theorem INV.thr (h : INV I L b d X B) {x : Int32} : INV (up2 I 436 0 x) L b d X B := h.ro ((roI.rf I).up (Or.inl rfl)) (roL.rf L)
theorem INV.wv (h : INV I L b d X B) (e : roL L M) : INV I M b d X B := h.ro (roI.rf I) e
theorem fin0 (h : INV I L b d X B) {r : Int64} (hJ : I 436 0 = 0) (hM : L 456 0 = r) : OKL 0 r I L b d X B := ⟨hJ, fun _ => hM, h⟩
theorem fin1 (h : INV I L b d X B) {k : Int32} {r : Int64} (hJ : I 436 0 = k) (hk : k ≠ 0) : OKL k r I L b d X B := ⟨hJ, fun e => absurd e hk, h⟩
theorem m_waves {Q : TL → Prop} (h : INV I L b d X B) (k : ∀ M, INV I M b d X B → M 456 = L 456 → WEq (xC X) (xr X) (M 444) (M 445) (M 446) → Q M) : W_X9_waves I L Q := by
  refine s_waves h.mc h.C (fun g hg w hw => ?_) (fun M hM hW => k M (h.wv (roL.wv hM)) (hM 456 (by decide)) (by rw [← h.row]; exact hW))
  rw [h.row]
  have := (h.r.2.2.2.2.1 g hg).2.2.2 w hw
  omega
theorem m_noNet1 {Q : Int32 → TI → Prop} {x : Int32} {n : Nat} (h : INV I L b d X B) (hx : x = nI n) (hn : n < cI (xC X) + cG (xC X)) (k : Q 0 (up2 I 436 0 0)) : W_X9_noNet x I L Q :=
  s_noNet h.mc h.C (fun _ => k) (fun e => absurd (hx ▸ rgi (Nat.zero_le _) hn) e)
theorem m_noNet0 {Q : Int32 → TI → Prop} {x : Int32} (h : INV I L b d X B) (hx : ¬ rg x 0 (cI (xC X) + cG (xC X))) (k : Q 1 (up2 I 436 0 1)) : W_X9_noNet x I L Q :=
  s_noNet h.mc h.C (fun e => absurd e hx) (fun _ => k)
theorem m_noGate1 {Q : Int32 → TI → Prop} {x : Int32} {g : Nat} (h : INV I L b d X B) (hx : x = nI (cI (xC X) + g)) (hg : g < cG (xC X)) (k : Q 0 (up2 I 436 0 0)) : W_X9_noGate x I L Q :=
  s_noGate h.mc h.C (fun _ => k) (fun e => absurd (hx ▸ rgi (Nat.le_add_right _ _) (by omega)) e)
theorem m_noGate0 {Q : Int32 → TI → Prop} {x : Int32} (h : INV I L b d X B) (hx : ¬ rg x (cI (xC X)) (cI (xC X) + cG (xC X))) (k : Q 1 (up2 I 436 0 1)) : W_X9_noGate x I L Q :=
  s_noGate h.mc h.C (fun e => absurd e hx) (fun _ => k)
theorem m_noWave1 {Q : Int32 → TI → TL → Prop} {x y : Int32} {n m : Nat} (h : INV I L b d X B) (hx : x = nI n) (hy : y = nI m) (hn : n < cI (xC X) + cG (xC X)) (hm : m < 3) (k : ∀ M, INV (up2 I 436 0 0) M b d X B → M 456 = L 456 → WEq (xC X) (xr X) (M 444) (M 445) (M 446) → Q 0 (up2 I 436 0 0) M) : W_X9_noWave x y I L Q := by
  refine s_noWave h.mc h.C (by rw [h.row]; exact h.r) (fun _ _ M hM hW => k M (h.thr.wv (roL.wv hM)) (hM 456 (by decide)) (by rw [← h.row]; exact hW)) (fun e => ?_)
  subst hx; subst hy
  exact absurd ⟨rgi (Nat.zero_le _) hn, rgi (Nat.zero_le _) hm⟩ e
theorem m_noWave0 {Q : Int32 → TI → TL → Prop} {x y : Int32} (h : INV I L b d X B) (hx : ¬ (rg x 0 (cI (xC X) + cG (xC X)) ∧ rg y 0 3)) (k : Q 1 (up2 I 436 0 1) L) : W_X9_noWave x y I L Q :=
  s_noWave h.mc h.C (by rw [h.row]; exact h.r) (fun e e2 _ _ _ => absurd ⟨e, e2⟩ hx) (fun _ => k)
theorem c_net1 {Q : Prop} {QX : String → Prop} {x : Int32} {n : Nat} (h : INV I L b d X B) (hx : x = nI n) (hn : n < cI (xC X) + cG (xC X)) (k : Q) : W_X8_requireNet x I L b d Q QX :=
  s_requireNet h.bc.1 h.C (fun _ => k) (fun e => absurd (hx ▸ rgi (Nat.zero_le _) hn) e)
theorem c_net0 {Q : Prop} {QX : String → Prop} {x : Int32} (h : INV I L b d X B) (hx : ¬ rg x 0 (cI (xC X) + cG (xC X))) (k : QX NSE) : W_X8_requireNet x I L b d Q QX :=
  s_requireNet h.bc.1 h.C (fun e => absurd e hx) (fun _ => k)
theorem c_gate1 {Q : Prop} {QX : String → Prop} {x : Int32} {g : Nat} (h : INV I L b d X B) (hx : x = nI (cI (xC X) + g)) (hg : g < cG (xC X)) (k : Q) : W_X8_requireGate x I L b d Q QX :=
  s_requireGate h.bc.1 h.C (fun _ => k) (fun e => absurd (hx ▸ rgi (Nat.le_add_right _ _) (by omega)) e)
theorem c_gate0 {Q : Prop} {QX : String → Prop} {x : Int32} (h : INV I L b d X B) (hx : ¬ rg x (cI (xC X)) (cI (xC X) + cG (xC X))) (k : QX NSE) : W_X8_requireGate x I L b d Q QX :=
  s_requireGate h.bc.1 h.C (fun e => absurd e hx) (fun _ => k)
theorem c_time1 {Q : Int32 → Prop} {x : Int32} {t : Nat} (h : INV I L b d X B) (hx : x = nI t) (ht : t < cH (xC X) + 1) (k : Q 1) : W_X2_hasTime (b + 1) x I L Q :=
  s_hasTime h.bc.1 h.C (fun _ => k) (fun e => absurd (hx ▸ rgi (Nat.zero_le _) ht) e)
theorem c_time0 {Q : Int32 → Prop} {x : Int32} (h : INV I L b d X B) (hx : ¬ rg x 0 (cH (xC X) + 1)) (k : Q 0) : W_X2_hasTime (b + 1) x I L Q :=
  s_hasTime h.bc.1 h.C (fun e => absurd e hx) (fun _ => k)
theorem c_wave1 {Q : Int64 → Prop} {QX : String → Prop} {x y : Int32} {n m : Nat} (h : INV I L b d X B) (hx : x = nI n) (hy : y = nI m) (hn : n < cI (xC X) + cG (xC X)) (hm : m < 3) (k : Q (wvF (xC X) (xr X) m n)) : W_X8_requireWave x y I L b d Q QX := by
  have nb := h.nb
  subst hx; subst hy
  refine s_requireWave h.bc h.C (fun n2 m2 a a2 e1 e2 => ?_) (fun e => absurd ⟨rgi (Nat.zero_le _) hn, rgi (Nat.zero_le _) hm⟩ e)
  have q1 := (nI_eq (by omega) (by omega)).mp e1
  have q2 := (nI_eq (by omega) (by omega)).mp e2
  subst q1; subst q2
  exact k
theorem c_wave0 {Q : Int64 → Prop} {QX : String → Prop} {x y : Int32} (h : INV I L b d X B) (hx : ¬ (rg x 0 (cI (xC X) + cG (xC X)) ∧ rg y 0 3)) (k : QX NSE) : W_X8_requireWave x y I L b d Q QX :=
  s_requireWave h.bc h.C (fun n m a a2 e1 e2 => absurd ⟨e1 ▸ rgi (Nat.zero_le _) a, e2 ▸ rgi (Nat.zero_le _) a2⟩ hx) (fun _ => k)
theorem op_value {p1 p2 p3 : Int32} {P : Int32 → Int32 → TI → TL → Prop} (h : INV I L b d X B) (fin : ∀ k r J M, OKL k r.toInt64 J M b d X B → P k r J M) : W_L_value p1 p2 p3 I L b d (fun k L1 => W_X9_value p1 p2 p3 I L1 (fun r J M => P k r J M)) := by
  have nb := h.nb
  unfold W_L_value W_X8_value
  by_cases hw : rg p1 0 (cI (xC X) + cG (xC X)) ∧ rg p3 0 3
  · obtain ⟨⟨n, -, hn, rfl⟩, ⟨m, -, hm, rfl⟩⟩ := hw
    refine c_wave1 h rfl rfl hn hm ?_
    by_cases ht : rg p2 0 (cH (xC X) + 1)
    · obtain ⟨t, -, ht, rfl⟩ := ht
      refine c_time1 h rfl ht ⟨fun _ => s_bitOf rfl (by omega) ?_, fun e => absurd e (by decide)⟩
      unfold W_X9_value
      refine m_noNet1 h.out rfl hn ⟨fun e => absurd rfl e, fun _ => ?_⟩
      refine s_in (a := 0) (c := cH (xC X) + 1) rfl rfl (by rw [h.thr.mc.2.2.1]; congr 1; exact (nI_pred _).symm) (by omega) (by omega) (by omega) (fun _ => ⟨fun e => absurd e (by decide), fun _ => ?_⟩) (fun e => absurd (rgi (Nat.zero_le _) ht) e)
      refine s_in (a := 0) (c := 3) rfl rfl rfl (by omega) (by omega) (by omega) (fun _ => ⟨fun e => absurd e (by decide), fun _ => ?_⟩) (fun e => absurd (rgi (Nat.zero_le _) hm) e)
      refine s_fails1 ⟨fun _ => ?_, fun e => absurd rfl e⟩
      refine m_waves h.out.thr (fun M hM e hW => ?_)
      refine s_waveOf h.C hW rfl rfl hn hm (s_bit rfl (by omega) (fin _ _ _ _ (fin0 hM up2_s (by rw [e, up2_s]))))
    · refine c_time0 h ht ⟨fun e => absurd rfl e, fun _ => ⟨rfl, ?_⟩⟩
      unfold W_X9_value
      refine m_noNet1 h rfl hn ⟨fun e => absurd rfl e, fun _ => ?_⟩
      refine s_in (a := 0) (c := cH (xC X) + 1) rfl rfl (by rw [h.thr.mc.2.2.1]; congr 1; exact (nI_pred _).symm) (by omega) (by omega) (by omega) (fun e => absurd e ht) (fun _ => ⟨fun _ => ?_, fun e => absurd rfl e⟩)
      show B_X9_value_40 (nI n) p2 (nI m) 0 (up2 I 436 0 0) L (fun r J M => P 1 r J M)
      refine s_fails0 ⟨fun e => absurd e (by decide), fun _ => ?_⟩
      rw [up2_u]
      exact fin _ _ _ _ (fin1 h.thr up2_s (by decide))
  · refine c_wave0 h hw ⟨rfl, ?_⟩
    unfold W_X9_value
    by_cases hn : rg p1 0 (cI (xC X) + cG (xC X))
    · have hm : ¬ rg p3 0 3 := fun q => hw ⟨hn, q⟩
      obtain ⟨n, -, hn, rfl⟩ := hn
      refine m_noNet1 h rfl hn ⟨fun e => absurd rfl e, fun _ => ?_⟩
      have last : B_X9_value_40 (nI n) p2 p3 0 (up2 I 436 0 0) L (fun r J M => P 1 r J M) := by
        refine s_fails0 ⟨fun e => absurd e (by decide), fun _ => ?_⟩
        rw [up2_u]
        exact fin _ _ _ _ (fin1 h.thr up2_s (by decide))
      refine s_in (a := 0) (c := cH (xC X) + 1) rfl rfl (by rw [h.thr.mc.2.2.1]; congr 1; exact (nI_pred _).symm) (by omega) (by omega) (by omega) (fun _ => ⟨fun e => absurd e (by decide), fun _ => ?_⟩) (fun _ => ⟨fun _ => last, fun e => absurd rfl e⟩)
      exact s_in (a := 0) (c := 3) rfl rfl rfl (by omega) (by omega) (by omega) (fun e => absurd e hm) (fun _ => ⟨fun _ => last, fun e => absurd rfl e⟩)
    · refine m_noNet0 h hn ⟨fun _ => fin _ _ _ _ (fin1 h.thr up2_s (by decide)), fun e => absurd e (by decide)⟩
theorem op_wave {p1 p2 : Int32} {P : Int32 → Int64 → TI → TL → Prop} (h : INV I L b d X B) (fin : ∀ k r J M, OKL k r J M b d X B → P k r J M) : W_L_wave p1 p2 I L b d (fun k L1 => W_X9_wave p1 p2 I L1 (fun r J M => P k r J M)) := by
  unfold W_L_wave W_X8_wave
  by_cases hw : rg p1 0 (cI (xC X) + cG (xC X)) ∧ rg p2 0 3
  · obtain ⟨⟨n, -, hn, rfl⟩, ⟨m, -, hm, rfl⟩⟩ := hw
    refine c_wave1 h rfl rfl hn hm ?_
    unfold W_X9_wave
    refine m_noWave1 h.out rfl rfl hn hm (fun M hM e hW => ⟨fun _ => ?_, fun e => absurd rfl e⟩)
    exact s_waveOf h.C hW rfl rfl hn hm (fin _ _ _ _ (fin0 hM up2_s (by rw [e, up2_s])))
  · refine c_wave0 h hw ⟨rfl, ?_⟩
    unfold W_X9_wave
    exact m_noWave0 h hw ⟨fun e => absurd e (by decide), fun _ => fin _ _ _ _ (fin1 h.thr up2_s (by decide))⟩
theorem op_changes {p1 p2 : Int32} {P : Int32 → Int32 → TI → TL → Prop} (h : INV I L b d X B) (fin : ∀ k r J M, OKL k r.toInt64 J M b d X B → P k r J M) : W_L_changes p1 p2 I L b d (fun k L1 => W_X9_changes p1 p2 I L1 (fun r J M => P k r J M)) := by
  have nb := h.nb
  unfold W_L_changes W_X8_changes
  by_cases hw : rg p1 0 (cI (xC X) + cG (xC X)) ∧ rg p2 0 3
  · obtain ⟨⟨n, -, hn, rfl⟩, ⟨m, -, hm, rfl⟩⟩ := hw
    refine c_wave1 h rfl rfl hn hm (s_changesC h.bc.1.2.2.1 (by omega) (by omega) ?_)
    unfold W_X9_changes
    refine m_noWave1 h.out rfl rfl hn hm (fun M hM e hW => ⟨fun _ => ?_, fun e => absurd rfl e⟩)
    refine s_waveOf h.C hW rfl rfl hn hm (s_changes9 hM.mc.2.2.1 (by omega) (fin _ _ _ _ (fin0 hM up2_s (by rw [e, up2_s]))))
  · refine c_wave0 h hw ⟨rfl, ?_⟩
    unfold W_X9_changes
    exact m_noWave0 h hw ⟨fun e => absurd e (by decide), fun _ => fin _ _ _ _ (fin1 h.thr up2_s (by decide))⟩
theorem op_quietFrom {p1 p2 : Int32} {P : Int32 → Int32 → TI → TL → Prop} (h : INV I L b d X B) (fin : ∀ k r J M, OKL k r.toInt64 J M b d X B → P k r J M) : W_L_quietFrom p1 p2 I L b d (fun k L1 => W_X9_quietFrom p1 p2 I L1 (fun r J M => P k r J M)) := by
  have nb := h.nb
  unfold W_L_quietFrom W_X8_quietFrom
  by_cases hw : rg p1 0 (cI (xC X) + cG (xC X)) ∧ rg p2 0 3
  · obtain ⟨⟨n, -, hn, rfl⟩, ⟨m, -, hm, rfl⟩⟩ := hw
    refine c_wave1 h rfl rfl hn hm (s_quietC h.bc.1.2.2.1 (by omega) ?_)
    unfold W_X9_quietFrom
    refine m_noWave1 h.out rfl rfl hn hm (fun M hM e hW => ⟨fun _ => ?_, fun e => absurd rfl e⟩)
    exact s_quiet9 hM.mc h.C hW rfl rfl hM.mc.2.2.1 hn hm (fin _ _ _ _ (fin0 hM up2_s (by rw [e, up2_s])))
  · refine c_wave0 h hw ⟨rfl, ?_⟩
    unfold W_X9_quietFrom
    exact m_noWave0 h hw ⟨fun e => absurd e (by decide), fun _ => fin _ _ _ _ (fin1 h.thr up2_s (by decide))⟩
theorem op_shortest {p1 p2 : Int32} {P : Int32 → Int32 → TI → TL → Prop} (h : INV I L b d X B) (fin : ∀ k r J M, OKL k r.toInt64 J M b d X B → P k r J M) : W_L_shortest p1 p2 I L b d (fun k L1 => W_X9_shortest p1 p2 I L1 (fun r J M => P k r J M)) := by
  have nb := h.nb
  unfold W_L_shortest W_X8_shortest
  by_cases hw : rg p1 0 (cI (xC X) + cG (xC X)) ∧ rg p2 0 3
  · obtain ⟨⟨n, -, hn, rfl⟩, ⟨m, -, hm, rfl⟩⟩ := hw
    refine c_wave1 h rfl rfl hn hm (s_shortC h.bc.1.2.2.1 (by omega) ?_)
    unfold W_X9_shortest
    refine m_noWave1 h.out rfl rfl hn hm (fun M hM e hW => ⟨fun _ => ?_, fun e => absurd rfl e⟩)
    exact s_waveOf h.C hW rfl rfl hn hm (s_short9 hM.mc.2.2.1 (by omega) (fin _ _ _ _ (fin0 hM up2_s (by rw [e, up2_s]))))
  · refine c_wave0 h hw ⟨rfl, ?_⟩
    unfold W_X9_shortest
    exact m_noWave0 h hw ⟨fun e => absurd e (by decide), fun _ => fin _ _ _ _ (fin1 h.thr up2_s (by decide))⟩
def wrF (C : CQ) (r : RW) (n : Nat) : Int64 := shF C r n ^^^ deF C r n
theorem c_wrongTimes {Q : Int64 → Prop} {x : Int32} {n : Nat} (h : INV I L b d X B) (hx : x = nI n) (hn : n < cI (xC X) + cG (xC X)) (k : Q (wrF (xC X) (xr X) n)) : W_X0_wrongTimes b x I L Q := by
  have nb := h.nb
  subst hx
  obtain ⟨a, -, c, -⟩ := h.bc.2.2 n hn
  have vn : vp_in (nI n) 16 := pk_in n 16 (by omega) rfl
  unfold W_X0_wrongTimes
  rw [pk_cl n rfl (by omega), a, c]
  exact ⟨vn, vn, k⟩
theorem op_wrong {p1 : Int32} {P : Int32 → Int32 → TI → TL → Prop} (h : INV I L b d X B) (fin : ∀ k r J M, OKL k r.toInt64 J M b d X B → P k r J M) : W_L_wrong p1 I L b d (fun k L1 => W_X9_wrong p1 I L1 (fun r J M => P k r J M)) := by
  have nb := h.nb
  unfold W_L_wrong W_X8_wrong
  by_cases hn : rg p1 0 (cI (xC X) + cG (xC X))
  · obtain ⟨n, -, hn, rfl⟩ := hn
    refine c_net1 h rfl hn (c_wrongTimes h rfl hn (s_bcL ?_))
    unfold W_X9_wrong
    refine m_noNet1 h.out rfl hn ⟨fun _ => m_waves h.out.thr (fun M hM e hW => ?_), fun e => absurd rfl e⟩
    have vn : vp_in (nI n) 16 := pk_in n 16 (by omega) rfl
    obtain ⟨a, -, c⟩ := WEq.is hW h.C hn
    rw [pk_cl n rfl (by omega), a, c]
    exact ⟨vn, vn, s_ones (fin _ _ _ _ (fin0 hM up2_s (by rw [e, up2_s]; rfl)))⟩
  · refine c_net0 h hn ⟨rfl, ?_⟩
    unfold W_X9_wrong
    exact m_noNet0 h hn ⟨fun e => absurd e (by decide), fun _ => fin _ _ _ _ (fin1 h.thr up2_s (by decide))⟩
theorem op_firstWrong {p1 : Int32} {P : Int32 → Int32 → TI → TL → Prop} (h : INV I L b d X B) (fin : ∀ k r J M, OKL k r.toInt64 J M b d X B → P k r J M) : W_L_firstWrong p1 I L b d (fun k L1 => W_X9_firstWrong p1 I L1 (fun r J M => P k r J M)) := by
  have nb := h.nb
  unfold W_L_firstWrong W_X8_firstWrong
  by_cases hn : rg p1 0 (cI (xC X) + cG (xC X))
  · obtain ⟨n, -, hn, rfl⟩ := hn
    obtain ⟨iS, -, iD⟩ := WF_inH h.C h.r hn
    have iW : inH (cH (xC X)) (wrF (xC X) (xr X) n) := inH_xor iS iD
    have vn : vp_in (nI n) 16 := pk_in n 16 (by omega) rfl
    -- the reference's loop finds f, or nothing
    have loop : ∀ (M : TL), INV (up2 I 436 0 0) M b d X B → WEq (xC X) (xr X) (M 444) (M 445) (M 446) → ∀ Q : Int32 → TI → TL → Prop, (∀ v, (v = -1 ∧ wrF (xC X) (xr X) n = 0) ∨ (∃ f, f ≤ cH (xC X) ∧ v = nI f ∧ bw (wrF (xC X) (xr X) n) f = true ∧ ∀ i, i < f → bw (wrF (xC X) (xr X) n) i = false) → Q v (up2 I 436 0 0) M) → ∃ z, L_X9_firstWrong_16 (nI n) (up2 I 436 0 0) M Q z 0 := by
      intro M hM hW Q k
      obtain ⟨a, -, c⟩ := WEq.is hW h.C hn
      refine lp1 (fun z v => L_X9_firstWrong_16 (nI n) (up2 I 436 0 0) M Q z v) (fun v => ∃ j, j ≤ cH (xC X) + 1 ∧ v = nI j ∧ ∀ i, i < j → bw (wrF (xC X) (xr X) n) i = false) (fun v => cH (xC X) + 1 - v.toNatClampNeg) ?_ _ ⟨0, Nat.zero_le _, rfl, fun i hi => absurd hi (Nat.not_lt_zero _)⟩
      rintro z v ⟨j, h1, rfl, h3⟩ ih
      refine pk_lt (cH (xC X)) j (fun hc => ?_) (fun hc => ?_) hM.mc.2.2.1 rfl (by omega) (by omega)
      · refine k _ (Or.inl ⟨rfl, ?_⟩)
        apply bw_ext
        intro t ht
        rw [bw_0]
        by_cases q : t < j
        · exact h3 t q
        · exact iW t (by omega) ht
      · rw [pk_cl n rfl (by omega), a, c]
        refine ⟨vn, vn, s_bit rfl (by omega) ⟨fun e => ?_, fun e => ?_⟩⟩
        · rw [bi_1, Bool.not_eq_true] at e
          refine ih _ ⟨j + 1, by omega, nI_1 j, fun i hi => ?_⟩ (by rw [nI_1, nI_clamp (by omega), nI_clamp (by omega)]; omega)
          by_cases q : i = j
          · rw [q]
            exact e
          · exact h3 i (by omega)
        · rw [bi_1] at e
          exact k _ (Or.inr ⟨j, hc, rfl, e, h3⟩)
    have run : ∀ (v0 : Int32), ((v0 = -1 ∧ wrF (xC X) (xr X) n = 0) ∨ (∃ f, f ≤ cH (xC X) ∧ v0 = nI f ∧ bw (wrF (xC X) (xr X) n) f = true ∧ ∀ i, i < f → bw (wrF (xC X) (xr X) n) i = false)) → W_X9_firstWrong (nI n) I (up2 L 456 0 v0.toInt64) (fun r J M => P 0 r J M) := by
      intro v0 h0
      unfold W_X9_firstWrong
      refine m_noNet1 h.out rfl hn ⟨fun _ => m_waves h.out.thr (fun M hM e hW => loop M hM hW _ (fun v hv => ?_)), fun e => absurd rfl e⟩
      have ev : v = v0 := by
        rcases hv with ⟨r1, r2⟩ | ⟨f, r1, r2, r3, r4⟩
        · rcases h0 with ⟨s1, s2⟩ | ⟨f, s1, s2, s3, s4⟩
          · rw [r1, s1]
          · rw [r2, bw_0] at s3
            cases s3
        · rcases h0 with ⟨s1, s2⟩ | ⟨f2, s1, s2, s3, s4⟩
          · rw [s2, bw_0] at r3
            cases r3
          · have : f = f2 := by
              rcases Nat.lt_trichotomy f f2 with q | q | q
              · rw [s4 f q] at r3
                cases r3
              · exact q
              · rw [r4 f2 q] at s3
                cases s3
            rw [r2, s2, this]
      rw [ev]
      exact fin _ _ _ _ (fin0 hM up2_s (by rw [e, up2_s]))
    refine c_net1 h rfl hn (c_wrongTimes h rfl hn ⟨fun e => ?_, fun e => run (-1) (Or.inl ⟨rfl, e⟩)⟩)
    obtain ⟨m, hm, em⟩ := bw_wb_of (wrF (xC X) (xr X) n)
    have hm0 : m ≠ 0 := by
      rintro rfl
      exact e em
    obtain ⟨f, f1, f2⟩ := low_bit hm0
    have hf : f < 64 := by
      rcases Nat.lt_or_ge f 64 with q | q
      · exact q
      · rw [Nat.testBit_lt_two_pow (Nat.lt_of_lt_of_le hm (Nat.pow_le_pow_right (by decide) q))] at f1
        cases f1
    have f3 : bw (wrF (xC X) (xr X) n) f = true := by rw [em, bw_lN _ hf]; exact f1
    have f4 : ∀ i, i < f → bw (wrF (xC X) (xr X) n) i = false := fun i hi => by rw [em, bw_lN _ (by omega)]; exact f2 i hi
    have f5 : f ≤ cH (xC X) := by
      rcases Nat.lt_or_ge (cH (xC X)) f with q | q
      · rw [iW f q hf] at f3
        cases f3
      · exact q
    exact s_ntL hf f3 f4 (run _ (Or.inr ⟨f, f5, rfl, f3, f4⟩))
  · refine c_net0 h hn ⟨rfl, ?_⟩
    unfold W_X9_firstWrong
    exact m_noNet0 h hn ⟨fun e => absurd e (by decide), fun _ => fin _ _ _ _ (fin1 h.thr up2_s (by decide))⟩
end OPS
