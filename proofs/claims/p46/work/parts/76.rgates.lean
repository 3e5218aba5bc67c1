/-! the class reads: gates, purses, the whole text -/
section RGATES
variable {I J : TI} {L M : TL} {d : Nat}
theorem er_adv {c : Nat → Nat} {ln : Nat} {S : PS} : er (advF c ln S) = er S := by
  unfold advF
  split <;> rfl
theorem er_fail {code : Nat} {S : PS} (h : er S ≠ 0) : failF code S = S := by
  unfold failF
  rw [if_neg h]
theorem er_takeN {c : Nat → Nat} {ln lo hi : Nat} {S : PS} (h : er (takeN c ln lo hi S) = 0) : er S = 0 := by
  unfold takeN at h
  rw [er_adv] at h
  unfold peekF at h
  by_cases q : er S = 0
  · exact q
  · split at h
    · split at h
      · exact h
      · rw [er_fail q] at h; exact absurd h q
    · rw [er_fail q] at h; exact absurd h q
theorem er_takeS {c : Nat → Nat} {ln b : Nat} {S : PS} (h : er (takeS c ln b S) = 0) : er S = 0 := by
  unfold takeS at h
  by_cases q : er S = 0
  · exact q
  · split at h
    · rw [er_adv] at h; exact h
    · rw [er_adv, er_fail q] at h; exact absurd h q
/-- the words of the kinds -/
def kh (j : Nat) : Nat := match j with
  | 0 => 1111
  | 1 => 423
  | 2 => 17919
  | 3 => 276673
  | 4 => 10629
  | 5 => 10631
  | _ => 375062
theorem w_kind : ∀ j, j < 7 → wOK (4 + j) (kh j) := by unfold wOK; decide +kernel
def kdR (c : Nat → Nat) (S : PS) : Nat → Nat → Nat
  | 0, j => j
  | n + 1, j => if wdB c S (kh j) = true then j else kdR c S n (j + 1)
def kdF (c : Nat → Nat) (S : PS) : Nat := kdR c S 7 0
theorem kdR_le (c : Nat → Nat) (S : PS) : ∀ n j, kdR c S n j ≤ j + n
  | 0, j => Nat.le_refl _
  | n + 1, j => by
    have := kdR_le c S n (j + 1)
    show (if wdB c S (kh j) = true then j else kdR c S n (j + 1)) ≤ _
    split <;> omega
def kdS (c : Nat → Nat) (ln : Nat) (S : PS) : PS := if kdF c S = 7 then failF 1 S else advF c ln S
def kdV (c : Nat → Nat) (S : PS) : Nat := if kdF c S = 7 then 0 else kdF c S
theorem kdV_le {c : Nat → Nat} {S : PS} : kdV c S ≤ 6 := by
  have := kdR_le c S 7 0
  unfold kdV kdF
  split <;> omega
theorem PX.kdS {c : Nat → Nat} {ln : Nat} {S : PS} (v : PX c ln S) : PX c ln (kdS c ln S) := by
  unfold CGlitchCourtLaw_law_r2238_8e8914.kdS
  split
  · exact v.fail (by omega)
  · exact v.adv
theorem c_readKind {Q : Int32 → TI → Prop} {c : Nat → Nat} {ln : Nat} {S : PS} (hc : txV c ln) (h : TC I c ln S) (v : PX c ln S) (k : ∀ J, (∀ q, q ≠ 344 → J q = I q) → TC J c ln (kdS c ln S) → Q (nI (kdV c S)) J) : W_X1_readKind I L 350 Q := by
  unfold kdS kdV at k
  unfold W_X1_readKind
  refine lp1 (fun n m => L_X1_readKind_2 I L 350 Q n m) (fun m => ∃ j, m = nI j ∧ j ≤ 7 ∧ kdR c S (7 - j) j = kdF c S) (fun m => 8 - m.toNatClampNeg) ?_ _ ⟨0, rfl, Nat.zero_le _, rfl⟩
  rintro n m ⟨j, rfl, j1, je⟩ ih
  refine pk_le 7 j (fun q => ?_) (fun q => ?_) rfl rfl (by omega) (by omega)
  · have : j = 7 := by omega
    subst this
    have e : kdF c S = 7 := je.symm
    refine c_fail (code := 1) h v.1 rfl (fun J a b => ?_)
    have := k J a (by rw [if_pos e]; exact b)
    rw [if_pos e] at this
    exact this
  · obtain ⟨m2, hm2⟩ : ∃ m2, 7 - j = m2 + 1 := ⟨6 - j, by omega⟩
    rw [hm2] at je
    unfold kdR at je
    have go : ∀ x, x = 458 + (4 + j) → W_X7_isWord x I L 350 (fun (r635 : Int32) => (r635 = 0 → L_X1_readKind_2 I L 350 Q n (nI j + 1)) ∧ (¬ r635 = 0 → W_X7_advance I L 350 (fun (I636 : TI) => Q (nI j) I636))) := by
      intro x hx
      refine c_isWord (w_kind j q) hx hc h v (fun e => ⟨fun z => absurd z (by decide), fun _ => ?_⟩) (fun e => ⟨fun _ => ?_, fun z => absurd rfl z⟩)
      · rw [if_pos e] at je
        have e7 : kdF c S ≠ 7 := by omega
        refine c_adv hc h v.1 (fun J a b => ?_)
        have := k J a (by rw [if_neg e7]; exact b)
        rw [if_neg e7, ← je] at this
        exact this
      · rw [if_neg (by rw [e]; decide)] at je
        refine ih _ ⟨j + 1, nI_1 j, by omega, ?_⟩ (by rw [nI_1, nI_clamp (by omega), nI_clamp (by omega)]; omega)
        rw [show 7 - (j + 1) = m2 by omega]
        exact je
    have z : ∀ m, m < 7 → nI j = nI m → j = m := fun m hm e => (nI_eq (by omega) (by omega)).mp e
    unfold W_X8_kindWord
    refine ⟨fun e => go _ ?_, fun e => go _ ?_, fun e => go _ ?_, fun e => go _ ?_, fun e => go _ ?_, fun e => go _ ?_, fun e => go _ ?_⟩
    · rw [z 0 (by omega) e]
    · rw [z 1 (by omega) e]
    · rw [z 2 (by omega) e]
    · rw [z 3 (by omega) e]
    · rw [z 4 (by omega) e]
    · rw [z 5 (by omega) e]
    · have : j = 6 := by
        rcases e with e | e
        · exact absurd e (nI_pos (by omega))
        · have := (nI_ltI (a := 5) (by omega) (by omega)).mp e
          omega
      rw [this]
/-- one gate -/
def qA (c : Nat → Nat) (ln n : Nat) (S : PS) : PS := takeN c ln 0 (n - 1) (kdS c ln S)
def qB (c : Nat → Nat) (ln n : Nat) (S : PS) : PS := if 5 ≤ kdV c S then qA c ln n S else takeN c ln 0 (n - 1) (qA c ln n S)
def qT (c : Nat → Nat) (ln n : Nat) (S : PS) : Nat := if 5 ≤ kdV c S then 16 else peekV c 0 (n - 1) (qA c ln n S)
def qC (c : Nat → Nat) (ln n : Nat) (S : PS) : PS := takeN c ln 1 9 (qB c ln n S)
def qD (c : Nat → Nat) (ln n : Nat) (S : PS) : PS := takeN c ln 1 9 (qC c ln n S)
def qE (c : Nat → Nat) (ln n : Nat) (S : PS) : PS := takeN c ln 1 9 (qD c ln n S)
def qF (c : Nat → Nat) (ln n : Nat) (S : PS) : PS := takeS c ln 59 (qE c ln n S)
def qZ (c : Nat → Nat) (ln : Nat) (S : PS) (Z : ZT) : ZT := adG Z (kdV c S) (peekV c 0 (cI Z.1 + cG Z.1 - 1) (kdS c ln S)) (qT c ln (cI Z.1 + cG Z.1) S) (peekV c 1 9 (qB c ln (cI Z.1 + cG Z.1) S)) (peekV c 1 9 (qC c ln (cI Z.1 + cG Z.1) S)) (peekV c 1 9 (qD c ln (cI Z.1 + cG Z.1) S))
def rdGS (c : Nat → Nat) (ln : Nat) (S : PS) (Z : ZT) : PS := qF c ln (cI Z.1 + cG Z.1) S
def rdGZ (c : Nat → Nat) (ln : Nat) (S : PS) (Z : ZT) : ZT := if er (rdGS c ln S Z) = 0 then qZ c ln S Z else Z
theorem PX.qB {c : Nat → Nat} {ln n : Nat} {S : PS} (v : PX c ln S) : PX c ln (qB c ln n S) := by
  unfold CGlitchCourtLaw_law_r2238_8e8914.qB
  split
  · exact v.kdS.takeN
  · exact v.kdS.takeN.takeN
theorem PX.qF {c : Nat → Nat} {ln n : Nat} {S : PS} (v : PX c ln S) : PX c ln (qF c ln n S) := v.qB.takeN.takeN.takeN.takeS
theorem c_readGate {Q : TI → Prop} {c : Nat → Nat} {ln : Nat} {S : PS} {Z : ZT} (hd : 351 < d) (hc : txV c ln) (h : TC I c ln S) (v : PX c ln S) (hK : KC I L d Z) (hI : 1 ≤ cI Z.1 ∧ cI Z.1 ≤ 4) (hG : cG Z.1 < 12) (k : ∀ J, dO d I J → TC J c ln (rdGS c ln S Z) → KC J L d (rdGZ c ln S Z) → Q J) : W_X1_readGate d I L 350 Q := by
  obtain ⟨n, hn⟩ : ∃ n, n = cI Z.1 + cG Z.1 := ⟨_, rfl⟩
  have en : nI n - 1 = nI (n - 1) := by rw [show (1 : Int32) = nI 1 from rfl, pk_sub (by omega)]
  have kv := kdV_le (c := c) (S := S)
  have vn : vp_in (nI n) 16 := pk_in _ 16 (by omega) rfl
  have er1 : rdGS c ln S Z = qF c ln n S := by unfold rdGS; rw [← hn]
  have er2 : er (qF c ln n S) = 0 → rdGZ c ln S Z = qZ c ln S Z := fun e => by
    unfold rdGZ
    rw [er1, if_pos e]
  have er3 : er (qF c ln n S) ≠ 0 → rdGZ c ln S Z = Z := fun e => by
    unfold rdGZ
    rw [er1, if_neg e]
  unfold W_X1_readGate
  refine s_nets2 hK.1 ?_
  rw [← hn]
  refine c_readKind hc h v (fun J1 a1 b1 => ?_)
  rw [en]
  refine c_takeNumber (lo := 0) (hi := n - 1) rfl rfl (by omega) (by omega) hc b1 v.kdS (fun J2 a2 b2 => ?_)
  have vA : PX c ln (qA c ln n S) := v.kdS.takeN
  have po := peekV_b (c := c) (lo := 0) (hi := n - 1) (S := kdS c ln S) (by omega)
  -- the delays
  have rest : ∀ (J : TI) (t : Nat), t = qT c ln n S → (t = 16 ∨ t < n) → (∀ q, q ≠ 344 → J q = I q) → TC J c ln (qB c ln n S) → B_X1_readGate_40 d (nI n) (nI (kdV c S)) (nI (peekV c 0 (n - 1) (kdS c ln S))) (tx t) J L 350 Q := by
    intro J t ht ht2 aJ bJ
    unfold B_X1_readGate_40
    -- the state before delay m, and the delays
    refine lp2 (fun z m i => L_X1_readGate_45 d (nI n) (nI (kdV c S)) (nI (peekV c 0 (n - 1) (kdS c ln S))) (tx t) L 350 Q z m i) (fun m i => ∃ j, m = nI j ∧ j ≤ 3 ∧ dO d I i ∧ KC i L d Z ∧ TC i c ln (match j with | 0 => qB c ln n S | 1 => qC c ln n S | 2 => qD c ln n S | _ => qE c ln n S) ∧ (1 ≤ j → er (qC c ln n S) = 0 → i (d + 8) n = nI (peekV c 1 9 (qB c ln n S))) ∧ (2 ≤ j → er (qD c ln n S) = 0 → i (d + 9) n = nI (peekV c 1 9 (qC c ln n S))) ∧ (3 ≤ j → er (qE c ln n S) = 0 → i (d + 10) n = nI (peekV c 1 9 (qD c ln n S)))) (fun m _ => 4 - m.toNatClampNeg) ?_ _ _ ⟨0, rfl, by omega, dO.tk aJ, hK.fr (fun q y1 y2 => aJ q (by omega)) (fun _ _ _ => rfl), bJ, fun z => by omega, fun z => by omega, fun z => by omega⟩
    rintro z m i ⟨j, rfl, j1, oi, ki, ti, q0, q1, q2⟩ ih
    refine pk_le 3 j (fun q => ?_) (fun q => ?_) rfl rfl (by omega) (by omega)
    · have : j = 3 := by omega
      subst this
      have vE : PX c ln (qE c ln n S) := v.qB.takeN.takeN.takeN
      refine c_takeSign (b := 59) (S := qE c ln n S) rfl (by omega) hc ti vE (fun J3 a3 b3 => ?_)
      replace b3 : TC J3 c ln (qF c ln n S) := b3
      have vF : PX c ln (qF c ln n S) := v.qF
      have k3 : KC J3 L d Z := ki.fr (fun q y1 y2 => a3 q (by omega)) (fun _ _ _ => rfl)
      refine c_failed b3 vF.1 (fun e0 => ⟨fun y => absurd rfl y, fun _ => ?_⟩) (fun e0 => ⟨fun _ => ?_, fun y => absurd y (by decide)⟩)
      · have eE := er_takeS e0
        have eD := er_takeN eE
        have eC := er_takeN eD
        have p0 := peekV_b (c := c) (lo := 1) (hi := 9) (S := qB c ln n S) (by omega)
        have p1 := peekV_b (c := c) (lo := 1) (hi := 9) (S := qC c ln n S) (by omega)
        have p2 := peekV_b (c := c) (lo := 1) (hi := 9) (S := qD c ln n S) (by omega)
        refine c_addGate (d0 := peekV c 1 9 (qB c ln n S)) (d1 := peekV c 1 9 (qC c ln n S)) (d2 := peekV c 1 9 (qD c ln n S)) k3 hI.2 hG rfl rfl rfl (by omega) (by omega) (by rw [a3 _ (by omega), ← hn]; exact q0 (by omega) eC) (by rw [a3 _ (by omega), ← hn]; exact q1 (by omega) eD) (by rw [a3 _ (by omega), ← hn]; exact q2 (by omega) eE) ⟨by omega, by omega, by omega⟩ (fun J4 a4 b4 => ?_)
        refine k J4 ((oi.tr (dO.tk a3)).tr (fun q y1 y2 => a4 q (by omega))) ?_ ?_
        · rw [er1]
          exact b3.fr (a4 344 (by omega)) (a4 350 (by omega))
        · rw [er2 e0]
          unfold qZ
          rw [← hn, ← ht]
          exact b4
      · refine k J3 (oi.tr (dO.tk a3)) ?_ ?_
        · rw [er1]
          exact b3
        · rw [er3 e0]
          exact k3
    · -- one delay
      have step : ∀ S2, PX c ln S2 → TC i c ln S2 → (∀ i2, dO d I i2 → KC i2 L d Z → TC i2 c ln (takeN c ln 1 9 S2) → (er (takeN c ln 1 9 S2) = 0 → i2 (d + 8 + j) n = nI (peekV c 1 9 S2)) → (∀ q, q ≠ 344 → q ≠ d + 8 + j → i2 q = i q) → L_X1_readGate_45 d (nI n) (nI (kdV c S)) (nI (peekV c 0 (n - 1) (kdS c ln S))) (tx t) L 350 Q z (nI j + 1) i2) → W_X7_takeNumber (1 : Int32) (9 : Int32) i L 350 (fun (r701 : Int32) (I702 : TI) => W_X7_failed I702 L (fun (r703 : Int32) => (¬ r703 = 0 → B_X1_readGate_81 d (nI n) (nI (kdV c S)) (nI (peekV c 0 (n - 1) (kdS c ln S))) (tx t) (nI j) I702 L 350 Q (fun v6 I => L_X1_readGate_45 d (nI n) (nI (kdV c S)) (nI (peekV c 0 (n - 1) (kdS c ln S))) (tx t) L 350 Q z v6 I)) ∧ (r703 = 0 → vp_in (nI j) 3 ∧ (vp_in (nI n) 16 ∧ (∀ I706 : TI, I706 = (up2 I702 ((d + 8) + (nI j).toNatClampNeg) ((nI n).toNatClampNeg) r701) → (B_X1_readGate_81 d (nI n) (nI (kdV c S)) (nI (peekV c 0 (n - 1) (kdS c ln S))) (tx t) (nI j) I706 L 350 Q (fun v6 I => L_X1_readGate_45 d (nI n) (nI (kdV c S)) (nI (peekV c 0 (n - 1) (kdS c ln S))) (tx t) L 350 Q z v6 I))))))) := by
        intro S2 vS tS nx
        refine c_takeNumber (lo := 1) (hi := 9) rfl rfl (by omega) (by omega) hc tS vS (fun J3 a3 b3 => ?_)
        have k3 : KC J3 L d Z := ki.fr (fun q y1 y2 => a3 q (by omega)) (fun _ _ _ => rfl)
        rw [pk_cl j rfl (by omega), pk_cl n rfl (by omega)]
        refine c_failed b3 vS.takeN.1 (fun e0 => ⟨fun y => absurd rfl y, fun _ => ⟨pk_in j 3 (by omega) rfl, vn, ?_⟩⟩) (fun e0 => ⟨fun _ => ?_, fun y => absurd y (by decide)⟩)
        · rintro _ rfl
          refine nx _ ((oi.tr (dO.tk a3)).tr (dO.up (by omega) (by omega))) ?_ (b3.fr (up2_row (by omega)) (up2_row (by omega))) (fun _ => up2_s) (fun q y1 y2 => by rw [up2_row y2]; exact a3 q y1)
          -- a delay of the gate to come
          obtain ⟨c1, ⟨s1, s2, s3, s4, s5, s6⟩, c3, c4, c5, c6⟩ := k3
          refine ⟨c1.fr (fun q a b => up2_row (by omega)), ⟨by rw [up2_row (by omega)]; exact s1, fun p hp => by rw [up2_row (by omega)]; exact s2 p hp, by rw [up2_row (by omega)]; exact s3, s4, fun g hg => ?_, fun k2 hk2 => ?_⟩, fun n2 a b => by rw [up2_row (by omega)]; exact c3 n2 a b, c4, c5, c6⟩
          · obtain ⟨g1, g2, g3, g4⟩ := s5 g hg
            refine ⟨g1, g2, g3, fun w hw => ?_⟩
            rw [up2_n (Or.inr (by omega))]
            exact g4 w hw
          · rw [c6] at hk2
            exact absurd hk2 (Nat.not_lt_zero _)
        · exact nx J3 (oi.tr (dO.tk a3)) k3 b3 (fun y => absurd y e0) (fun q y1 _ => a3 q y1)
      have j3 : j = 0 ∨ j = 1 ∨ j = 2 := by omega
      rcases j3 with rfl | rfl | rfl
      · refine step _ v.qB ti (fun i2 o2 k2 t2 e2 f2 => ih _ _ ⟨1, rfl, by omega, o2, k2, t2, fun _ e => e2 e, fun y => by omega, fun y => by omega⟩ (by decide))
      · refine step _ v.qB.takeN ti (fun i2 o2 k2 t2 e2 f2 => ih _ _ ⟨2, rfl, by omega, o2, k2, t2, fun _ e => by rw [f2 _ (by omega) (by omega)]; exact q0 (by omega) e, fun _ e => e2 e, fun y => by omega⟩ (by decide))
      · refine step _ v.qB.takeN.takeN ti (fun i2 o2 k2 t2 e2 f2 => ih _ _ ⟨3, rfl, by omega, o2, k2, t2, fun _ e => by rw [f2 _ (by omega) (by omega)]; exact q0 (by omega) e, fun _ e => by rw [f2 _ (by omega) (by omega)]; exact q1 (by omega) e, fun _ e => e2 e⟩ (by decide))
  have a12 : ∀ q, q ≠ 344 → J2 q = I q := fun q hq => by rw [a2 q hq, a1 q hq]
  refine pk_le 5 (kdV c S) (fun q => ?_) (fun q => ?_) rfl rfl (by omega) (by omega)
  · have := rest J2 16 (by unfold qT; rw [if_pos q]) (Or.inl rfl) a12 (by unfold qB; rw [if_pos q]; exact b2)
    rw [tx_16] at this
    exact this
  · refine c_takeNumber (lo := 0) (hi := n - 1) rfl rfl (by omega) (by omega) hc b2 vA (fun J3 a3 b3 => ?_)
    have pt := peekV_b (c := c) (lo := 0) (hi := n - 1) (S := qA c ln n S) (by omega)
    have := rest J3 (peekV c 0 (n - 1) (qA c ln n S)) (by unfold qT; rw [if_neg (by omega)]) (Or.inr (by omega)) (fun q hq => by rw [a3 q hq, a12 q hq]) (by unfold qB; rw [if_neg (by omega)]; exact b3)
    rw [tx_n (by omega)] at this
    exact this
end RGATES
