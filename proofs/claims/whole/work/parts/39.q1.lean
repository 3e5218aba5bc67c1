/-! changes, quietFrom, shortest of a wave: both classes -/
def chP (H : Nat) (w : Int64) (t : Nat) : Bool := decide (t < H) && (bw w t ^^ bw w (t + 1))
def chN (H : Nat) (w : Int64) : Nat := fb_ct (chP H w) 64
theorem s_changesC {I : TI} {L : TL} {Q : Int32 → Prop} {H : Nat} {x : Int32} {w : Int64} (hx : x = nI H) (h1 : 1 ≤ H) (h2 : H ≤ 60) (k : Q (nI (chN H w))) : W_X8_changesOf w x I L Q := by
  subst hx
  unfold W_X8_changesOf
  refine s_window (a := 0) (b := H - 1) rfl (by rw [show (1 : Int32) = nI 1 from rfl, pk_sub h1]) (by omega) (by omega) (s_bcL ?_)
  have e : pc ((w ^^^ ushL w 1) &&& win 0 (H - 1)) = chN H w := by
    refine fb_ct_cong (fun t ht => ?_)
    rw [bw_and, bw_xor, show (1 : Int32) = nI 1 from rfl, bw_ush w t (by omega), bw_win (by omega) ht, Bool.and_comm, Nat.add_comm 1 t]
    unfold chP
    congr 1
    exact decide_eq_decide.mpr (by omega)
  rw [e]
  exact k
theorem s_changes9 {I : TI} {L : TL} {Q : Int32 → Prop} {H : Nat} {w : Int64} (hH : I 436 7 = nI H) (h2 : H ≤ 60) (k : Q (nI (chN H w))) : W_X9_changesOf w I L Q := by
  unfold W_X9_changesOf
  refine lp2 (fun n u v => L_X9_changesOf_5 w I L Q n u v) (fun u v => ∃ j, j ≤ H ∧ v = nI (j + 1) ∧ u = nI (fb_ct (chP H w) j)) (fun _ v => H + 2 - v.toNatClampNeg) ?_ _ _ ⟨0, Nat.zero_le _, rfl, rfl⟩
  rintro n u v ⟨j, h1, rfl, rfl⟩ ih
  refine pk_lt H (j + 1) (fun hc => ?_) (fun hc => ?_) hH rfl (by omega) (by omega)
  · have e : j = H := by omega
    subst e
    have e : chN j w = fb_ct (chP j w) j := by
      have := fb_ct_split (chP j w) j (64 - j)
      rw [show j + (64 - j) = 64 by omega] at this
      unfold chN
      rw [this, show fb_ct (fun k => chP j w (j + k)) (64 - j) = 0 from fb_ct_zero.mpr (fun i _ => by show (decide (j + i < j) && _) = false; rw [decide_eq_false (by omega), Bool.false_and]), Nat.add_zero]
    rw [e] at k
    exact k
  · have hs : fb_ct (chP H w) (j + 1) = fb_ct (chP H w) j + (if chP H w j = true then 1 else 0) := rfl
    have hp : chP H w j = (bw w j ^^ bw w (j + 1)) := by
      unfold chP
      rw [decide_eq_true (by omega : j < H), Bool.true_and]
    have fin : ∀ z : Int32, nI (fb_ct (chP H w) j) + z = nI (fb_ct (chP H w) (j + 1)) → B_X9_changesOf_37 w (nI (j + 1)) (nI (fb_ct (chP H w) j)) z I L Q (fun v3 v4 => L_X9_changesOf_5 w I L Q n v3 v4) := by
      intro z hz
      exact ih _ _ ⟨j + 1, by omega, nI_1 _, hz⟩ (by rw [nI_1, nI_clamp (by omega), nI_clamp (by omega)]; omega)
    refine s_bit rfl (by omega) (s_bit (t := j) (nI_pred j) (by omega) ⟨fun e => fin _ ?_, fun e => fin _ ?_⟩)
    · rw [bi_inj] at e
      have : chP H w j = true := by
        rw [hp]
        revert e
        cases bw w j <;> cases bw w (j + 1) <;> decide
      rw [hs, this, if_pos rfl, nI_1]
    · rw [bi_inj] at e
      have : chP H w j = false := by
        rw [hp, e]
        cases bw w j <;> rfl
      rw [hs, this, if_neg (by decide)]
      exact nI_add _ 0
def qfN (w : Int64) : Nat → Nat
  | 0 => 0
  | t + 1 => if bw w t = bw w (t + 1) then qfN w t else t + 1
theorem qfN_le (w : Int64) : ∀ t, qfN w t ≤ t
  | 0 => Nat.le_refl _
  | t + 1 => by
    have := qfN_le w t
    unfold qfN
    split <;> omega
theorem s_quietC {I : TI} {L : TL} {b d : Nat} {Q : Int32 → Prop} {QX : String → Prop} {H : Nat} {x : Int32} {w : Int64} (hx : x = nI H) (h2 : H ≤ 60) (k : Q (nI (qfN w H))) : ∃ n, L_X8_quietFrom_19 w I L b d Q QX n x := by
  subst hx
  refine lp1 (fun n v => L_X8_quietFrom_19 w I L b d Q QX n v) (fun v => ∃ j, j ≤ H ∧ v = nI j ∧ qfN w j = qfN w H) (fun v => v.toNatClampNeg) ?_ _ ⟨H, Nat.le_refl _, rfl, rfl⟩
  rintro n v ⟨j, h1, rfl, h3⟩ ih
  refine pk_le j 0 (fun hc => ?_) (fun hc => ?_) rfl rfl (by omega) (by omega)
  · have : j = 0 := by omega
    subst this
    rw [← h3] at k
    exact k
  · obtain ⟨i, rfl⟩ : ∃ i, j = i + 1 := ⟨j - 1, by omega⟩
    refine s_bitOf (t := i) (nI_pred i) (by omega) (s_bitOf rfl (by omega) ⟨fun e => ?_, fun e => ?_⟩)
    · rw [bi_inj] at e
      have : qfN w (i + 1) = i + 1 := by
        show (if _ then _ else _) = _
        rw [if_neg e]
      rw [← h3, this] at k
      exact k
    · rw [bi_inj] at e
      refine ih _ ⟨i, by omega, pk_m1 i, ?_⟩ ?_
      · rw [← h3]
        show _ = if _ then _ else _
        rw [if_pos e]
      · rw [pk_m1, nI_clamp (by omega), nI_clamp (by omega)]
        omega
theorem s_quiet9 {I : TI} {L : TL} {Q : Int32 → TI → TL → Prop} {C : CQ} {r : RW} {m net : Nat} {x y z : Int32} (hM : MC I C) (hC : CV C) (hW : WEq C r (L 444) (L 445) (L 446)) (hx : x = nI net) (hy : y = nI m) (hz : z = nI (cH C)) (hn : net < cI C + cG C) (hm : m < 3) (k : Q (nI (qfN (wvF C r m net) (cH C))) I L) : ∃ n, L_X9_quietFrom_16 x y I L Q n z := by
  subst hz
  have h2 := hC.2.2.1
  generalize hw : wvF C r m net = w at k
  refine lp1 (fun n v => L_X9_quietFrom_16 x y I L Q n v) (fun v => ∃ j, j ≤ cH C ∧ v = nI j ∧ qfN w j = qfN w (cH C) ∧ bw w j = bw w (cH C)) (fun v => v.toNatClampNeg) ?_ _ ⟨cH C, Nat.le_refl _, rfl, rfl, rfl⟩
  rintro n v ⟨j, h1, rfl, h3, h4⟩ ih
  refine pk_le j 0 (fun hc => ?_) (fun hc => ?_) rfl rfl (by omega) (by omega)
  · have : j = 0 := by omega
    subst this
    rw [← h3] at k
    exact k
  · obtain ⟨i, rfl⟩ : ∃ i, j = i + 1 := ⟨j - 1, by omega⟩
    refine s_waveOf hC hW hx hy hn hm ?_
    rw [hw]
    refine s_bit (t := i) (nI_pred i) (by omega) ?_
    refine s_waveOf hC hW hx hy hn hm ?_
    rw [hw]
    refine s_bit (t := cH C) hM.2.2.1 (by omega) ⟨fun e => ?_, fun e => ?_⟩
    · rw [bi_inj, ← h4] at e
      have : qfN w (i + 1) = i + 1 := by
        show (if _ then _ else _) = _
        rw [if_neg e]
      rw [← h3, this] at k
      exact k
    · rw [bi_inj] at e
      refine ih _ ⟨i, by omega, pk_m1 i, ?_, e⟩ ?_
      · rw [← h3]
        show _ = if _ then _ else _
        rw [if_pos (by rw [e, h4])]
      · rw [pk_m1, nI_clamp (by omega), nI_clamp (by omega)]
        omega
/-- the end of the run that holds t -/
def isEnd (H : Nat) (w : Int64) (t e : Nat) : Prop := t ≤ e ∧ e ≤ H ∧ (∀ k, t ≤ k → k ≤ e → bw w k = bw w t) ∧ (e = H ∨ bw w (e + 1) ≠ bw w t)
theorem isEnd.one {H : Nat} {w : Int64} {t e f : Nat} (h : isEnd H w t e) (h2 : isEnd H w t f) : e = f := by
  obtain ⟨a, b, c, d⟩ := h
  obtain ⟨a2, b2, c2, d2⟩ := h2
  rcases Nat.lt_trichotomy e f with q | q | q
  · rcases d with d | d
    · omega
    · exact absurd (c2 (e + 1) (by omega) (by omega)) d
  · exact q
  · rcases d2 with d | d
    · omega
    · exact absurd (c (f + 1) (by omega) (by omega)) d
theorem s_endOf {I : TI} {L : TL} {Q : Int32 → Prop} {H t : Nat} {x : Int32} {w : Int64} (hH : I 436 7 = nI H) (h2 : H ≤ 60) (hx : x = nI t) (ht : t ≤ H) (k : ∀ e, isEnd H w t e → Q (nI e)) : W_X9_endOf w x I L Q := by
  subst hx
  unfold W_X9_endOf
  refine lp1 (fun n v => L_X9_endOf_3 w (nI t) I L Q n v) (fun v => ∃ j, t ≤ j ∧ j ≤ H ∧ v = nI j ∧ ∀ k, t ≤ k → k ≤ j → bw w k = bw w t) (fun v => H - v.toNatClampNeg) ?_ _ ⟨t, Nat.le_refl _, ht, rfl, fun k a b => by rw [show k = t by omega]⟩
  rintro n v ⟨j, h1, h3, rfl, h4⟩ ih
  refine pk_le H j (fun hc => ?_) (fun hc => ?_) hH rfl (by omega) (by omega)
  · exact k j ⟨h1, h3, h4, Or.inl (by omega)⟩
  · refine s_bit (t := j + 1) (nI_1 j) (by omega) (s_bit rfl (by omega) ⟨fun e => ?_, fun e => ?_⟩)
    · rw [bi_inj] at e
      exact k j ⟨h1, h3, h4, Or.inr e⟩
    · rw [bi_inj] at e
      refine ih _ ⟨j + 1, by omega, by omega, nI_1 j, fun i a b => ?_⟩ ?_
      · by_cases q : i = j + 1
        · rw [q, e]
        · exact h4 i a (by omega)
      · rw [nI_1, nI_clamp (by omega), nI_clamp (by omega)]
        omega
def rsN (w : Int64) : Nat → Nat
  | 0 => 0
  | t + 1 => if bw w (t + 1) = bw w t then rsN w t else t + 1
def lsN (w : Int64) : Nat → Nat
  | 0 => 0
  | t + 1 => if bw w (t + 1) = bw w t then lsN w t else if 0 < rsN w t ∧ (lsN w t = 0 ∨ t + 1 - rsN w t < lsN w t) then t + 1 - rsN w t else lsN w t
def lsI (n : Nat) : Int32 := if n = 0 then -1 else nI n
theorem rsN_le (w : Int64) : ∀ t, rsN w t ≤ t
  | 0 => Nat.le_refl _
  | t + 1 => by
    have := rsN_le w t
    unfold rsN
    split <;> omega
theorem lsN_le (w : Int64) : ∀ t, lsN w t ≤ t
  | 0 => Nat.le_refl _
  | t + 1 => by
    have := lsN_le w t
    unfold lsN
    split
    · omega
    · split <;> omega
theorem s_shortC {I : TI} {L : TL} {b d : Nat} {Q : Int32 → Prop} {QX : String → Prop} {H : Nat} {w : Int64} (hH : I (b + 1) 6 = nI H) (h2 : H ≤ 60) (k : Q (lsI (lsN w H))) : ∃ n, L_X8_shortest_16 w I L b d Q QX n (-1) 0 1 := by
  refine lp3 (fun n u s v => L_X8_shortest_16 w I L b d Q QX n u s v) (fun u s v => ∃ j, j ≤ H ∧ v = nI (j + 1) ∧ s = nI (rsN w j) ∧ u = lsI (lsN w j)) (fun _ _ v => H + 2 - v.toNatClampNeg) ?_ _ _ _ ⟨0, Nat.zero_le _, rfl, rfl, rfl⟩
  rintro n u s v ⟨j, h1, rfl, rfl, rfl⟩ ih
  refine pk_lt H (j + 1) (fun hc => ?_) (fun hc => ?_) hH rfl (by omega) (by omega)
  · have e : j = H := by omega
    subst e
    exact k
  · have r1 := rsN_le w j
    have l1 := lsN_le w j
    have fin : ∀ (a c : Int32), a = lsI (lsN w (j + 1)) → c = nI (rsN w (j + 1)) → B_X8_shortest_80 w a c (nI (j + 1)) I L b d Q QX (fun v5 v6 v7 => L_X8_shortest_16 w I L b d Q QX n v5 v6 v7) := by
      intro a c ha hc2
      exact ih _ _ _ ⟨j + 1, by omega, nI_1 _, hc2, ha⟩ (by rw [nI_1, nI_clamp (by omega), nI_clamp (by omega)]; omega)
    refine s_bitOf rfl (by omega) (s_bitOf (t := j) (nI_pred j) (by omega) ⟨fun e => ?_, fun e => ?_⟩)
    · rw [bi_inj] at e
      refine fin _ _ ?_ ?_
      · show _ = lsI (if _ then _ else _)
        rw [if_pos e]
      · show _ = nI (if _ then _ else _)
        rw [if_pos e]
    · rw [bi_inj] at e
      have er : rsN w (j + 1) = j + 1 := by
        show (if _ then _ else _) = _
        rw [if_neg e]
      have el : lsN w (j + 1) = if 0 < rsN w j ∧ (lsN w j = 0 ∨ j + 1 - rsN w j < lsN w j) then j + 1 - rsN w j else lsN w j := by
        show (if _ then _ else _) = _
        rw [if_neg e]
      have ed : nI (j + 1) - nI (rsN w j) = nI (j + 1 - rsN w j) := pk_sub (by omega)
      have old : ¬ (0 < rsN w j ∧ (lsN w j = 0 ∨ j + 1 - rsN w j < lsN w j)) → B_X8_shortest_76 w (lsI (lsN w j)) (nI (j + 1)) I L b d Q QX (fun v5 v6 v7 => L_X8_shortest_16 w I L b d Q QX n v5 v6 v7) := by
        intro q
        refine fin _ _ ?_ (by rw [er])
        rw [el, if_neg q]
      have new : (0 < rsN w j ∧ (lsN w j = 0 ∨ j + 1 - rsN w j < lsN w j)) → B_X8_shortest_69 w (nI (rsN w j)) (nI (j + 1)) I L b d Q QX (fun v5 v6 v7 => L_X8_shortest_16 w I L b d Q QX n v5 v6 v7) := by
        intro q
        refine fin _ _ ?_ (by rw [er])
        rw [el, if_pos q, ed]
        unfold lsI
        rw [if_neg (by omega)]
      refine pk_le (rsN w j) 0 (fun q => old (by omega)) (fun q => ?_) rfl rfl (by omega) (by omega)
      by_cases z : lsN w j = 0
      · exact ⟨fun _ => new ⟨q, Or.inl z⟩, fun e2 => absurd (by rw [z]; rfl) e2⟩
      · have zi : lsI (lsN w j) = nI (lsN w j) := by unfold lsI; rw [if_neg z]
        rw [ed]
        refine ⟨fun e2 => absurd (zi ▸ e2) (nI_nm1 (by omega)), fun _ => pk_le (lsN w j) (j + 1 - rsN w j) (fun q2 => old (by omega)) (fun q2 => new ⟨q, Or.inr q2⟩) zi rfl (by omega) (by omega)⟩
theorem run_keep {H : Nat} {w : Int64} {t e : Nat} (h : isEnd H w t e) (hs : rsN w t = t) : ∀ j, t ≤ j → j ≤ e → rsN w j = t ∧ lsN w j = lsN w t := by
  intro j h1 h2
  induction j with
  | zero =>
    have : t = 0 := by omega
    subst this
    exact ⟨rfl, rfl⟩
  | succ j ih =>
    by_cases q : t = j + 1
    · subst q
      exact ⟨hs, rfl⟩
    · obtain ⟨a, b⟩ := ih (by omega) (by omega)
      have e1 : bw w (j + 1) = bw w j := by rw [h.2.2.1 (j + 1) (by omega) h2, h.2.2.1 j (by omega) (by omega)]
      refine ⟨?_, ?_⟩
      · show (if _ then _ else _) = _
        rw [if_pos e1, a]
      · show (if _ then _ else _) = _
        rw [if_pos e1, b]
theorem s_lesser {I : TI} {L : TL} {Q : Int32 → Prop} {a b : Nat} {x y : Int32} (hx : x = nI a) (hy : y = nI b) (ha : a < 2 ^ 31) (hb : b < 2 ^ 31) (k : Q (nI (min a b))) : W_X9_lesser x y I L Q := by
  subst hx; subst hy
  unfold W_X9_lesser
  first
  | (refine pk_lt a b (fun h => ?_) (fun h => ?_) rfl rfl ha hb
     · rw [Nat.min_eq_left (Nat.le_of_lt h)] at k; exact k
     · rw [Nat.min_eq_right h] at k; exact k)
  | (refine pk_le b a (fun h => ?_) (fun h => ?_) rfl rfl hb ha
     · rw [Nat.min_eq_right h] at k; exact k
     · rw [Nat.min_eq_left (Nat.le_of_lt h)] at k; exact k)
theorem s_short9 {I : TI} {L : TL} {Q : Int32 → TI → TL → Prop} {H : Nat} {w : Int64} (hH : I 436 7 = nI H) (h2 : H ≤ 60) (k : Q (lsI (lsN w H)) I L) : W_X9_endOf w 0 I L (fun r => ∃ n, L_X9_shortest_31 w I L Q n (-1) (r + 1)) := by
  refine s_endOf (t := 0) hH h2 rfl (Nat.zero_le _) (fun e0 he0 => ?_)
  refine lp2 (fun n u v => L_X9_shortest_31 w I L Q n u v) (fun u v => ∃ j, 0 < j ∧ j ≤ H + 1 ∧ v = nI j ∧ (j ≤ H → rsN w j = j ∧ u = lsI (lsN w j)) ∧ (j = H + 1 → u = lsI (lsN w H))) (fun _ v => H + 2 - v.toNatClampNeg) ?_ _ _ ⟨e0 + 1, by omega, by have := he0.2.1; omega, nI_1 _, fun q => ?_, fun q => ?_⟩
  · rintro n u v ⟨j, h0, h1, rfl, h3, h4⟩ ih
    refine pk_lt H j (fun hc => ?_) (fun hc => ?_) hH rfl (by omega) (by omega)
    · rw [h4 (by omega)]
      exact k
    · obtain ⟨hs, rfl⟩ := h3 hc
      refine s_endOf hH h2 rfl hc (fun e he => ?_)
      obtain ⟨a1, a2, a3, a4⟩ := he
      have hk := run_keep ⟨a1, a2, a3, a4⟩ hs
      have l1 := lsN_le w j
      refine pk_le H e (fun q => ?_) (fun q => ?_) hH rfl (by omega) (by omega)
      · have : e = H := by omega
        subst this
        rw [(hk e a1 (Nat.le_refl _)).2] at k
        exact k
      · refine s_endOf hH h2 rfl hc (fun e2 he2 => ?_)
        have := isEnd.one he2 ⟨a1, a2, a3, a4⟩
        subst this
        have es : nI e2 - nI j + 1 = nI (e2 - j + 1) := by rw [pk_sub a1, nI_1]
        rw [es]
        have hne : bw w (e2 + 1) ≠ bw w e2 := by
          rcases a4 with z | z
          · omega
          · rw [a3 e2 a1 (Nat.le_refl _)]
            exact z
        obtain ⟨k1, k2⟩ := hk e2 a1 (Nat.le_refl _)
        have er : rsN w (e2 + 1) = e2 + 1 := by
          show (if _ then _ else _) = _
          rw [if_neg hne]
        have el : lsN w (e2 + 1) = if 0 < j ∧ (lsN w j = 0 ∨ e2 + 1 - j < lsN w j) then e2 + 1 - j else lsN w j := by
          show (if _ then _ else _) = _
          rw [if_neg hne, k1, k2]
        have fin : ∀ c : Int32, c = lsI (lsN w (e2 + 1)) → B_X9_shortest_86 w (nI j) (nI (e2 - j + 1)) c I L Q (fun v5 v6 => L_X9_shortest_31 w I L Q n v5 v6) := by
          intro c hc2
          have en : nI j + nI (e2 - j + 1) = nI (e2 + 1) := by rw [nI_add]; congr 1; omega
          refine ih _ _ ⟨e2 + 1, by omega, by omega, en, fun _ => ⟨er, hc2⟩, fun z => by omega⟩ ?_
          rw [en, nI_clamp (by omega), nI_clamp (by omega)]
          omega
        by_cases z : lsN w j = 0
        · refine ⟨fun z2 => absurd (by rw [z]; rfl) z2, fun _ => fin _ ?_⟩
          rw [el, if_pos ⟨h0, Or.inl z⟩]
          unfold lsI
          rw [if_neg (by omega)]
          congr 1
          omega
        · have zi : lsI (lsN w j) = nI (lsN w j) := by unfold lsI; rw [if_neg z]
          refine ⟨fun _ => s_lesser zi rfl (by omega) (by omega) (fin _ ?_), fun e3 => absurd (zi ▸ e3) (nI_nm1 (by omega))⟩
          by_cases y : e2 + 1 - j < lsN w j
          · rw [el, if_pos (show 0 < j ∧ (lsN w j = 0 ∨ e2 + 1 - j < lsN w j) from ⟨h0, Or.inr y⟩)]
            unfold lsI
            rw [if_neg (show e2 + 1 - j ≠ 0 by omega), Nat.min_eq_right (by omega)]
            congr 1
            omega
          · rw [el, if_neg (show ¬ (0 < j ∧ (lsN w j = 0 ∨ e2 + 1 - j < lsN w j)) from fun q3 => q3.2.elim z y)]
            unfold lsI
            rw [if_neg z, Nat.min_eq_left (by omega)]
  · obtain ⟨a1, a2, a3, a4⟩ := he0
    have hk := run_keep ⟨a1, a2, a3, a4⟩ (show rsN w 0 = 0 from rfl)
    have hne : bw w (e0 + 1) ≠ bw w e0 := by
      rcases a4 with z | z
      · omega
      · rw [a3 e0 a1 (Nat.le_refl _)]
        exact z
    obtain ⟨k1, k2⟩ := hk e0 a1 (Nat.le_refl _)
    refine ⟨?_, ?_⟩
    · show (if _ then _ else _) = _
      rw [if_neg hne]
    · show _ = lsI (if _ then _ else _)
      rw [if_neg hne, k1, if_neg (by omega), k2]
      rfl
  · have hk := run_keep he0 (show rsN w 0 = 0 from rfl)
    have : e0 = H := by omega
    subst this
    rw [(hk e0 (Nat.zero_le _) (Nat.le_refl _)).2]
    rfl
