/-! the waves of the class -/
/-- a circuit at c -/
def CC (I : TI) (c : Nat) (C : CQ) : Prop := I c 4 = nI (cI C) ∧ I c 5 = nI (cG C) ∧ I c 6 = nI (cH C) ∧ I c 7 = nI (cR C) ∧ I c 8 = nI (cF C) ∧
  (∀ g, g < cG C → I (c + 1) (cI C + g) = nI (cK C g) ∧ I (c + 2) (cI C + g) = nI (cO C g) ∧ I (c + 3) (cI C + g) = tx (cT C g)) ∧ ∀ n, n < cI C + cG C → I (c + 4) n = nI (cD C n)
/-- a state at a holds a row -/
def SC (I : TI) (L : TL) (a : Nat) (C : CQ) (r : RW) : Prop := I a 8 = nI (un (r 0)) ∧ (∀ p, p < 3 → I (a + 9) p = nI (un (r (1 + p)))) ∧ I a 7 = nI (un (r 4)) ∧
  (∀ n, n < cI C → L (a + 5) n = r (5 + n) ∧ L (a + 6) n = 0 ∧ L (a + 7) n = 0) ∧
  (∀ g, g < cG C → L (a + 6) (cI C + g) = r (9 + g) ∧ L (a + 7) (cI C + g) = r (21 + g) ∧ L (a + 8) (cI C + g) = r (33 + g) ∧ ∀ w, w < 3 → I (a + 2 + w) (cI C + g) = nI (dl r g w)) ∧
  ∀ d, d < un (r 4) → ∀ f, f < 8 → (I (a + 11 + d) f).toInt64 = r (81 + 8 * d + f)
theorem CC.fr {I J : TI} {c : Nat} {C : CQ} (h : CC I c C) (e : ∀ k, c ≤ k → k ≤ c + 4 → J k = I k) : CC J c C := by
  unfold CC
  rw [e c (by omega) (by omega), e (c + 1) (by omega) (by omega), e (c + 2) (by omega) (by omega), e (c + 3) (by omega) (by omega), e (c + 4) (by omega) (by omega)]
  exact h
theorem SC.fr {I J : TI} {L M : TL} {a : Nat} {C : CQ} {r : RW} (h : SC I L a C r) (hr : un (r 4) ≤ 20) (e : ∀ k, a ≤ k → k ≤ a + 30 → J k = I k) (e2 : ∀ k, a + 5 ≤ k → k ≤ a + 8 → M k = L k) : SC J M a C r := by
  obtain ⟨h1, h2, h3, h4, h5, h6⟩ := h
  refine ⟨by rw [e a (by omega) (by omega)]; exact h1, fun p hp => by rw [e (a + 9) (by omega) (by omega)]; exact h2 p hp, by rw [e a (by omega) (by omega)]; exact h3, fun n hn => by rw [e2 (a + 5) (by omega) (by omega), e2 (a + 6) (by omega) (by omega), e2 (a + 7) (by omega) (by omega)]; exact h4 n hn, fun g hg => ?_, fun d hd f hf => by rw [e (a + 11 + d) (by omega) (by omega)]; exact h6 d hd f hf⟩
  rw [e2 (a + 6) (by omega) (by omega), e2 (a + 7) (by omega) (by omega), e2 (a + 8) (by omega) (by omega)]
  obtain ⟨q1, q2, q3, q4⟩ := h5 g hg
  exact ⟨q1, q2, q3, fun w hw => by rw [e (a + 2 + w) (by omega) (by omega)]; exact q4 w hw⟩
theorem s_nets2 {I : TI} {L : TL} {Q : Int32 → Prop} {C : CQ} {c : Nat} (h : CC I c C) (k : Q (nI (cI C + cG C))) : W_X2_nets c I L Q := by
  unfold W_X2_nets
  rw [h.1, h.2.1, nI_add]
  exact k
theorem idl_cls {I : TI} {L : TL} {Q : Int64 → Prop} {C : CQ} {c p2 g : Nat} {a b : Int64} (h : CC I c C) (hC : CV C) (hg : g < cG C) (k : Q (idl (cK C g) (cH C) a b)) : B_X2_idealOf_31 c p2 (nI (cI C + g)) a b I L Q := by
  have hn := (hC.net hg).2.2.2
  have hH := hC.2.2.1
  have hk : cK C g ≤ 6 := (hC.2.2.2.2.2.1 g hg).1
  unfold B_X2_idealOf_31
  refine s_window (a := 0) rfl h.2.2.1 (Nat.zero_le _) (by omega) ⟨pk_in _ 16 hn rfl, ?_⟩
  rw [pk_cl (cI C + g) rfl (by omega), (h.2.2.2.2.2.1 g hg).1]
  generalize cK C g = q at hk k
  have z : ∀ c : Nat, c < 7 → nI q = nI c → q = c := fun c hc e => (nI_eq (by omega) (by omega)).mp e
  have cm : ∀ x y : Int64, x &&& y = y &&& x := Int64.and_comm
  refine ⟨fun e => ?_, fun e => ?_, fun e => ?_, fun e => ?_, fun e => ?_, fun e => ?_, fun e => ?_⟩
  · have := z 0 (by omega) e; subst this; exact k
  · have := z 1 (by omega) e; subst this; exact k
  · have := z 2 (by omega) e; subst this; exact k
  · have := z 3 (by omega) e; subst this; rw [cm]; exact k
  · have := z 4 (by omega) e; subst this; rw [cm]; exact k
  · have := z 5 (by omega) e; subst this; rw [cm]; exact k
  · have h6 : q = 6 := by
      rcases e with e | e
      · exact absurd e (nI_pos (by omega))
      · have : 5 < q := (nI_ltI (by omega) (by omega)).mp e
        omega
    subst h6
    exact k
theorem s_idealOf {I : TI} {L : TL} {Q : Int64 → Prop} {C : CQ} {c p2 g : Nat} {x : Int32} (h : CC I c C) (hC : CV C) (hx : x = nI (cI C + g)) (hg : g < cG C) (k : Q (idl (cK C g) (cH C) (L p2 (cO C g)) (L p2 (cT C g)))) : W_X2_idealOf c p2 x I L Q := by
  subst hx
  obtain ⟨n1, n2, n3, hn⟩ := hC.net hg
  obtain ⟨g1, g2, g3⟩ := h.2.2.2.2.2.1 g hg
  unfold W_X2_idealOf
  rw [pk_cl (cI C + g) rfl (by omega), g2, g3, pk_cl (cO C g) rfl (by omega)]
  have vn : vp_in (nI (cI C + g)) 16 := pk_in _ 16 hn rfl
  refine ⟨vn, pk_in (cO C g) 16 (by omega) rfl, ?_⟩
  rintro _ rfl
  refine ⟨vn, ?_⟩
  by_cases e : cT C g = 16
  · rw [e, tx_16]
    refine ⟨fun q => absurd rfl q, fun _ => idl_cls h hC hg ?_⟩
    rw [idl_u (n3 e) _ _ (L p2 (cT C g))]
    exact k
  · rw [tx_n e]
    have := n2 e
    refine ⟨fun _ => ⟨vn, pk_in (cT C g) 16 (by omega) rfl, idl_cls h hC hg ?_⟩, fun q => absurd q (nI_nm1 (by omega))⟩
    rw [pk_cl (cT C g) rfl (by omega)]
    exact k
theorem lat_cls {H d : Nat} {w : Int64} (hH : H ≤ 60) (h1 : 1 ≤ d) (h9 : d ≤ 9) : (shlL w (nI d) ||| (if bw w 0 = true then win 0 (d - 1) else 0)) &&& win 0 H = lat H d w := by
  apply bw_ext
  intro t ht
  unfold lat
  rw [bw_mkw _ ht, bw_and, bw_or, bw_shl w (by omega) ht, bw_win (by omega) ht]
  by_cases hz : t ≤ H
  · have e1 : decide (0 ≤ t ∧ t ≤ H) = true := decide_eq_true ⟨Nat.zero_le _, hz⟩
    rw [e1, decide_eq_true hz, Bool.and_true, Bool.true_and]
    by_cases hd : d ≤ t
    · have e2 : bw (if bw w 0 = true then win 0 (d - 1) else 0) t = false := by
        split
        · rw [bw_win (by omega) ht]
          exact decide_eq_false (by omega)
        · exact bw_0 t
      rw [e2, decide_eq_true hd, Bool.or_false, Bool.true_and]
    · have e3 : t - d = 0 := by omega
      rw [decide_eq_false hd, Bool.false_and, Bool.false_or, e3]
      split
      · rename_i q
        rw [bw_win (by omega) ht, q]
        exact decide_eq_true (by omega)
      · rename_i q
        rw [bw_0]
        simpa using q
  · have e1 : decide (0 ≤ t ∧ t ≤ H) = false := decide_eq_false (by omega)
    rw [e1, decide_eq_false hz, Bool.and_false, Bool.false_and]
def DV (C : CQ) (r : RW) : Prop := ∀ g, g < cG C → ∀ w, w < 3 → 1 ≤ dl r g w ∧ dl r g w ≤ 9
/-- the delays of a bench -/
def DC (I : TI) (b : Nat) (C : CQ) (r : RW) : Prop := ∀ g, g < cG C → I (b + 8) (cI C + g) = nI (dl r g 0) ∧ I (b + 9) (cI C + g) = nI (dl r g 1) ∧ I (b + 10) (cI C + g) = nI (dl r g 2)
theorem SC.dc {I : TI} {L : TL} {b : Nat} {C : CQ} {r : RW} (h : SC I L (b + 6) C r) : DC I b C r := fun g hg => by
  have := (h.2.2.2.2.1 g hg).2.2.2
  exact ⟨this 0 (by omega), this 1 (by omega), this 2 (by omega)⟩
theorem s_lateWave {I : TI} {L : TL} {Q : Int64 → Prop} {C : CQ} {r : RW} {b p2 g : Nat} {x : Int32} (h : CC I (b + 1) C) (hC : CV C) (hD : DC I b C r) (hV : DV C r) (hx : x = nI (cI C + g)) (hg : g < cG C) (k : Q (latC C r g (L p2))) : W_X0_lateWave b p2 x I L Q := by
  subst hx
  obtain ⟨n1, n2, n3, hn⟩ := hC.net hg
  have hH := hC.2.2.1
  obtain ⟨d1, d9⟩ := hV g hg 2 (by omega)
  unfold W_X0_lateWave
  refine s_idealOf h hC rfl hg ⟨pk_in _ 16 hn rfl, ?_⟩
  rw [pk_cl (cI C + g) rfl (by omega), (hD g hg).2.2]
  rintro _ rfl
  have key : ∀ s : Int64, s = (if bw (idl (cK C g) (cH C) (L p2 (cO C g)) (L p2 (cT C g))) 0 = true then win 0 (dl r g 2 - 1) else 0) → B_X0_lateWave_43 b p2 (idl (cK C g) (cH C) (L p2 (cO C g)) (L p2 (cT C g))) (nI (dl r g 2)) s I L Q := by
    rintro s rfl
    unfold B_X0_lateWave_43
    refine s_window (a := 0) rfl h.2.2.1 (Nat.zero_le _) (by omega) ?_
    rw [lat_cls (by omega) d1 d9]
    exact k
  refine s_bitOf (t := 0) rfl (by omega) ⟨fun e => ?_, fun e => ?_⟩
  · rw [bi_0, Bool.not_eq_false] at e
    refine s_window (a := 0) (b := dl r g 2 - 1) rfl ?_ (by omega) (by omega) (key _ ?_)
    · rw [show (1 : Int32) = nI 1 from rfl, pk_sub d1]
    · rw [if_pos e]
  · rw [bi_0] at e
    exact key _ (by rw [if_neg (by rw [e]; decide)])
theorem s_swing {I : TI} {L : TL} {Q : Int32 → Prop} {C : CQ} {r : RW} {b g : Nat} {x y : Int32} {v : Bool} (hC : CV C) (hD : DC I b C r) (hx : x = nI (cI C + g)) (hy : y = bi v) (hg : g < cG C) (k : Q (nI (dl r g (if v = true then 0 else 1)))) : W_X0_swing b x y I L Q := by
  subst hx; subst hy
  have hn := (hC.net hg).2.2.2
  unfold W_X0_swing
  rw [pk_cl (cI C + g) rfl (by omega), (hD g hg).1, (hD g hg).2.1]
  refine ⟨fun e => ⟨pk_in _ 16 hn rfl, ?_⟩, fun e => ⟨pk_in _ 16 hn rfl, ?_⟩⟩
  · rw [bi_1] at e
    rw [if_neg e] at k
    exact k
  · rw [bi_1] at e
    rw [if_pos e] at k
    exact k
theorem run_stb {w : Int64} {t d s : Nat} (hs : s ≤ t) (h1 : ∀ k, s ≤ k → k ≤ t → bw w k = bw w t) (h2 : s = 0 ∨ bw w (s - 1) ≠ bw w s) : stb w t d = true ↔ d ≤ t ∧ s ≤ t - d := by
  rw [stb_iff]
  constructor
  · rintro ⟨a, b⟩
    refine ⟨a, ?_⟩
    rcases Nat.lt_or_ge (t - d) s with q | q
    · exfalso
      rcases h2 with e | e
      · omega
      · apply e
        rw [b (s - 1) (by omega) (by omega), h1 s (Nat.le_refl _) hs]
    · exact q
  · rintro ⟨a, b⟩
    exact ⟨a, fun k c e => h1 k (by omega) (by omega)⟩
theorem s_dearWave {I : TI} {L : TL} {Q : Int64 → Prop} {C : CQ} {r : RW} {b g : Nat} {x : Int32} (h : CC I (b + 1) C) (hC : CV C) (hD : DC I b C r) (hV : DV C r) (hx : x = nI (cI C + g)) (hg : g < cG C) (k : Q (drF (cH C) (dl r g 0) (dl r g 1) (idl (cK C g) (cH C) (L (b + 39) (cO C g)) (L (b + 39) (cT C g))))) : W_X0_dearWave b x I L Q := by
  subst hx
  have hH := hC.2.2.1
  unfold W_X0_dearWave
  refine s_idealOf h hC rfl hg ?_
  generalize idl (cK C g) (cH C) (L (b + 39) (cO C g)) (L (b + 39) (cT C g)) = w at k
  refine s_bitOf (t := 0) rfl (by omega) ?_
  have hd : ∀ v : Bool, 1 ≤ dl r g (if v = true then 0 else 1) ∧ dl r g (if v = true then 0 else 1) ≤ 9 := fun v => hV g hg _ (by split <;> omega)
  refine lp4 (fun n u v s z => L_X0_dearWave_31 b (nI (cI C + g)) w I L Q n u v s z) (fun u v s z => ∃ j q, j ≤ cH C ∧ z = nI (j + 1) ∧ s = nI q ∧ q ≤ j ∧ (∀ i, q ≤ i → i ≤ j → bw w i = bw w j) ∧ (q = 0 ∨ bw w (q - 1) ≠ bw w q) ∧ v = bi (lvl w (dl r g 0) (dl r g 1) j) ∧ ∀ t, t < 64 → bw u t = (decide (t ≤ j) && lvl w (dl r g 0) (dl r g 1) t)) (fun _ _ _ z => cH C + 2 - z.toNatClampNeg) ?_ _ _ _ _ ⟨0, 0, Nat.zero_le _, rfl, rfl, Nat.le_refl _, fun i _ hi => by rw [show i = 0 by omega], Or.inl rfl, rfl, fun t _ => ?_⟩
  · rintro n u v s z ⟨j, q, h1, rfl, rfl, h2, h3, h4, rfl, h5⟩ ih
    refine pk_lt (cH C) (j + 1) (fun hc => ?_) (fun hc => ?_) h.2.2.1 rfl (by omega) (by omega)
    · have e : u = drF (cH C) (dl r g 0) (dl r g 1) w := by
        apply bw_ext
        intro t ht
        unfold drF
        rw [bw_mkw _ ht, h5 t ht, show j = cH C by omega]
      rw [e]
      exact k
    · have fin : ∀ (b0 : Bool) (q2 : Nat), b0 = lvl w (dl r g 0) (dl r g 1) (j + 1) → q2 ≤ j + 1 → (∀ i, q2 ≤ i → i ≤ j + 1 → bw w i = bw w (j + 1)) → (q2 = 0 ∨ bw w (q2 - 1) ≠ bw w q2) → B_X0_dearWave_87 b (nI (cI C + g)) w u (bi b0) (nI q2) (nI (j + 1)) I L Q (fun v4 v6 v7 v8 => L_X0_dearWave_31 b (nI (cI C + g)) w I L Q n v4 v6 v7 v8) := by
        rintro b0 q2 hb a1 a2 a3 z rfl
        refine ih _ _ _ _ ⟨j + 1, q2, by omega, nI_1 _, rfl, a1, a2, a3, congrArg bi hb, fun t ht => ?_⟩ ?_
        · rw [lor_shl (by omega) ht, h5 t ht]
          by_cases a : t ≤ j
          · have b1 : t ≠ j + 1 := by omega
            have c : t ≤ j + 1 := by omega
            simp [a, b1, c]
          · by_cases b1 : t = j + 1
            · subst b1; simp [hb]
            · have c : ¬ t ≤ j + 1 := by omega
              simp [a, b1, c]
        · rw [nI_1, nI_clamp (by omega), nI_clamp (by omega)]
          omega
      have mid : ∀ q2 : Nat, q2 ≤ j + 1 → (∀ i, q2 ≤ i → i ≤ j + 1 → bw w i = bw w (j + 1)) → (q2 = 0 ∨ bw w (q2 - 1) ≠ bw w q2) → B_X0_dearWave_68 b (nI (cI C + g)) w u (bi (lvl w (dl r g 0) (dl r g 1) j)) (nI q2) (nI (j + 1)) (bi (bw w (j + 1))) I L Q (fun v4 v6 v7 v8 => L_X0_dearWave_31 b (nI (cI C + g)) w I L Q n v4 v6 v7 v8) := by
        intro q2 a1 a2 a3
        unfold B_X0_dearWave_68
        refine s_swing hC hD rfl rfl hg ?_
        obtain ⟨d1, d9⟩ := hd (bw w (j + 1))
        have el : lvl w (dl r g 0) (dl r g 1) (j + 1) = if stb w (j + 1) (dl r g (if bw w (j + 1) = true then 0 else 1)) = true then bw w (j + 1) else lvl w (dl r g 0) (dl r g 1) j := by
          show (if stb w (j + 1) (if bw w (j + 1) = true then dl r g 0 else dl r g 1) = true then _ else _) = _
          cases bw w (j + 1) <;> rfl
        generalize dl r g (if bw w (j + 1) = true then 0 else 1) = d at d1 d9 el
        have hlt : nI (j + 1) - nI d < nI q2 ↔ ((j + 1 : Nat) : Int) - d < q2 := by
          rw [Int32.lt_iff_toInt_lt, pk_sub_toInt (by omega) (by omega), nI_toInt (by omega)]
        have hs := run_stb (d := d) a1 a2 a3
        refine ⟨fun e => fin _ q2 ?_ a1 a2 a3, fun e => fin _ q2 ?_ a1 a2 a3⟩
        · rw [hlt] at e
          rw [el, if_neg]
          rw [hs]
          omega
        · rw [hlt] at e
          rw [el, if_pos]
          rw [hs]
          omega
      refine s_bitOf rfl (by omega) (s_bitOf (t := j) (nI_pred j) (by omega) ⟨fun e => ?_, fun e => ?_⟩)
      · rw [bi_inj] at e
        refine mid q (by omega) (fun i a b0 => ?_) h4
        by_cases c : i = j + 1
        · rw [c]
        · rw [h3 i a (by omega), e]
      · rw [bi_inj] at e
        refine mid (j + 1) (Nat.le_refl _) (fun i a b0 => by rw [show i = j + 1 by omega]) (Or.inr ?_)
        rw [Nat.add_sub_cancel]
        exact fun c => e c.symm
  · rw [bw_and, show (1 : Int64) = win 0 0 from rfl]
    by_cases h0 : t < 64
    · rw [bw_win (by omega) h0]
      cases t with
      | zero => simp [lvl]
      | succ m => simp
    · rw [bw_big (by omega)]
      simp
      omega
