/-! PULSES -/
def enA (w : Int64) (H : Nat) : Nat → Nat
  | 0 => H
  | k + 1 => if bw w (H - k) = bw w (H - (k + 1)) then enA w H k else H - (k + 1)
def enN (w : Int64) (H t : Nat) : Nat := enA w H (H - t)
theorem enA_ok (w : Int64) (H : Nat) : ∀ k, k ≤ H → isEnd H w (H - k) (enA w H k)
  | 0, _ => ⟨Nat.le_refl _, Nat.le_refl _, fun i a b => by rw [show i = H - 0 by have : enA w H 0 = H := rfl; omega], Or.inl rfl⟩
  | k + 1, h => by
    obtain ⟨a, b, c, e⟩ := enA_ok w H k (by omega)
    have hs : H - k = H - (k + 1) + 1 := by omega
    unfold enA
    by_cases q : bw w (H - k) = bw w (H - (k + 1))
    · rw [if_pos q]
      refine ⟨by omega, b, fun i h1 h2 => ?_, e.imp id (fun z => by rw [← q]; exact z)⟩
      by_cases y : i = H - (k + 1)
      · rw [y]
      · rw [c i (by omega) h2, q]
    · rw [if_neg q]
      refine ⟨Nat.le_refl _, by omega, fun i h1 h2 => by rw [show i = H - (k + 1) by omega], Or.inr ?_⟩
      rw [← hs]
      exact q
theorem enN_ok (w : Int64) {H t : Nat} (h : t ≤ H) : isEnd H w t (enN w H t) := by
  have := enA_ok w H (H - t) (by omega)
  rw [show H - (H - t) = t by omega] at this
  exact this
theorem enN_is {w : Int64} {H t e : Nat} (h : isEnd H w t e) : enN w H t = e := isEnd.one (enN_ok w (Nat.le_trans h.1 h.2.1)) h
theorem rsN_run (w : Int64) : ∀ t, (∀ k, rsN w t ≤ k → k ≤ t → bw w k = bw w t) ∧ (rsN w t = 0 ∨ bw w (rsN w t - 1) ≠ bw w (rsN w t))
  | 0 => ⟨fun k a b => by rw [show k = 0 by omega], Or.inl rfl⟩
  | t + 1 => by
    obtain ⟨h1, h2⟩ := rsN_run w t
    have hl := rsN_le w t
    unfold rsN
    by_cases q : bw w (t + 1) = bw w t
    · rw [if_pos q]
      refine ⟨fun k a b => ?_, h2⟩
      by_cases y : k = t + 1
      · rw [y]
      · rw [h1 k a (by omega), q]
    · rw [if_neg q]
      refine ⟨fun k a b => by rw [show k = t + 1 by omega], Or.inr ?_⟩
      rw [Nat.add_sub_cancel]
      exact fun e => q e.symm
/-- whether a pulse begins at s: H the horizon, lm the limit, K what is settled or ruled -/
def psB (H lm : Nat) (K w : Int64) (s : Nat) : Bool := decide (0 < s ∧ s ≤ H) && (bw w s ^^ bw w (s - 1)) && decide (enN w H s < H ∧ enN w H s + 1 - s ≤ lm) && decide (win s (enN w H s) &&& (K ^^^ (-1)) ≠ 0)
theorem psB_iff {H lm : Nat} {K w : Int64} {s : Nat} : psB H lm K w s = true ↔ (0 < s ∧ s ≤ H) ∧ bw w s ≠ bw w (s - 1) ∧ (enN w H s < H ∧ enN w H s + 1 - s ≤ lm) ∧ win s (enN w H s) &&& (K ^^^ (-1)) ≠ 0 := by
  unfold psB
  rw [Bool.and_eq_true, Bool.and_eq_true, Bool.and_eq_true, decide_eq_true_eq, decide_eq_true_eq, decide_eq_true_eq, and_assoc, and_assoc]
  have : (bw w s ^^ bw w (s - 1)) = true ↔ bw w s ≠ bw w (s - 1) := by cases bw w s <;> cases bw w (s - 1) <;> decide
  rw [this]
theorem psB_lt {H lm : Nat} {K w : Int64} {s : Nat} (h : psB H lm K w s = true) : 0 < s ∧ s < H := by
  obtain ⟨a, b, c, d⟩ := psB_iff.mp h
  have := (enN_ok w a.2).1
  omega
section PULSE
variable {I J : TI} {L M : TL} {b d B : Nat} {X : XT}
theorem or_sh1w (u : Int64) {k t : Nat} (hk : k < 64) (ht : t < 64) : bw (u ||| shlL 1 (nI k)) t = (bw u t || decide (t = k)) := by
  have := lor_shl (u := u) (b := true) hk ht
  rw [Bool.and_true] at this
  exact this
theorem s_pulseStarts {Q : Int64 → Prop} {C : CQ} {r : RW} {g : Nat} {x : Int32} (h : BC I L b C r) (hC : CV C) (hr : un (r 0) ≤ 20) (hx : x = nI (cI C + g)) (hg : g < cG C) (k : Q (mkw (psB (cH C) (un (r 0)) (r (21 + g) ||| r (9 + g)) (shF C r (cI C + g))))) : W_X0_pulseStarts b x I L Q := by
  subst hx
  have hH := hC.2.2.1
  obtain ⟨n1, n2, n3, n4⟩ := hC.net hg
  obtain ⟨hc, hs, hw⟩ := h
  have e37 := (hw (cI C + g) (by omega)).1
  have e12 : L (b + 12) (cI C + g) = r (9 + g) := (hs.2.2.2.2.1 g hg).1
  have e13 : L (b + 13) (cI C + g) = r (21 + g) := (hs.2.2.2.2.1 g hg).2.1
  have e8 : I (b + 6) 8 = nI (un (r 0)) := hs.1
  have vn : vp_in (nI (cI C + g)) 16 := pk_in _ 16 n4 rfl
  unfold W_X0_pulseStarts
  rw [pk_cl (cI C + g) rfl (by omega), e37, e12, e13]
  refine ⟨vn, ?_⟩
  rintro _ rfl
  refine ⟨vn, vn, ?_⟩
  rintro _ rfl
  generalize shF C r (cI C + g) = w at k
  generalize r (21 + g) ||| r (9 + g) = K at k
  generalize hlm : un (r 0) = lm at *
  generalize hHH : cH C = H at *
  have eH : I (b + 1) 6 = nI H := by rw [← hHH]; exact hc.2.2.1
  refine lp3 (fun n u s v => L_X0_pulseStarts_41 b w (K ^^^ (-1)) I L Q n u s v) (fun u s v => ∃ j, j ≤ H ∧ v = nI (j + 1) ∧ s = nI (rsN w j) ∧ ∀ t, t < 64 → bw u t = (psB H lm K w t && decide (enN w H t < j))) (fun _ _ v => H + 2 - v.toNatClampNeg) ?_ _ _ _ ⟨0, Nat.zero_le _, rfl, rfl, fun t _ => by rw [bw_0, decide_eq_false (Nat.not_lt_zero _), Bool.and_false]⟩
  rintro n u s v ⟨j, h1, rfl, rfl, h3⟩ ih
  refine pk_lt H (j + 1) (fun q => ?_) (fun q => ?_) eH rfl (by omega) (by omega)
  · have e : u = mkw (psB H lm K w) := by
      apply bw_ext
      intro t ht
      rw [h3 t ht, bw_mkw _ ht]
      cases y : psB H lm K w t with
      | false => rfl
      | true =>
        have := (psB_iff.mp y).2.2.1.1
        rw [decide_eq_true (by omega)]
        rfl
    rw [e]
    exact k
  · have rl := rsN_le w j
    obtain ⟨r1, r2⟩ := rsN_run w j
    have nx : ∀ (u2 : Int64) (c : Int32), c = nI (rsN w (j + 1)) → (∀ t, t < 64 → bw u2 t = (psB H lm K w t && decide (enN w H t < j + 1))) → B_X0_pulseStarts_132 b w (K ^^^ (-1)) u2 c (nI (j + 1)) I L Q (fun v6 v8 v9 => L_X0_pulseStarts_41 b w (K ^^^ (-1)) I L Q n v6 v8 v9) := by
      intro u2 c hc2 h5
      exact ih _ _ _ ⟨j + 1, by omega, nI_1 _, hc2, h5⟩ (by rw [nI_1, nI_clamp (by omega), nI_clamp (by omega)]; omega)
    refine s_bitOf rfl (by omega) (s_bitOf (t := j) (nI_pred j) (by omega) ⟨fun e => ?_, fun e => ?_⟩)
    · rw [bi_inj] at e
      refine nx u _ ?_ (fun t ht => ?_)
      · congr 1
        show _ = if _ then _ else _
        rw [if_pos e]
      · rw [h3 t ht]
        cases y : psB H lm K w t with
        | false => rfl
        | true =>
          have z := enN_ok w (psB_iff.mp y).1.2
          have : enN w H t ≠ j := by
            intro y2
            rcases z.2.2.2 with y3 | y3
            · omega
            · rw [y2] at y3 z
              apply y3
              rw [e, z.2.2.1 j z.1 (Nat.le_refl _)]
          congr 1
          exact decide_eq_decide.mpr (by omega)
    · rw [bi_inj] at e
      have er : rsN w (j + 1) = j + 1 := by
        show (if _ then _ else _) = _
        rw [if_neg e]
      -- the run that ends here
      have he : isEnd H w (rsN w j) j := ⟨rl, by omega, fun i a c => by rw [r1 i a c, r1 (rsN w j) (Nat.le_refl _) rl], Or.inr (by rw [r1 (rsN w j) (Nat.le_refl _) rl]; exact e)⟩
      have een := enN_is he
      have only : ∀ t, psB H lm K w t = true → enN w H t = j → t = rsN w j := by
        intro t y1 y2
        obtain ⟨p1, p2, p3, p4⟩ := psB_iff.mp y1
        have z := enN_ok w p1.2
        rw [y2] at z
        rcases Nat.lt_trichotomy t (rsN w j) with q1 | q1 | q1
        · exfalso
          rcases r2 with q2 | q2
          · omega
          · apply q2
            rw [z.2.2.1 (rsN w j - 1) (by omega) (by omega), z.2.2.1 (rsN w j) (by omega) (by omega)]
        · exact q1
        · exfalso
          apply p2
          rw [r1 t (by omega) z.1, r1 (t - 1) (by omega) (by have := z.1; omega)]
      have done : ∀ u2 : Int64, (∀ t, t < 64 → bw u2 t = (bw u t || (decide (t = rsN w j) && psB H lm K w (rsN w j)))) → B_X0_pulseStarts_128 b w (K ^^^ (-1)) u2 (nI (j + 1)) I L Q (fun v6 v8 v9 => L_X0_pulseStarts_41 b w (K ^^^ (-1)) I L Q n v6 v8 v9) := by
        intro u2 h5
        refine nx u2 _ (by rw [er]) (fun t ht => ?_)
        rw [h5 t ht, h3 t ht]
        by_cases y : t = rsN w j
        · subst y
          rw [een, decide_eq_false (Nat.lt_irrefl _), decide_eq_true (Nat.lt_succ_self _), decide_eq_true rfl]
          simp
        · rw [decide_eq_false y, Bool.false_and, Bool.or_false]
          cases y2 : psB H lm K w t with
          | false => rfl
          | true =>
            have : enN w H t ≠ j := fun y3 => y (only t y2 y3)
            congr 1
            exact decide_eq_decide.mpr (by omega)
      have old : psB H lm K w (rsN w j) = false → B_X0_pulseStarts_128 b w (K ^^^ (-1)) u (nI (j + 1)) I L Q (fun v6 v8 v9 => L_X0_pulseStarts_41 b w (K ^^^ (-1)) I L Q n v6 v8 v9) := by
        intro y
        refine done u (fun t ht => ?_)
        rw [y, Bool.and_false, Bool.or_false]
      have no : psB H lm K w (rsN w j) = false → B_X0_pulseStarts_94 b w (K ^^^ (-1)) u (nI (rsN w j)) (nI (j + 1)) I L Q (fun v6 v8 v9 => L_X0_pulseStarts_41 b w (K ^^^ (-1)) I L Q n v6 v8 v9) := fun y => ⟨fun _ => old y, fun y2 => absurd rfl y2⟩
      have ed : nI (j + 1) - nI (rsN w j) = nI (j + 1 - rsN w j) := pk_sub (by omega)
      rw [ed]
      refine pk_le (rsN w j) 0 (fun q2 => no ?_) (fun q2 => ?_) rfl rfl (by omega) (by omega)
      · rw [← Bool.not_eq_true, psB_iff]
        rintro ⟨p1, -⟩
        omega
      · refine pk_lt lm (j + 1 - rsN w j) (fun q3 => no ?_) (fun q3 => ?_) e8 rfl (by omega) (by omega)
        · rw [← Bool.not_eq_true, psB_iff]
          rintro ⟨-, -, p3, -⟩
          rw [een] at p3
          omega
        · refine ⟨fun y => absurd y (by decide), fun _ => ?_⟩
          refine s_window rfl (nI_pred j) (by omega) (by omega) ⟨fun y => old ?_, fun y => ?_⟩
          · rw [← Bool.not_eq_true, psB_iff]
            rintro ⟨-, -, -, p4⟩
            rw [een] at p4
            exact p4 y
          · have yes : psB H lm K w (rsN w j) = true := by
              rw [psB_iff, een]
              refine ⟨⟨q2, by omega⟩, ?_, ⟨by omega, q3⟩, y⟩
              rcases r2 with q4 | q4
              · omega
              · exact fun q5 => q4 q5.symm
            rintro _ rfl
            refine done _ (fun t ht => ?_)
            rw [or_sh1w u (by omega) ht, yes, Bool.and_true]
theorem s_pulseStart {Q : Int32 → Prop} {C : CQ} {r : RW} {g : Nat} {x y : Int32} (h : BC I L b C r) (hC : CV C) (hr : un (r 0) ≤ 20) (hx : x = nI (cI C + g)) (hg : g < cG C)
    (k1 : ∀ t i, y = nI i → psB (cH C) (un (r 0)) (r (21 + g) ||| r (9 + g)) (shF C r (cI C + g)) t = true → fb_ct (psB (cH C) (un (r 0)) (r (21 + g) ||| r (9 + g)) (shF C r (cI C + g))) t = i → Q (nI t))
    (k0 : (∀ t i, y = nI i → psB (cH C) (un (r 0)) (r (21 + g) ||| r (9 + g)) (shF C r (cI C + g)) t = true → fb_ct (psB (cH C) (un (r 0)) (r (21 + g) ||| r (9 + g)) (shF C r (cI C + g))) t = i → i < 2 ^ 31 → False) → Q (-1)) : W_X0_pulseStart b x y I L Q := by
  have hH := hC.2.2.1
  unfold W_X0_pulseStart
  refine s_pulseStarts h hC hr hx hg ?_
  have eH : I (b + 1) 6 = nI (cH C) := h.1.2.2.1
  have lt := fun t => psB_lt (H := cH C) (lm := un (r 0)) (K := r (21 + g) ||| r (9 + g)) (w := shF C r (cI C + g)) (s := t)
  generalize psB (cH C) (un (r 0)) (r (21 + g) ||| r (9 + g)) (shF C r (cI C + g)) = p at k1 k0 lt
  have cl : ∀ n, fb_ct p n ≤ n := fb_ct_le p
  have p0 : p 0 = false := by
    rw [← Bool.not_eq_true]
    intro q
    have := lt 0 q
    omega
  refine lp2 (fun n u v => L_X0_pulseStart_12 b y (mkw p) I L Q n u v) (fun u v => ∃ j, 1 ≤ j ∧ j ≤ cH C ∧ v = nI j ∧ u = nI (fb_ct p j) ∧ ∀ t i, t < j → y = nI i → p t = true → fb_ct p t = i → i < 2 ^ 31 → False) (fun _ v => cH C - v.toNatClampNeg) ?_ _ _ ⟨1, Nat.le_refl _, by omega, rfl, ?_, fun t i ht _ q => ?_⟩
  · rintro n u v ⟨j, j0, h1, rfl, rfl, h3⟩ ih
    refine pk_le (cH C) j (fun q => ?_) (fun q => ?_) eH rfl (by omega) (by omega)
    · refine k0 (fun t i a1 a2 a3 a4 => h3 t i ?_ a1 a2 a3 a4)
      have := lt t a2
      omega
    · have cj := cl j
      have hs : fb_ct p (j + 1) = fb_ct p j + (if p j = true then 1 else 0) := rfl
      refine s_bitOf rfl (by omega) ⟨fun e => ?_, fun e => ?_⟩
      · rw [bi_1, bw_mkw _ (by omega)] at e
        refine ih _ _ ⟨j + 1, by omega, by omega, nI_1 j, by rw [hs, if_neg e]; rfl, fun t i a0 a1 a2 a3 a4 => ?_⟩ (by rw [nI_1, nI_clamp (by omega), nI_clamp (by omega)]; omega)
        by_cases z : t = j
        · rw [z] at a2
          exact e a2
        · exact h3 t i (by omega) a1 a2 a3 a4
      · rw [bi_1, bw_mkw _ (by omega)] at e
        refine ⟨fun e2 => ?_, fun e2 => k1 j _ e2.symm e rfl⟩
        refine ih _ _ ⟨j + 1, by omega, by omega, nI_1 j, by rw [hs, if_pos e, nI_1], fun t i a0 a1 a2 a3 a4 => ?_⟩ (by rw [nI_1, nI_clamp (by omega), nI_clamp (by omega)]; omega)
        by_cases z : t = j
        · rw [z] at a3
          rw [← a3] at a1
          exact e2 a1.symm
        · exact h3 t i (by omega) a1 a2 a3 a4
  · show (0 : Int32) = nI (fb_ct p 0 + if p 0 = true then 1 else 0)
    rw [p0]
    rfl
  · have := lt t q
    omega
theorem s_runEnd {Q : Int32 → Prop} {C : CQ} {r : RW} {n t : Nat} {x y : Int32} (h : BC I L b C r) (hC : CV C) (hx : x = nI n) (hn : n < cI C + cG C) (hy : y = nI t) (ht : t ≤ cH C) (k : Q (nI (enN (shF C r n) (cH C) t))) : W_X0_runEnd b x y I L Q := by
  subst hx; subst hy
  have hI := hC.1
  have hG := hC.2.1
  have hH := hC.2.2.1
  have e37 := (h.2.2 n hn).1
  have vn : vp_in (nI n) 16 := pk_in n 16 (by omega) rfl
  have eH : I (b + 1) 6 = nI (cH C) := h.1.2.2.1
  unfold W_X0_runEnd
  refine lp1 (fun z v => L_X0_runEnd_2 b (nI n) (nI t) I L Q z v) (fun v => ∃ j, t ≤ j ∧ j ≤ cH C ∧ v = nI j ∧ ∀ i, t ≤ i → i ≤ j → bw (shF C r n) i = bw (shF C r n) t) (fun v => cH C - v.toNatClampNeg) ?_ _ ⟨t, Nat.le_refl _, ht, rfl, fun i a c => by rw [show i = t by omega]⟩
  rintro z v ⟨j, h1, h3, rfl, h4⟩ ih
  show D_X0_runEnd_2 b (nI n) (nI t) I L Q _ (nI j)
  unfold D_X0_runEnd_2
  rw [pk_cl n rfl (by omega), e37]
  refine pk_le (cH C) j (fun q => ?_) (fun q => ?_) eH rfl (by omega) (by omega)
  · rw [enN_is (e := j) ⟨h1, h3, h4, Or.inl (by omega)⟩] at k
    exact k
  · refine ⟨vn, s_bitOf (nI_1 j) (by omega) ⟨vn, s_bitOf rfl (by omega) ⟨fun e => ?_, fun e => ?_⟩⟩⟩
    · rw [bi_inj] at e
      rw [enN_is (e := j) ⟨h1, h3, h4, Or.inr e⟩] at k
      exact k
    · rw [bi_inj] at e
      refine ih _ ⟨j + 1, by omega, by omega, nI_1 j, fun i a c => ?_⟩ (by rw [nI_1, nI_clamp (by omega), nI_clamp (by omega)]; omega)
      by_cases y : i = j + 1
      · rw [y, e]
      · exact h4 i a (by omega)
/-- what findsPulse leaves in the fields -/
def fpI (I J : TI) : Prop := sameI [436] I J ∧ ∀ j, j ≠ 18 → j ≠ 19 → j ≠ 20 → J 436 j = I 436 j
theorem fpI.ro (h : fpI I J) : roI I J := ⟨fun k a _ => h.1 k (nin1 a), fun j _ a c e => h.2 j a c e⟩
theorem fpI.up (h : fpI I J) {j : Nat} {x : Int32} (hj : j = 18 ∨ j = 19 ∨ j = 20) : fpI I (up2 J 436 j x) := ⟨h.1.up in1, fun i a c e => by rw [up2_n (Or.inr (by omega))]; exact h.2 i a c e⟩
end PULSE
