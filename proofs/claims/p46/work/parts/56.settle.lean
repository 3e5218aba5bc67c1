/-! settle: replay -/
section SETTLE
variable {I J : TI} {L M : TL} {b d B : Nat} {X : XT}
theorem or_andnot {x y : Int64} : x ||| (y &&& (x ^^^ (-1))) = x ||| y := by
  apply bw_ext
  intro t ht
  rw [bw_or, bw_or, bw_and, bw_not _ ht]
  cases bw x t <;> cases bw y t <;> rfl
theorem SC.updL {C : CQ} {r s : RW} {a : Nat} (hC : CV C) (h : SC I L a C r) (eR : ∀ k, (k < 9 ∨ 45 ≤ k) → s k = r k) (e5 : M (a + 5) = L (a + 5)) (e6 : ∀ n, n < cI C → M (a + 6) n = L (a + 6) n ∧ M (a + 7) n = L (a + 7) n) (eg : ∀ g, g < cG C → M (a + 6) (cI C + g) = s (9 + g) ∧ M (a + 7) (cI C + g) = s (21 + g) ∧ M (a + 8) (cI C + g) = s (33 + g)) : SC I M a C s := by
  have hI := hC.1
  have hG := hC.2.1
  refine ⟨by rw [eR 0 (by omega)]; exact h.1, fun p hp => by rw [eR (1 + p) (by omega)]; exact h.2.1 p hp, by rw [eR 4 (by omega)]; exact h.2.2.1, fun n hn => by rw [eR (5 + n) (by omega), e5, (e6 n hn).1, (e6 n hn).2]; exact h.2.2.2.1 n hn, fun g hg => ⟨(eg g hg).1, (eg g hg).2.1, (eg g hg).2.2, fun w hw => ?_⟩, fun k hk f hf => ?_⟩
  · have := (h.2.2.2.2.1 g hg).2.2.2 w hw
    unfold dl at *
    rw [eR (45 + 3 * g + w) (by omega)]
    exact this
  · rw [eR 4 (by omega)] at hk
    rw [eR (81 + 8 * k + f) (by omega)]
    exact h.2.2.2.2.2 k hk f hf
theorem RV.updL {C : CQ} {r s : RW} (hC : CV C) (h : RV C B r) (eR : ∀ k, (k < 9 ∨ 45 ≤ k) → s k = r k) (eg : ∀ g, g < cG C → inH (cH C) (s (9 + g)) ∧ inH (cH C) (s (21 + g)) ∧ (s (33 + g) &&& s (21 + g)) = s (33 + g)) : RV C B s := by
  have hI := hC.1
  have hG := hC.2.1
  refine ⟨by rw [eR 0 (by omega)]; exact h.1, fun p hp => by rw [eR (1 + p) (by omega)]; exact h.2.1 p hp, by rw [eR 4 (by omega)]; exact h.2.2.1, fun n hn => by rw [eR (5 + n) (by omega)]; exact h.2.2.2.1 n hn, fun g hg => ⟨(eg g hg).1, (eg g hg).2.1, (eg g hg).2.2, fun w hw => ?_⟩, fun k hk => ?_⟩
  · have := (h.2.2.2.2.1 g hg).2.2.2 w hw
    unfold dl at *
    rw [eR (45 + 3 * g + w) (by omega)]
    exact this
  · rw [eR 4 (by omega)] at hk
    exact (h.dp hk).same (fun f hf => eR _ (by omega))
theorem RV.st {C : CQ} {r : RW} {g : Nat} {m : Int64} (hC : CV C) (h : RV C B r) (hg : g < cG C) (hm : inH (cH C) m) : RV C B (stR r g m) := by
  have hG := hC.2.1
  refine h.updL hC (fun k hk => upR_n (by omega)) (fun g2 hg2 => ?_)
  obtain ⟨q1, q2, q3, -⟩ := h.2.2.2.2.1 g2 hg2
  unfold stR
  rw [upR_n (show 21 + g2 ≠ 9 + g by omega), upR_n (show 33 + g2 ≠ 9 + g by omega)]
  refine ⟨?_, q2, q3⟩
  by_cases e : g2 = g
  · subst e
    rw [upR_s]
    exact inH_or q1 hm
  · rw [upR_n (by omega)]
    exact q1
theorem SC.st {C : CQ} {r : RW} {a g : Nat} {m : Int64} (hC : CV C) (h : SC I L a C r) (hg : g < cG C) : SC I (up2 L (a + 6) (cI C + g) (r (9 + g) ||| m)) a C (stR r g m) := by
  have hG := hC.2.1
  refine h.updL hC (fun k hk => upR_n (by omega)) (up2_row (by omega)) (fun n hn => ⟨up2_n (Or.inr (by omega)), by rw [up2_row (show a + 7 ≠ a + 6 by omega)]⟩) (fun g2 hg2 => ?_)
  obtain ⟨q1, q2, q3, -⟩ := h.2.2.2.2.1 g2 hg2
  unfold stR
  rw [upR_n (show 21 + g2 ≠ 9 + g by omega), upR_n (show 33 + g2 ≠ 9 + g by omega), up2_row (show a + 7 ≠ a + 6 by omega), up2_row (show a + 8 ≠ a + 6 by omega), up2_at]
  refine ⟨?_, q2, q3⟩
  by_cases e : g2 = g
  · subst e
    rw [upR_s, if_pos rfl]
  · rw [upR_n (by omega), if_neg (by omega)]
    exact q1
theorem c_settle {Q : Int32 → TI → TL → Prop} {C : CQ} {r : RW} {x y z : Int32} {g f t : Nat} (hb : bnOK b) (hC : CV C) (hr : RV C B r) (h : CC I (b + 1) C) (hS : SC I L (b + 6) C r) (hx : x = nI (cI C + g)) (hg : g < cG C) (hy : y = nI f) (hz : z = nI t) (h1 : f ≤ t) (h2 : t ≤ cH C) (k : ∀ J M, (∀ q, q ≠ b + 41 → J q = I q) → (∀ q, q ≠ b + 12 → q ≠ b + 37 → q ≠ b + 38 → q ≠ b + 39 → M q = L q) → RV C B (stR r g (win f t)) → BC J M b C (stR r g (win f t)) → Q (nI (pc (win f t &&& (r (9 + g) ^^^ (-1))))) J M) : W_X0_settle b x y z I L Q := by
  have hG := hC.2.1
  have hI := hC.1
  have hH := hC.2.2.1
  subst hx
  have v : vp_in (nI (cI C + g)) 16 := pk_in _ 16 (by omega) rfl
  have e12 : L (b + 12) (cI C + g) = r (9 + g) := (hS.2.2.2.2.1 g hg).1
  unfold W_X0_settle
  refine s_window hy hz (by omega) (by omega) ⟨v, ?_⟩
  rw [pk_cl (cI C + g) rfl (by omega), e12]
  rintro _ rfl
  refine ⟨v, v, ?_⟩
  rintro _ rfl
  rw [or_andnot]
  have hr2 := hr.st hC hg (inH_win (a := f) h2 (by omega))
  refine c_refresh hb hC hr2 h (hS.st hC hg) (fun J M hJ hM hB => s_bcL (k J M hJ (fun q q1 q2 q3 q4 => ?_) hr2 hB))
  rw [hM q q2 q3 q4, up2_row q1]
theorem fb_ct_id : ∀ {p : Nat → Bool} {m n : Nat}, (∀ k, m ≤ k → p k = false) → m ≤ n → fb_ct p n ≤ m := by
  intro p m n h hm
  obtain ⟨c, rfl⟩ : ∃ c, n = m + c := ⟨n - m, by omega⟩
  have z : fb_ct (fun k => p (m + k)) c = 0 := fb_ct_zero.mpr (fun k _ => h _ (by omega))
  rw [fb_ct_split, z]
  exact fb_ct_le _ _
/-- a price is small -/
theorem prF_n {C : CQ} (hC : CV C) {n f t : Nat} (hn : n < cI C + cG C) (h1 : f ≤ t) (h2 : t ≤ 60) : ∃ a, a ≤ 10000 ∧ prF C n (nI f) (nI t) = nI a := by
  have hR := hC.2.2.2.1
  have hct : fb_ct (cD C n).testBit 32 ≤ 16 := fb_ct_id (fun k hk => Nat.testBit_lt_two_pow (Nat.lt_of_lt_of_le (cD_lt hC hn) (Nat.pow_le_pow_right (by decide) hk))) (by omega)
  refine ⟨cR C * (t - f + 1) * fb_ct (cD C n).testBit 32, ?_, ?_⟩
  · have a1 : cR C * (t - f + 1) ≤ 9 * 61 := Nat.mul_le_mul hR (by omega)
    have a2 : cR C * (t - f + 1) * fb_ct (cD C n).testBit 32 ≤ 9 * 61 * 16 := Nat.mul_le_mul a1 hct
    omega
  · unfold prF
    rw [pk_sub h1, nI_1, pk_mul, pk_mul]
end SETTLE
