/-! judge: pays and sets -/
section JUDGE
variable {I J : TI} {L M : TL} {b d B : Nat} {X : XT}
theorem upR_comm {r : RW} {i j : Nat} {x y : Int64} (h : i ≠ j) : upR (upR r i x) j y = upR (upR r j y) i x := by
  funext k
  unfold upR
  by_cases a : k = i
  · rw [if_pos a, if_pos a, if_neg (by omega)]
  · rw [if_neg a, if_neg a]
def payR (r : RW) (p a : Nat) : RW := upR (upR r (1 + p) (lN (un (r (1 + p)) - a))) 3 (lN (un (r 3) + a))
theorem payR_n {r : RW} {p a i : Nat} (h1 : i ≠ 1 + p) (h2 : i ≠ 3) : payR r p a i = r i := by
  unfold payR
  rw [upR_n h2, upR_n h1]
theorem c_pay {Q : TI → Prop} {p a u w : Nat} {x y : Int32} {e : Nat} (hx : x = nI p) (hp : p < 2) (hy : y = nI a) (hu : I (e + 9) p = nI u) (hw : I (e + 9) 2 = nI w) (ha : a ≤ u) (k : Q (up2 (up2 I (e + 9) p (nI (u - a))) (e + 9) 2 (nI (w + a)))) : W_X6_payCourt e x y I L Q := by
  subst hx; subst hy
  unfold W_X6_payCourt
  rw [pk_cl p rfl (by omega)]
  refine ⟨pk_in p 3 (by omega) rfl, pk_in p 3 (by omega) rfl, ?_⟩
  rintro _ rfl
  rw [up2_n (Or.inr (show (2 : Nat) ≠ p by omega)), hu, hw, pk_sub ha, nI_add]
  exact k
theorem SC.pay {C : CQ} {r : RW} {a p f : Nat} (h : SC I L a C r) (hp : p < 2) (h1 : un (r (1 + p)) < 2 ^ 63) (h2 : un (r 3) + f < 2 ^ 63) : SC (up2 (up2 I (a + 9) p (nI (un (r (1 + p)) - f))) (a + 9) 2 (nI (un (r 3) + f))) L a C (payR r p f) :=
  (h.pur (p := p) (v := lN (un (r (1 + p)) - f)) (by omega) (by rw [un_lN (by omega)])).pur (p := 2) (v := lN (un (r 3) + f)) (by omega) (by rw [un_lN (by omega)])
theorem RV.pay {C : CQ} {r : RW} {p f B2 : Nat} (hC : CV C) (h : RV C B r) (hp : p < 2) (hB : B + f ≤ B2) (hB2 : B2 < 2 ^ 63) : RV C B2 (payR r p f) := by
  have h1 := h.2.1 p (by omega)
  have h2 := h.2.1 2 (by omega)
  rw [show 1 + 2 = 3 from rfl] at h2
  exact ((h.mono (show B ≤ B2 by omega)).pur hC (p := p) (by omega) (by rw [un_lN (by omega)]; omega)).pur hC (p := 2) (v := lN (un (r 3) + f)) (by omega) (by rw [un_lN (by omega)]; omega)
theorem SC.dsp {C : CQ} {r : RW} {a k f : Nat} {x : Int32} (hC : CV C) (h : SC I L a C r) (hf : f < 8) : SC (up2 I (a + 11 + k) f x) L a C (upR r (81 + 8 * k + f) x.toInt64) := by
  refine h.upd hC (fun q q1 q2 => upR_n (by omega)) (fun q q1 q2 => up2_row (by omega)) ?_ (fun p hp => ?_) ?_ (fun k2 hk2 f2 hf2 => ?_)
  · rw [up2_row (by omega), upR_n (by omega)]
    exact h.1
  · rw [up2_row (by omega), upR_n (by omega)]
    exact h.2.1 p hp
  · rw [up2_row (by omega), upR_n (by omega)]
    exact h.2.2.1
  · rw [upR_n (by omega)] at hk2
    by_cases q : k2 = k
    · subst q
      rw [up2_at]
      by_cases q2 : f2 = f
      · subst q2
        rw [if_pos rfl, upR_s]
      · rw [if_neg q2, upR_n (by omega)]
        exact h.2.2.2.2.2 k2 hk2 f2 hf2
    · rw [up2_row (by omega), upR_n (by omega)]
      exact h.2.2.2.2.2 k2 hk2 f2 hf2
theorem RV.dsp {C : CQ} {r : RW} {k f : Nat} {x : Int64} (hC : CV C) (h : RV C B r) (h1 : DPV C (upR r (81 + 8 * k + f) x) k) (hf : f < 8) : RV C B (upR r (81 + 8 * k + f) x) := by
  refine h.upd hC (fun q q1 q2 => upR_n (by omega)) (by rw [upR_n (by omega)]; exact h.1) (fun p hp => by rw [upR_n (by omega)]; exact h.2.1 p hp) (by rw [upR_n (by omega)]; exact h.2.2.1) (fun k2 hk2 => ?_)
  rw [upR_n (by omega)] at hk2
  by_cases q : k2 = k
  · subst q
    exact h1
  · exact (h.dp hk2).same (fun f2 hf2 => upR_n (by omega))
/-- a verdict is laid down -/
theorem RV.v7 {C : CQ} {r : RW} {k : Nat} {x : Int32} (hC : CV C) (h : RV C B r) (hk : k < un (r 4)) (hx : x = 0 ∨ x = 1) : RV C B (upR r (81 + 8 * k + 7) x.toInt64) := by
  refine h.dsp hC ?_ (by omega)
  have D := h.dp hk
  unfold DPV at *
  rw [upR_n (by omega), upR_n (by omega), upR_n (by omega), upR_n (by omega), upR_n (by omega), upR_n (by omega), upR_n (by omega), show 88 + 8 * k = 81 + 8 * k + 7 by omega, upR_s]
  refine ⟨D.1, D.2.1, D.2.2.1, D.2.2.2.1, D.2.2.2.2.1, D.2.2.2.2.2.1, Or.inr ?_⟩
  rcases hx with rfl | rfl
  · exact Or.inl rfl
  · exact Or.inr rfl
/-- a state of a dispute -/
theorem RV.v6 {C : CQ} {r : RW} {k s : Nat} {x : Int32} (hC : CV C) (h : RV C B r) (hk : k < un (r 4)) (hx : x = nI s) (hs : s ≤ 4) (h1 : s ≠ 1 ∨ r (88 + 8 * k) = 0 ∨ r (88 + 8 * k) = 1) : RV C B (upR r (81 + 8 * k + 6) x.toInt64) := by
  subst hx
  refine h.dsp hC ?_ (by omega)
  have D := h.dp hk
  unfold DPV at *
  rw [upR_n (by omega), upR_n (by omega), upR_n (by omega), upR_n (by omega), upR_n (by omega), upR_n (by omega), upR_n (show 88 + 8 * k ≠ 81 + 8 * k + 6 by omega), show 87 + 8 * k = 81 + 8 * k + 6 by omega, upR_s]
  refine ⟨D.1, D.2.1, D.2.2.1, D.2.2.2.1, D.2.2.2.2.1, ⟨s, hs, nI_l (by omega)⟩, ?_⟩
  rcases D.2.2.2.2.2.2 with ⟨q, _⟩ | q
  · rcases h1 with q2 | q2
    · refine Or.inl ⟨q, fun z => q2 ?_⟩
      rw [nI_l (by omega)] at z
      exact (lN_eq (a := s) (b := 1) (by omega) (by omega)).mp z
    · exact Or.inr q2
  · exact Or.inr q
theorem loF_01 (h : INV I L b d X B) {k : Nat} (hk : k < un (xr X 4)) {v : Int32} : ∃ p, p < 2 ∧ loF (xr X) k v = nI p := by
  obtain ⟨_, _, _, _, _, _, s7, _⟩ := h.r.ds h.C hk
  unfold loF
  split
  · rcases s7 with q | q <;> rw [q]
    · exact ⟨1, by omega, rfl⟩
    · exact ⟨0, by omega, rfl⟩
  · rcases s7 with q | q <;> rw [q]
    · exact ⟨0, by omega, rfl⟩
    · exact ⟨1, by omega, rfl⟩
theorem row_le {L : TL} {r : RW} {i a : Nat} {x : Int32} (hr : L 437 = r) (hx : x = nI a) (ha : a < 2 ^ 31) (h : un (r i) < 2 ^ 31) : x.toInt64 ≤ L 437 i ↔ a ≤ un (r i) := by
  subst hx
  rw [hr, nI_l ha]
  conv => lhs; rw [un_e (r i)]
  exact lN_le (by omega) (by omega)
theorem cv_01 {r : RW} {g len : Nat} {v : Bool} : cvF r g len v = 0 ∨ cvF r g len v = 1 := by
  unfold cvF
  generalize (if v = true then 0 else 1) = w
  split
  · exact Or.inl rfl
  · exact Or.inr rfl
end JUDGE
