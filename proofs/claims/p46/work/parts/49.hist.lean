/-! HISTORY: copies of states, records, undo, snapshot -/
section HIST
variable {I J : TI} {L M : TL} {b d B : Nat} {X : XT}
theorem st_apart {x y : Nat} (hx : stOK x) (hy : stOK y) (h : x ≠ y) : x + 30 < y ∨ y + 30 < x :=
  (show ∀ x ∈ stL, ∀ y ∈ stL, x ≠ y → x + 30 < y ∨ y + 30 < x by decide +kernel) x hx y hy h
theorem stb_lt {x : Nat} (hx : stOK x) : 3 ≤ x ∧ x + 30 < 436 := (show ∀ x ∈ stL, 3 ≤ x ∧ x + 30 < 436 by decide +kernel) x hx
theorem cpy_b {α : Type} {f : Nat → Nat → α} {a c n j : Nat} (h : j < n) : cpy f a c 0 0 n c j = f a j := by
  unfold cpy
  rw [if_pos rfl, if_pos (by omega)]
  congr 1
  omega
theorem cpyr {α : Type} {f : Nat → Nat → α} {a c n k : Nat} (h : k ≠ c) : cpy f a c 0 0 n k = f k := by
  funext j
  unfold cpy
  rw [if_neg h]
theorem s_copyD {Q : TI → Prop} {x y : Nat} (hxy : x ≠ y) (h5 : I y 5 = 0 ∨ I y 5 = 1) (k : ∀ J, sameI [x] I J → (∀ f, f < 8 → J x f = I y f) → Q J) : W_X3_copyFrom x y I L Q := by
  unfold W_X3_copyFrom W_X3_start
  rintro _ rfl
  refine ⟨h5, ?_⟩
  rintro _ rfl
  have hy : y ≠ x := fun e => hxy e.symm
  refine k _ (((((((((( sameI.rf [x] I).up in1).up in1).up in1).up in1).up in1).up in1).up in1).up in1).up in1 |>.up in1) (fun f hf => ?_)
  have e6 : ∀ (J : TI) (j : Nat) (v : Int32), (up2 J x j v) y = J y := fun J j v => up2_row hy
  simp only [e6]
  match f, hf with
  | 0, _ => simp [up2_at]
  | 1, _ => simp [up2_at]
  | 2, _ => simp [up2_at]
  | 3, _ => simp [up2_at]
  | 4, _ => simp [up2_at]
  | 5, _ => simp [up2_at]
  | 6, _ => simp [up2_at]
  | 7, _ => simp [up2_at]
/-- outside a state's rows nothing has changed -/
def ouI (a : Nat) (I J : TI) : Prop := ∀ k, k < a ∨ a + 30 < k → J k = I k
def ouL (a : Nat) (L M : TL) : Prop := ∀ k, k < a ∨ a + 30 < k → M k = L k
theorem ouI.up {a : Nat} (h : ouI a I J) {k j : Nat} {x : Int32} (hk : a ≤ k ∧ k ≤ a + 30) : ouI a I (up2 J k j x) := fun q hq => by
  rw [up2_row (by omega)]
  exact h q hq
theorem ouI.cp {a : Nat} (h : ouI a I J) {p k n : Nat} (hk : a ≤ k ∧ k ≤ a + 30) : ouI a I (cpy J p k 0 0 n) := fun q hq => by
  rw [cpyr (by omega)]
  exact h q hq
theorem ouL.rf (a : Nat) (L : TL) : ouL a L L := fun _ _ => rfl
theorem ouL.cp {a : Nat} (h : ouL a L M) {p k n : Nat} (hk : a ≤ k ∧ k ≤ a + 30) : ouL a L (cpy M p k 0 0 n) := fun q hq => by
  rw [cpyr (by omega)]
  exact h q hq
theorem s_copyFrom {Q : TI → TL → Prop} {C : CQ} {r : RW} {x y : Nat} (hx : stOK x) (hy : stOK y) (hxy : x ≠ y) (hC : CV C) (hr : RV C B r) (h : SC I L y C r) (k : ∀ J M, ouI x I J → ouL x L M → SC J M x C r → Q J M) : W_X6_copyFrom x y I L Q := by
  have ap := st_apart hx hy hxy
  have hI := hC.1
  have hG := hC.2.1
  have hc := hr.2.2.1
  unfold W_X6_copyFrom
  refine lp2 (fun n v i => L_X6_copyFrom_2 x y L Q n v i) (fun v i => ∃ j, j ≤ 3 ∧ v = nI j ∧ ouI x I i ∧ ∀ w, w < j → ∀ q, q < 16 → i (x + 2 + w) q = I (y + 2 + w) q) (fun v _ => 3 - v.toNatClampNeg) ?_ _ _ ⟨0, Nat.zero_le _, rfl, fun _ _ => rfl, fun w hw => absurd hw (Nat.not_lt_zero _)⟩
  rintro n v i ⟨j, h1, rfl, h2, h3⟩ ih
  refine pk_le 3 j (fun q => ?_) (fun q => ?_) rfl rfl (by omega) (by omega)
  · clear ih
    have ej : j = 3 := by omega
    subst ej
    rintro _ rfl _ rfl _ rfl
    have iy : ∀ q, y ≤ q → q ≤ y + 30 → i q = I q := fun q a c => h2 q (by omega)
    -- the longs
    have M0 : ouL x L (cpy (cpy (cpy (cpy L (y + 5) (x + 5) 0 0 4) (y + 6) (x + 6) 0 0 16) (y + 7) (x + 7) 0 0 16) (y + 8) (x + 8) 0 0 16) := ((((ouL.rf x L).cp (by omega)).cp (by omega)).cp (by omega)).cp (by omega)
    have l5 : ∀ q, q < 4 → (cpy (cpy (cpy (cpy L (y + 5) (x + 5) 0 0 4) (y + 6) (x + 6) 0 0 16) (y + 7) (x + 7) 0 0 16) (y + 8) (x + 8) 0 0 16) (x + 5) q = L (y + 5) q := fun q hq => by
      rw [cpyr (by omega), cpyr (by omega), cpyr (by omega), cpy_b hq]
    have l6 : ∀ q, q < 16 → (cpy (cpy (cpy (cpy L (y + 5) (x + 5) 0 0 4) (y + 6) (x + 6) 0 0 16) (y + 7) (x + 7) 0 0 16) (y + 8) (x + 8) 0 0 16) (x + 6) q = L (y + 6) q := fun q hq => by
      rw [cpyr (by omega), cpyr (by omega), cpy_b hq, cpyr (by omega)]
    have l7 : ∀ q, q < 16 → (cpy (cpy (cpy (cpy L (y + 5) (x + 5) 0 0 4) (y + 6) (x + 6) 0 0 16) (y + 7) (x + 7) 0 0 16) (y + 8) (x + 8) 0 0 16) (x + 7) q = L (y + 7) q := fun q hq => by
      rw [cpyr (by omega), cpy_b hq, cpyr (by omega), cpyr (by omega)]
    have l8 : ∀ q, q < 16 → (cpy (cpy (cpy (cpy L (y + 5) (x + 5) 0 0 4) (y + 6) (x + 6) 0 0 16) (y + 7) (x + 7) 0 0 16) (y + 8) (x + 8) 0 0 16) (x + 8) q = L (y + 8) q := fun q hq => by
      rw [cpy_b hq, cpyr (by omega), cpyr (by omega), cpyr (by omega)]
    generalize cpy (cpy (cpy (cpy L (y + 5) (x + 5) 0 0 4) (y + 6) (x + 6) 0 0 16) (y + 7) (x + 7) 0 0 16) (y + 8) (x + 8) 0 0 16 = M at M0 l5 l6 l7 l8
    -- the ints but for the disputes
    have c7 : (cpy i (y + 9) (x + 9) 0 0 3) y 7 = nI (un (r 4)) := by rw [cpyr (by omega), iy y (by omega) (by omega), h.2.2.1]
    rw [c7]
    have J0 : ouI x I (up2 (cpy i (y + 9) (x + 9) 0 0 3) x 7 (nI (un (r 4)))) := (h2.cp (by omega)).up (by omega)
    have jw : ∀ w, w < 3 → ∀ q, q < 16 → (up2 (cpy i (y + 9) (x + 9) 0 0 3) x 7 (nI (un (r 4)))) (x + 2 + w) q = I (y + 2 + w) q := fun w hw q hq => by
      rw [up2_row (by omega), cpyr (by omega), h3 w hw q hq]
    have jp : ∀ p, p < 3 → (up2 (cpy i (y + 9) (x + 9) 0 0 3) x 7 (nI (un (r 4)))) (x + 9) p = I (y + 9) p := fun p hp => by
      rw [up2_row (by omega), cpy_b hp, iy (y + 9) (by omega) (by omega)]
    have j7 : (up2 (cpy i (y + 9) (x + 9) 0 0 3) x 7 (nI (un (r 4)))) x 7 = nI (un (r 4)) := up2_s
    generalize up2 (cpy i (y + 9) (x + 9) 0 0 3) x 7 (nI (un (r 4))) = i1 at J0 jw jp j7
    clear c7 iy h2 h3 i
    refine lp2 (fun n v i => L_X6_copyFrom_115 x y M Q n v i) (fun v i => ∃ j, j ≤ un (r 4) ∧ v = nI j ∧ ouI x I i ∧ (∀ w, w < 3 → ∀ q, q < 16 → i (x + 2 + w) q = I (y + 2 + w) q) ∧ (∀ p, p < 3 → i (x + 9) p = I (y + 9) p) ∧ i x 7 = nI (un (r 4)) ∧ ∀ e, e < j → ∀ f, f < 8 → i (x + 11 + e) f = I (y + 11 + e) f) (fun v _ => un (r 4) - v.toNatClampNeg) ?_ _ _ ⟨0, Nat.zero_le _, rfl, J0, jw, jp, j7, fun e he => absurd he (Nat.not_lt_zero _)⟩
    clear J0 jw jp j7
    rintro n v i ⟨j, h1, rfl, h2, h3, h4, h5, h6⟩ ih
    refine pk_le (un (r 4)) j (fun q => ?_) (fun q => ?_) h5 rfl (by omega) (by omega)
    · have ej : j = un (r 4) := by omega
      subst ej
      refine k _ _ (h2.up (by omega)) M0 ⟨?_, fun p hp => ?_, ?_, fun n hn => ?_, fun g hg => ?_, fun e he f hf => ?_⟩
      · rw [up2_s, h2 y (by omega), h.1]
      · rw [up2_row (by omega), h4 p hp, h.2.1 p hp]
      · rw [up2_n (Or.inr (by decide)), h5]
      · rw [l5 n (by omega), l6 n (by omega), l7 n (by omega)]
        exact h.2.2.2.1 n hn
      · obtain ⟨q1, q2, q3, q4⟩ := h.2.2.2.2.1 g hg
        rw [l6 _ (by omega), l7 _ (by omega), l8 _ (by omega)]
        refine ⟨q1, q2, q3, fun w hw => ?_⟩
        rw [up2_row (by omega), h3 w hw _ (by omega)]
        exact q4 w hw
      · rw [up2_row (by omega), h6 e he f hf]
        exact h.2.2.2.2.2 e he f hf
    · have e5 : i (y + 11 + j) 5 = dF r j 5 := by
        rw [h2 (y + 11 + j) (by omega)]
        exact h.ds q (by omega)
      rw [pk_cl j rfl (by omega)]
      refine ⟨pk_in j 20 (by omega) rfl, pk_in j 20 (by omega) rfl, ?_⟩
      refine s_copyD (by omega) (by rw [e5]; exact (hr.ds hC q).2.2.2.2.2.2.2.1) (fun J hJ hf => ?_)
      refine ih _ _ ⟨j + 1, by omega, nI_1 j, fun z hz => ?_, fun w hw z hz => ?_, fun p hp => ?_, ?_, fun e he f hf2 => ?_⟩ (by rw [nI_1, nI_clamp (by omega), nI_clamp (by omega)]; omega)
      · rw [hJ z (nin1 (by omega)), h2 z hz]
      · rw [hJ _ (nin1 (by omega)), h3 w hw z hz]
      · rw [hJ _ (nin1 (by omega)), h4 p hp]
      · rw [hJ _ (nin1 (by omega)), h5]
      · by_cases y0 : e = j
        · subst y0
          rw [hf f hf2, h2 (y + 11 + e) (by omega)]
        · rw [hJ _ (nin1 (by omega)), h6 e (by omega) f hf2]
  · rw [pk_cl j rfl (by omega)]
    refine ⟨pk_in j 3 (by omega) rfl, pk_in j 3 (by omega) rfl, ?_⟩
    rintro _ rfl
    refine ih _ _ ⟨j + 1, by omega, nI_1 j, h2.cp (by omega), fun w hw z hz => ?_⟩ (by rw [nI_1, nI_clamp (by omega), nI_clamp (by omega)]; omega)
    by_cases e : w = j
    · subst e
      rw [cpy_b hz, h2 (y + 2 + w) (by omega)]
    · rw [cpyr (by omega), h3 w (by omega) z hz]
/-- the state behind a record -/
def recX (X : XT) : XT := (xC X, xr X, (min (xk X + 1) 10, fun j => if j + (if xk X = 10 then 1 else 0) < xk X then xh X (j + (if xk X = 10 then 1 else 0)) else xr X), X.2.2.2)
def setr (X : XT) (r : RW) : XT := (X.1, r, X.2.2)
theorem recX_V (h : XV X B) : XV (recX X) B := by
  obtain ⟨h1, h2, ⟨h3, h4⟩, h5, h6, h7⟩ := h
  refine ⟨h1, h2, ⟨Nat.min_le_right _ _, fun j hj => ?_⟩, h5, h6, h7⟩
  show RV (xC X) B (if j + (if xk X = 10 then 1 else 0) < xk X then xh X (j + (if xk X = 10 then 1 else 0)) else xr X)
  generalize (if xk X = 10 then 1 else 0) = o
  by_cases q : j + o < xk X
  · rw [if_pos q]
    exact h4 _ q
  · rw [if_neg q]
    exact h2
theorem setr_V (h : XV X B) {r : RW} (hr : RV (xC X) B r) : XV (setr X r) B := ⟨h.1, hr, h.2.2.1, h.2.2.2.1, h.2.2.2.2⟩
def hi2 (L M : TL) : Prop := ∀ k, 436 ≤ k → M k = L k
theorem hs_st {n : Nat} (h : n < 10) : stOK (34 + 31 * n) := by
  show _ ∈ stL
  match n, h with
  | 0, _ => decide
  | 1, _ => decide
  | 2, _ => decide
  | 3, _ => decide
  | 4, _ => decide
  | 5, _ => decide
  | 6, _ => decide
  | 7, _ => decide
  | 8, _ => decide
  | 9, _ => decide
theorem c_record {Q : TI → TL → Prop} (hV : XV X B) (h : CI I L b d X) (k : ∀ J M, CI J M b d (recX X) → hiI I J → hi2 L M → (∀ q, b ≤ q → q ≤ b + 41 → J q = I q ∧ M q = L q) → Q J M) : W_X4_record (b + 6) I L Q := by
  obtain ⟨h1, h2, ⟨h3, nx, h4, h5, h6⟩, h7, h8, h9, h10⟩ := h
  have hb := bn_lt h1.1
  have hx := hs_st h4
  have hk := hV.2.2.1.1
  unfold W_X4_record
  rw [h5, pk_cl nx rfl (by omega)]
  refine ⟨pk_in nx 10 h4 rfl, ?_⟩
  refine s_copyFrom (B := B) hx (bn_st h1.1) (by omega) hV.1 hV.2.1 h2.2.1 (fun J M hJ hM hS => ?_)
  have j1 : J 1 = I 1 := hJ 1 (by omega)
  rw [j1, h5]
  have fin : ∀ s1 : Int32, s1 = nI ((nx + 1) % 10) → B_X4_record_33 (b + 6) s1 J M Q := by
    rintro s1 rfl
    rintro _ rfl
    have e3 : mnI (((up2 J 1 4 (nI ((nx + 1) % 10))) 1 3) + 1) (10 : Int32) = nI (min (xk X + 1) 10) := by
      rw [up2_n (Or.inr (by decide)), j1, h3, nI_1]
      unfold mnI
      rw [show (10 : Int32) = nI 10 from rfl]
      by_cases q : 10 < xk X + 1
      · rw [if_pos (nI_lt q (by omega)), Nat.min_eq_right (by omega)]
      · rw [if_neg (nI_nlt (by omega) (by omega)), Nat.min_eq_left (by omega)]
    rw [e3]
    have fr : ∀ q, q ≠ 1 → (q < 34 + 31 * nx ∨ 34 + 31 * nx + 30 < q) → (up2 (up2 J 1 4 (nI ((nx + 1) % 10))) 1 3 (nI (min (xk X + 1) 10))) q = I q := fun q a c => by
      rw [up2_row a, up2_row a, hJ q c]
    have keepS : ∀ (a : Nat) (s : RW), stOK a → a ≠ 34 + 31 * nx → un (s 4) ≤ 20 → SC I L a (xC X) s → SC (up2 (up2 J 1 4 (nI ((nx + 1) % 10))) 1 3 (nI (min (xk X + 1) 10))) M a (xC X) s := by
      intro a s ha hne hs h0
      have ap := st_apart ha hx hne
      have := stb_lt ha
      exact h0.fr hs (fun q a1 a2 => fr q (by omega) (by omega)) (fun q a1 a2 => hM q (by omega))
    refine k _ M ⟨h1, h2.fr hV.2.1.2.2.1 (fun q a c => fr q (by omega) (by omega)) (fun q a c => hM q (by omega)), ⟨?_, (nx + 1) % 10, Nat.mod_lt _ (by omega), ?_, fun j hj => ?_⟩, ⟨fun q => ?_, fun s hs => ?_⟩, ?_, ?_, ?_⟩ (fun q hq => fr q (by omega) (by omega)) (fun q hq => hM q (by omega)) (fun q a c => ⟨fr q (by omega) (by omega), hM q (by omega)⟩)
    · exact up2_s
    · rw [up2_n (Or.inr (by decide)), up2_s]
    · -- the rows of the ring
      change j < min (xk X + 1) 10 at hj
      show SC _ M (34 + 31 * (((nx + 1) % 10 + 10 - min (xk X + 1) 10 + j) % 10)) (xC X) (if j + (if xk X = 10 then 1 else 0) < xk X then xh X (j + (if xk X = 10 then 1 else 0)) else xr X)
      by_cases q : xk X = 10
      · rw [if_pos q]
        by_cases q2 : j + 1 < xk X
        · rw [if_pos q2, show ((nx + 1) % 10 + 10 - min (xk X + 1) 10 + j) % 10 = (nx + 10 - xk X + (j + 1)) % 10 by omega]
          have hm : (nx + 10 - xk X + (j + 1)) % 10 < 10 := Nat.mod_lt _ (by omega)
          exact keepS _ _ (hs_st hm) (by omega) (hV.2.2.1.2 _ q2).2.2.1 (h6 _ q2)
        · rw [if_neg q2, show ((nx + 1) % 10 + 10 - min (xk X + 1) 10 + j) % 10 = nx by omega]
          exact hS.fr hV.2.1.2.2.1 (fun q a c => by rw [up2_row (by omega), up2_row (by omega)]) (fun _ _ _ => rfl)
      · simp only [if_neg q, Nat.add_zero]
        by_cases q2 : j < xk X
        · rw [if_pos q2, show ((nx + 1) % 10 + 10 - min (xk X + 1) 10 + j) % 10 = (nx + 10 - xk X + j) % 10 by omega]
          have hm : (nx + 10 - xk X + j) % 10 < 10 := Nat.mod_lt _ (by omega)
          exact keepS _ _ (hs_st hm) (by omega) (hV.2.2.1.2 _ q2).2.2.1 (h6 _ q2)
        · rw [if_neg q2, show ((nx + 1) % 10 + 10 - min (xk X + 1) 10 + j) % 10 = nx by omega]
          exact hS.fr hV.2.1.2.2.1 (fun q a c => by rw [up2_row (by omega), up2_row (by omega)]) (fun _ _ _ => rfl)
    · rw [up2_n (Or.inr (by decide)), up2_n (Or.inr (by decide)), j1]
      exact h7.1 q
    · rw [up2_n (Or.inr (by decide)), up2_n (Or.inr (by decide)), j1]
      exact ⟨(h7.2 s hs).1, keepS 3 s (by show _ ∈ stL; decide) (by omega) (hV.2.2.2.1 s hs).2.2.1 (h7.2 s hs).2⟩
    · rw [fr 0 (by omega) (by omega), fr 350 (by omega) (by omega)]
      exact h8
    · rw [fr 0 (by omega) (by omega)]
      exact h9
    · rw [fr 0 (by omega) (by omega), fr 351 (by omega) (by omega)]
      exact h10
  refine ⟨fun q => fin _ ?_, fun q => fin _ ?_⟩
  · have : nx ≠ 9 := fun e => q (by rw [e]; rfl)
    rw [nI_1, Nat.mod_eq_of_lt (by omega)]
  · have : nx = 9 := (nI_eq (by omega) (by omega)).mp q
    subst this
    rfl
end HIST
