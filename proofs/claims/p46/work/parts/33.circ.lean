/-! THE CIRCUIT AND ITS WAVES: what both classes mean -/
def un (x : Int64) : Nat := x.toBitVec.toNat
theorem un_lt (x : Int64) : un x < 2 ^ 64 := x.toBitVec.isLt
theorem un_e (x : Int64) : x = lN (un x) := Int64.toBitVec_inj.mp (by show _ = BitVec.ofNat 64 _; simp [un])
theorem un_lN {n : Nat} (h : n < 2 ^ 64) : un (lN n) = n := by
  show (BitVec.ofNat 64 n).toNat = n
  rw [BitVec.toNat_ofNat, Nat.mod_eq_of_lt h]
theorem un_i (x : Int64) : x.toInt32 = nI (un x) := by
  conv => lhs; rw [un_e x]
  exact lN_i _
/-- a wave out of its values -/
def mkn (f : Nat → Bool) : Nat → Nat
  | 0 => 0
  | k + 1 => mkn f k + (if f k = true then 2 ^ k else 0)
theorem mkn_lt (f : Nat → Bool) : ∀ k, mkn f k < 2 ^ k
  | 0 => by simp [mkn]
  | k + 1 => by
    have := mkn_lt f k
    show mkn f k + _ < _
    rw [Nat.pow_succ]
    split <;> omega
theorem mkn_tb (f : Nat → Bool) : ∀ (k t : Nat), t < k → (mkn f k).testBit t = f t
  | k + 1, t, h => by
    show (mkn f k + _).testBit t = _
    have hl := mkn_lt f k
    have e : mkn f k + (if f k = true then 2 ^ k else 0) = 2 ^ k * (if f k = true then 1 else 0) + mkn f k := by split <;> omega
    rw [e, Nat.testBit_two_pow_mul_add _ hl]
    by_cases h1 : t < k
    · rw [if_pos h1, mkn_tb f k t h1]
    · have : t = k := by omega
      subst this
      rw [if_neg h1, Nat.sub_self]
      cases f t <;> rfl
def mkw (f : Nat → Bool) : Int64 := lN (mkn f 64)
theorem bw_mkw (f : Nat → Bool) {t : Nat} (h : t < 64) : bw (mkw f) t = f t := by
  unfold mkw
  rw [bw_lN _ h, mkn_tb f 64 t h]
/-- a wave that ends at H -/
def inH (H : Nat) (w : Int64) : Prop := ∀ t, H < t → t < 64 → bw w t = false
theorem mkw_inH {H : Nat} {f : Nat → Bool} : inH H (mkw (fun t => decide (t ≤ H) && f t)) := by
  intro t h1 h2
  rw [bw_mkw _ h2]
  simp [Nat.not_le.mpr h1]
/-- inputs, gates, horizon, rate, fee; of each gate its kind, first net, second net (16: none); of each net the set of the gates it hangs on -/
abbrev CQ : Type := (Nat × Nat × Nat × Nat × Nat) × (Nat → Nat) × (Nat → Nat) × (Nat → Nat) × (Nat → Nat)
def cI (C : CQ) : Nat := C.1.1
def cG (C : CQ) : Nat := C.1.2.1
def cH (C : CQ) : Nat := C.1.2.2.1
def cR (C : CQ) : Nat := C.1.2.2.2.1
def cF (C : CQ) : Nat := C.1.2.2.2.2
def cK (C : CQ) : Nat → Nat := C.2.1
def cO (C : CQ) : Nat → Nat := C.2.2.1
def cT (C : CQ) : Nat → Nat := C.2.2.2.1
def cD (C : CQ) : Nat → Nat := C.2.2.2.2
def tx (n : Nat) : Int32 := if n = 16 then -1 else nI n
/-- what a text lays down is sound -/
def CV (C : CQ) : Prop := (1 ≤ cI C ∧ cI C ≤ 4) ∧ cG C ≤ 12 ∧ (4 ≤ cH C ∧ cH C ≤ 60) ∧ cR C ≤ 9 ∧ cF C ≤ 99 ∧
  (∀ g, g < cG C → cK C g ≤ 6 ∧ cO C g < cI C + g ∧ (cK C g < 5 → cT C g < cI C + g) ∧ (5 ≤ cK C g → cT C g = 16)) ∧
  (∀ n, n < cI C → cD C n = 0) ∧ ∀ g, g < cG C → cD C (cI C + g) = 2 ^ (cI C + g) ||| (cD C (cO C g) ||| (if cT C g = 16 then 0 else cD C (cT C g)))
/-- what the kind of a gate makes of two waves -/
def idl (k H : Nat) (a b : Int64) : Int64 := match k with
  | 0 => a &&& b
  | 1 => a ||| b
  | 2 => a ^^^ b
  | 3 => ((a &&& b) ^^^ (-1)) &&& win 0 H
  | 4 => ((a ||| b) ^^^ (-1)) &&& win 0 H
  | 5 => (a ^^^ (-1)) &&& win 0 H
  | _ => a
theorem idl_u {k H : Nat} (h : 5 ≤ k) (a b c : Int64) : idl k H a b = idl k H a c := by
  match k, h with
  | 5, _ => rfl
  | n + 6, _ => rfl
theorem inH_and {H : Nat} {a b : Int64} (h : inH H a) : inH H (a &&& b) := fun t h1 h2 => by rw [bw_and, h t h1 h2]; rfl
theorem inH_and2 {H : Nat} {a b : Int64} (h : inH H b) : inH H (a &&& b) := fun t h1 h2 => by rw [bw_and, h t h1 h2, Bool.and_false]
theorem inH_or {H : Nat} {a b : Int64} (h : inH H a) (h2 : inH H b) : inH H (a ||| b) := fun t h3 h4 => by rw [bw_or, h t h3 h4, h2 t h3 h4]; rfl
theorem inH_xor {H : Nat} {a b : Int64} (h : inH H a) (h2 : inH H b) : inH H (a ^^^ b) := fun t h3 h4 => by rw [bw_xor, h t h3 h4, h2 t h3 h4]; rfl
theorem inH_win {a b H : Nat} (h : b ≤ H) (h2 : a ≤ b + 1) : inH H (win a b) := fun t h3 h4 => by
  rw [bw_win h2 h4]
  exact decide_eq_false (by omega)
theorem inH_0 {H : Nat} : inH H 0 := fun t _ _ => bw_0 t
theorem idl_inH {k H : Nat} {a b : Int64} (ha : inH H a) (hb : inH H b) : inH H (idl k H a b) := by
  match k with
  | 0 => exact inH_and ha
  | 1 => exact inH_or ha hb
  | 2 => exact inH_xor ha hb
  | 3 => exact inH_and2 (inH_win (Nat.le_refl _) (Nat.zero_le _))
  | 4 => exact inH_and2 (inH_win (Nat.le_refl _) (Nat.zero_le _))
  | 5 => exact inH_and2 (inH_win (Nat.le_refl _) (Nat.zero_le _))
  | n + 6 => exact ha
def lat (H by0 : Nat) (w : Int64) : Int64 := mkw (fun t => decide (t ≤ H) && bw w (t - by0))
def stdy (w : Int64) (t d : Nat) : Prop := d ≤ t ∧ ∀ k, t - d ≤ k → k < t → bw w k = bw w t
theorem stdy_dec (w : Int64) (t d : Nat) : stdy w t d ∨ ¬ stdy w t d := Classical.em _
def stb (w : Int64) (t d : Nat) : Bool := decide (d ≤ t) && (List.range t).all (fun k => decide (k < t - d) || (bw w k == bw w t))
theorem stb_iff {w : Int64} {t d : Nat} : stb w t d = true ↔ stdy w t d := by
  unfold stb stdy
  rw [Bool.and_eq_true, decide_eq_true_eq, List.all_eq_true]
  constructor
  · rintro ⟨h1, h2⟩
    refine ⟨h1, fun k hk hk2 => ?_⟩
    have := h2 k (List.mem_range.mpr hk2)
    simp only [Bool.or_eq_true, decide_eq_true_eq, beq_iff_eq] at this
    rcases this with q | q
    · omega
    · exact q
  · rintro ⟨h1, h2⟩
    refine ⟨h1, fun k hk => ?_⟩
    simp only [Bool.or_eq_true, decide_eq_true_eq, beq_iff_eq]
    by_cases q : k < t - d
    · exact Or.inl q
    · exact Or.inr (h2 k (by omega) (List.mem_range.mp hk))
/-- the value of the dear wave at a time -/
def lvl (w : Int64) (dr df : Nat) : Nat → Bool
  | 0 => bw w 0
  | t + 1 => if stb w (t + 1) (if bw w (t + 1) = true then dr else df) = true then bw w (t + 1) else lvl w dr df t
def drF (H dr df : Nat) (w : Int64) : Int64 := mkw (fun t => decide (t ≤ H) && lvl w dr df t)
abbrev RW : Type := Nat → Int64
def dl (r : RW) (g w : Nat) : Nat := un (r (45 + 3 * g + w))
def latC (C : CQ) (r : RW) (g : Nat) (x : Nat → Int64) : Int64 := lat (cH C) (dl r g 2) (idl (cK C g) (cH C) (x (cO C g)) (x (cT C g)))
def WEqn (C : CQ) (r : RW) (j : Nat) (sh ch de : Nat → Int64) : Prop := (∀ n, n < cI C → sh n = r (5 + n) ∧ ch n = r (5 + n) ∧ de n = r (5 + n)) ∧
  ∀ g, g < j → de (cI C + g) = drF (cH C) (dl r g 0) (dl r g 1) (idl (cK C g) (cH C) (de (cO C g)) (de (cT C g))) ∧ ch (cI C + g) = latC C r g ch ∧
    sh (cI C + g) = (((latC C r g sh &&& (r (21 + g) ^^^ (-1))) ||| (r (33 + g) &&& r (21 + g))) &&& (r (9 + g) ^^^ (-1))) ||| (de (cI C + g) &&& r (9 + g))
def WEq (C : CQ) (r : RW) (sh ch de : Nat → Int64) : Prop := WEqn C r (cG C) sh ch de
theorem CV.net {C : CQ} (h : CV C) {g : Nat} (hg : g < cG C) : cO C g < cI C + g ∧ (cT C g ≠ 16 → cT C g < cI C + g) ∧ (cT C g = 16 → 5 ≤ cK C g) ∧ cI C + g < 16 := by
  have h5 := h.2.2.2.2.2.1 g hg
  have := h.1
  have := h.2.1
  refine ⟨h5.2.1, fun e => ?_, fun e => ?_, by omega⟩
  · rcases Nat.lt_or_ge (cK C g) 5 with q | q
    · exact h5.2.2.1 q
    · exact absurd (h5.2.2.2 q) e
  · rcases Nat.lt_or_ge (cK C g) 5 with q | q
    · have := h5.2.2.1 q
      omega
    · exact q
theorem idl_ext {C : CQ} (hC : CV C) {g : Nat} (hg : g < cG C) {x y : Nat → Int64} (e : ∀ n, n < cI C + g → x n = y n) : idl (cK C g) (cH C) (x (cO C g)) (x (cT C g)) = idl (cK C g) (cH C) (y (cO C g)) (y (cT C g)) := by
  obtain ⟨h1, h2, h3, h4⟩ := hC.net hg
  rw [e _ h1]
  by_cases q : cT C g = 16
  · exact idl_u (h3 q) _ _ _
  · rw [e _ (h2 q)]
theorem latC_ext {C : CQ} (hC : CV C) {r : RW} {g : Nat} (hg : g < cG C) {x y : Nat → Int64} (e : ∀ n, n < cI C + g → x n = y n) : latC C r g x = latC C r g y := by
  unfold latC
  rw [idl_ext hC hg e]
theorem WEqn.ext {C : CQ} {r : RW} {j : Nat} {sh ch de sh2 ch2 de2 : Nat → Int64} (hC : CV C) (hj : j ≤ cG C) (h : WEqn C r j sh ch de) (e : ∀ n, n < cI C + j → sh2 n = sh n ∧ ch2 n = ch n ∧ de2 n = de n) : WEqn C r j sh2 ch2 de2 := by
  refine ⟨fun n hn => ?_, fun g hg => ?_⟩
  · obtain ⟨a, b, c⟩ := e n (by omega)
    rw [a, b, c]
    exact h.1 n hn
  · obtain ⟨a, b, c⟩ := e (cI C + g) (by omega)
    obtain ⟨p, q, s⟩ := h.2 g hg
    have hg2 : g < cG C := by omega
    refine ⟨?_, ?_, ?_⟩
    · rw [c, p, idl_ext hC hg2 (x := de2) (y := de) (fun n hn => (e n (by omega)).2.2)]
    · rw [b, q, latC_ext hC hg2 (x := ch2) (y := ch) (fun n hn => (e n (by omega)).2.1)]
    · rw [a, c, s, latC_ext hC hg2 (x := sh2) (y := sh) (fun n hn => (e n (by omega)).1)]
/-- the waves are settled by the circuit and the row -/
theorem WEqn.one {C : CQ} {r : RW} {sh ch de sh2 ch2 de2 : Nat → Int64} (hC : CV C) : ∀ (j : Nat), j ≤ cG C → WEqn C r j sh ch de → WEqn C r j sh2 ch2 de2 → ∀ n, n < cI C + j → sh2 n = sh n ∧ ch2 n = ch n ∧ de2 n = de n
  | 0, _, h, h2, n, hn => by
    obtain ⟨a, b, c⟩ := h.1 n (by omega)
    obtain ⟨a2, b2, c2⟩ := h2.1 n (by omega)
    rw [a, b, c, a2, b2, c2]
    exact ⟨rfl, rfl, rfl⟩
  | j + 1, hj, h, h2, n, hn => by
    have ih := WEqn.one hC j (by omega) ⟨h.1, fun g hg => h.2 g (by omega)⟩ ⟨h2.1, fun g hg => h2.2 g (by omega)⟩
    by_cases q : n < cI C + j
    · exact ih n q
    · have e : n = cI C + j := by omega
      subst e
      obtain ⟨a, b, c⟩ := h.2 j (by omega)
      obtain ⟨a2, b2, c2⟩ := h2.2 j (by omega)
      have hj2 : j < cG C := by omega
      have d1 : de2 (cI C + j) = de (cI C + j) := by rw [a, a2, idl_ext hC hj2 (x := de2) (y := de) (fun n hn => (ih n hn).2.2)]
      refine ⟨?_, ?_, d1⟩
      · rw [c, c2, d1, latC_ext hC hj2 (x := sh2) (y := sh) (fun n hn => (ih n hn).1)]
      · rw [b, b2, latC_ext hC hj2 (x := ch2) (y := ch) (fun n hn => (ih n hn).2.1)]
/-- what an operation leaves sound: B bounds the purses -/
def RV (C : CQ) (B : Nat) (r : RW) : Prop := (1 ≤ un (r 0) ∧ un (r 0) ≤ 20) ∧ (∀ p, p < 3 → un (r (1 + p)) ≤ B) ∧ un (r 4) ≤ 20 ∧ (∀ n, n < cI C → inH (cH C) (r (5 + n))) ∧
  (∀ g, g < cG C → inH (cH C) (r (9 + g)) ∧ inH (cH C) (r (21 + g)) ∧ (r (33 + g) &&& r (21 + g)) = r (33 + g) ∧ ∀ w, w < 3 → 1 ≤ dl r g w ∧ dl r g w ≤ 9) ∧
  ∀ d, d < un (r 4) → (∃ g, g < cG C ∧ r (81 + 8 * d) = lN (cI C + g)) ∧ (∃ a b, 1 ≤ a ∧ a ≤ b ∧ b < cH C ∧ r (82 + 8 * d) = lN a ∧ r (83 + 8 * d) = lN b) ∧ (r (84 + 8 * d) = 0 ∨ r (84 + 8 * d) = 1) ∧ (r (85 + 8 * d) = 0 ∨ r (85 + 8 * d) = 1) ∧ (r (86 + 8 * d) = 0 ∨ r (86 + 8 * d) = 1) ∧ (∃ s, s ≤ 4 ∧ r (87 + 8 * d) = lN s) ∧ ((r (88 + 8 * d) = -1 ∧ r (87 + 8 * d) ≠ 1) ∨ r (88 + 8 * d) = 0 ∨ r (88 + 8 * d) = 1)
theorem up2_at {α : Type} {f : Nat → Nat → α} {k j i : Nat} {x : α} : up2 f k j x k i = if i = j then x else f k i := by
  by_cases h : i = j
  · subst h
    rw [up2_s, if_pos rfl]
  · rw [up2_n (Or.inr h), if_neg h]
theorem WEqn.step {C : CQ} {r : RW} {j : Nat} {sh ch de sh2 ch2 de2 : Nat → Int64} {D E S : Int64} (hC : CV C) (hj : j < cG C) (h : WEqn C r j sh ch de)
    (hD : D = drF (cH C) (dl r j 0) (dl r j 1) (idl (cK C j) (cH C) (de (cO C j)) (de (cT C j)))) (hE : E = latC C r j ch)
    (hS : S = (((latC C r j sh &&& (r (21 + j) ^^^ (-1))) ||| (r (33 + j) &&& r (21 + j))) &&& (r (9 + j) ^^^ (-1))) ||| (D &&& r (9 + j)))
    (a : ∀ n, sh2 n = if n = cI C + j then S else sh n) (b : ∀ n, ch2 n = if n = cI C + j then E else ch n) (c : ∀ n, de2 n = if n = cI C + j then D else de n) : WEqn C r (j + 1) sh2 ch2 de2 := by
  have e : ∀ n, n < cI C + j → sh2 n = sh n ∧ ch2 n = ch n ∧ de2 n = de n := fun n hn => by
    rw [a, b, c, if_neg (by omega), if_neg (by omega), if_neg (by omega)]
    exact ⟨rfl, rfl, rfl⟩
  have hx := h.ext hC (Nat.le_of_lt hj) e
  refine ⟨hx.1, fun g hg => ?_⟩
  by_cases q : g < j
  · exact hx.2 g q
  · have e2 : g = j := by omega
    subst e2
    rw [a (cI C + g), b (cI C + g), c (cI C + g), if_pos rfl, if_pos rfl, if_pos rfl]
    refine ⟨?_, ?_, ?_⟩
    · rw [hD, idl_ext hC hj (x := de2) (y := de) (fun n hn => (e n hn).2.2)]
    · rw [hE, latC_ext hC hj (x := ch2) (y := ch) (fun n hn => (e n hn).2.1)]
    · rw [hS, latC_ext hC hj (x := sh2) (y := sh) (fun n hn => (e n hn).1)]
