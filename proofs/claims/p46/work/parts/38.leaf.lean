/-! ranges, checks, waves by kind: both classes -/
def rg (x : Int32) (a c : Nat) : Prop := ∃ n, a ≤ n ∧ n < c ∧ x = nI n
theorem wide_lt (a b : Int32) : a.toInt64 < b.toInt64 ↔ a < b := by rw [Int64.lt_iff_toInt_lt, Int32.lt_iff_toInt_lt, Int32.toInt_toInt64, Int32.toInt_toInt64]
theorem wide_le (a b : Int32) : a.toInt64 ≤ b.toInt64 ↔ a ≤ b := by rw [Int64.le_iff_toInt_le, Int32.le_iff_toInt_le, Int32.toInt_toInt64, Int32.toInt_toInt64]
theorem wide_eq (a b : Int32) : a.toInt64 = b.toInt64 ↔ a = b := by rw [← Int64.toInt_inj, ← Int32.toInt_inj, Int32.toInt_toInt64, Int32.toInt_toInt64]
theorem rg_iff {x : Int32} {a c : Nat} (ha : a < 2 ^ 31) (hc : c < 2 ^ 31) : rg x a c ↔ nI a ≤ x ∧ x < nI c := by
  constructor
  · rintro ⟨n, h1, h2, rfl⟩
    exact ⟨nI_le h1 (by omega), nI_lt h2 hc⟩
  · rintro ⟨h1, h2⟩
    have h0 : ¬ x < 0 := by
      intro q
      rw [Int32.lt_iff_toInt_lt] at q
      rw [Int32.le_iff_toInt_le, nI_toInt ha] at h1
      have : (0 : Int32).toInt = 0 := rfl
      omega
    obtain ⟨j, hj, rfl⟩ := nI_of h0
    exact ⟨j, (nI_leI ha hj).mp h1, (nI_ltI hj hc).mp h2, rfl⟩
theorem rg_no {x : Int32} {a c : Nat} (ha : a < 2 ^ 31) (hc : c < 2 ^ 31) (h : ¬ rg x a c) : x < nI a ∨ nI c ≤ x := by
  rw [rg_iff ha hc] at h
  rw [Int32.lt_iff_toInt_lt, Int32.le_iff_toInt_le] at *
  omega
theorem lt_nle {a b : Int32} : ¬ a < b ↔ b ≤ a := by rw [Int32.lt_iff_toInt_lt, Int32.le_iff_toInt_le]; omega
theorem le_nlt {a b : Int32} : ¬ a ≤ b ↔ b < a := by rw [Int32.lt_iff_toInt_lt, Int32.le_iff_toInt_le]; omega
theorem lt_le_f {a b : Int32} (h : a < b) : ¬ b ≤ a := le_nlt.mpr h
theorem up2_u {α : Type} {f : Nat → Nat → α} {k j : Nat} {x y : α} : up2 (up2 f k j x) k j y = up2 f k j y := by
  funext a i
  by_cases h : a = k ∧ i = j
  · obtain ⟨rfl, rfl⟩ := h
    rw [up2_s, up2_s]
  · have h2 : a ≠ k ∨ i ≠ j := by omega
    rw [up2_n h2, up2_n h2, up2_n h2]
def wvF (C : CQ) (r : RW) (k n : Nat) : Int64 := if k = 0 then shF C r n else if k = 1 then chF C r n else deF C r n
/-! the class -/
theorem s_hasNet {I : TI} {L : TL} {Q : Int32 → Prop} {C : CQ} {c : Nat} {x : Int32} (h : CC I c C) (hC : CV C) (h1 : rg x 0 (cI C + cG C) → Q 1) (h0 : ¬ rg x 0 (cI C + cG C) → Q 0) : W_X2_hasNet c x I L Q := by
  have := hC.1
  have := hC.2.1
  have key := rg_iff (x := x) (a := 0) (c := cI C + cG C) (by omega) (by omega)
  unfold W_X2_hasNet
  refine ⟨fun e => h0 (fun q => lt_le_f e (key.mp q).1), fun e => s_nets2 h ⟨fun e2 => h0 (fun q => lt_le_f (key.mp q).2 e2), fun e2 => h1 (key.mpr ⟨lt_nle.mp e, le_nlt.mp e2⟩)⟩⟩
theorem s_hasGate {I : TI} {L : TL} {Q : Int32 → Prop} {C : CQ} {c : Nat} {x : Int32} (h : CC I c C) (hC : CV C) (h1 : rg x (cI C) (cI C + cG C) → Q 1) (h0 : ¬ rg x (cI C) (cI C + cG C) → Q 0) : W_X2_hasGate c x I L Q := by
  have := hC.1
  have := hC.2.1
  have key := rg_iff (x := x) (a := cI C) (c := cI C + cG C) (by omega) (by omega)
  unfold W_X2_hasGate
  rw [h.1]
  refine ⟨fun e => h0 (fun q => lt_le_f e (key.mp q).1), fun e => s_nets2 h ⟨fun e2 => h0 (fun q => lt_le_f (key.mp q).2 e2), fun e2 => h1 (key.mpr ⟨lt_nle.mp e, le_nlt.mp e2⟩)⟩⟩
theorem s_hasTime {I : TI} {L : TL} {Q : Int32 → Prop} {C : CQ} {c : Nat} {x : Int32} (h : CC I c C) (hC : CV C) (h1 : rg x 0 (cH C + 1) → Q 1) (h0 : ¬ rg x 0 (cH C + 1) → Q 0) : W_X2_hasTime c x I L Q := by
  have := hC.2.2.1
  have key := rg_iff (x := x) (a := 0) (c := cH C + 1) (by omega) (by omega)
  have k2 : x < nI (cH C + 1) ↔ ¬ nI (cH C) < x := by
    rw [lt_nle, Int32.lt_iff_toInt_lt, Int32.le_iff_toInt_le, nI_toInt (by omega), nI_toInt (by omega)]
    omega
  unfold W_X2_hasTime
  rw [h.2.2.1]
  refine ⟨fun e => h0 (fun q => lt_le_f e (key.mp q).1), fun e => ⟨fun e2 => h0 (fun q => k2.mp (key.mp q).2 e2), fun e2 => h1 (key.mpr ⟨lt_nle.mp e, k2.mpr e2⟩)⟩⟩
def NSE : String := "java/util/NoSuchElementException"
def IAE : String := "java/lang/IllegalArgumentException"
theorem s_requireNet {I : TI} {L : TL} {Q : Prop} {QX : String → Prop} {C : CQ} {b d : Nat} {x : Int32} (h : CC I (b + 1) C) (hC : CV C) (h1 : rg x 0 (cI C + cG C) → Q) (h0 : ¬ rg x 0 (cI C + cG C) → QX NSE) : W_X8_requireNet x I L b d Q QX := by
  unfold W_X8_requireNet
  exact s_hasNet h hC (fun e => ⟨fun _ => h1 e, fun q => absurd q (by decide)⟩) (fun e => ⟨fun q => absurd rfl q, fun _ => h0 e⟩)
theorem s_requireGate {I : TI} {L : TL} {Q : Prop} {QX : String → Prop} {C : CQ} {b d : Nat} {x : Int32} (h : CC I (b + 1) C) (hC : CV C) (h1 : rg x (cI C) (cI C + cG C) → Q) (h0 : ¬ rg x (cI C) (cI C + cG C) → QX NSE) : W_X8_requireGate x I L b d Q QX := by
  unfold W_X8_requireGate
  exact s_hasGate h hC (fun e => ⟨fun _ => h1 e, fun q => absurd q (by decide)⟩) (fun e => ⟨fun q => absurd rfl q, fun _ => h0 e⟩)
theorem rg3 {y : Int32} (h : rg y 0 3) : y = 0 ∨ y = 1 ∨ y = 2 := by
  obtain ⟨n, _, h2, rfl⟩ := h
  match n, h2 with
  | 0, _ => exact Or.inl rfl
  | 1, _ => exact Or.inr (Or.inl rfl)
  | 2, _ => exact Or.inr (Or.inr rfl)
theorem s_requireWave {I : TI} {L : TL} {Q : Int64 → Prop} {QX : String → Prop} {C : CQ} {r : RW} {b d : Nat} {x y : Int32} (h : BC I L b C r) (hC : CV C) (h1 : ∀ n m, n < cI C + cG C → m < 3 → x = nI n → y = nI m → Q (wvF C r m n)) (h0 : ¬ (rg x 0 (cI C + cG C) ∧ rg y 0 3) → QX NSE) : W_X8_requireWave x y I L b d Q QX := by
  have := hC.1
  have := hC.2.1
  unfold W_X8_requireWave
  refine s_requireNet h.1 hC (fun e => ?_) (fun e => h0 (fun q => e q.1))
  obtain ⟨n, _, hn, rfl⟩ := e
  obtain ⟨a, b2, c, _⟩ := h.2.2 n hn
  have vn : vp_in (nI n) 16 := pk_in n 16 (by omega) rfl
  rw [pk_cl n rfl (by omega), a, b2, c]
  have key := rg_iff (x := y) (a := 0) (c := 3) (by omega) (by omega)
  refine ⟨fun e => ⟨vn, h1 n 0 hn (by omega) rfl e⟩, fun e => ⟨vn, h1 n 1 hn (by omega) rfl e⟩, fun e => ⟨vn, h1 n 2 hn (by omega) rfl e⟩, fun e => h0 (fun q => ?_)⟩
  rcases rg3 q.2 with rfl | rfl | rfl <;> revert e <;> decide
/-! what a read-only call leaves -/
def roI (I J : TI) : Prop := (∀ k, k ≠ 436 → k ≠ 451 → J k = I k) ∧ ∀ j, j ≠ 0 → j ≠ 18 → j ≠ 19 → j ≠ 20 → J 436 j = I 436 j
def roL (L M : TL) : Prop := ∀ k, k ≠ 444 → k ≠ 445 → k ≠ 446 → k ≠ 456 → M k = L k
theorem roI.rf (I : TI) : roI I I := ⟨fun _ _ _ => rfl, fun _ _ _ _ _ => rfl⟩
theorem roL.rf (L : TL) : roL L L := fun _ _ _ _ _ => rfl
theorem roI.tr {I J K : TI} (h : roI I J) (h2 : roI J K) : roI I K := ⟨fun k a b => (h2.1 k a b).trans (h.1 k a b), fun j a b c d => (h2.2 j a b c d).trans (h.2 j a b c d)⟩
theorem roL.tr {L M N : TL} (h : roL L M) (h2 : roL M N) : roL L N := fun k a b c d => (h2 k a b c d).trans (h k a b c d)
theorem roI.up {I J : TI} (h : roI I J) {j : Nat} {x : Int32} (hj : j = 0 ∨ j = 18 ∨ j = 19 ∨ j = 20) : roI I (up2 J 436 j x) := by
  refine ⟨fun k a b => by rw [up2_row a]; exact h.1 k a b, fun i a b c d => ?_⟩
  rw [up2_n (Or.inr (by omega))]
  exact h.2 i a b c d
theorem roL.out {L M : TL} (h : roL L M) {x : Int64} : roL L (up2 M 456 0 x) := fun k a b c d => by rw [up2_row d]; exact h k a b c d
theorem roL.wv {L M : TL} (h : sameL wvS L M) : roL L M := fun k a b c _ => h k (nin3 a b c)
def INV (I : TI) (L : TL) (b d : Nat) (X : XT) (B : Nat) : Prop := XV X B ∧ True ∧ CI I L b d X
/-- how a call of the law ends: what was thrown, what was answered, the state behind it -/
def OK (k : Int32) (r : Int32) (J : TI) (M : TL) (b d : Nat) (X : XT) (B : Nat) : Prop := J 436 0 = k ∧ (k = 0 → M 456 0 = r.toInt64) ∧ INV J M b d X B
theorem up2_s2 {α : Type} {f : Nat → Nat → α} {k j : Nat} {x : α} : up2 f k j x k j = x := up2_s
