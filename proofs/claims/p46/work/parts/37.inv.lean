/-! THE ABSTRACT STATE: waves and paths as functions, what class and reference hold -/
def wv3 (C : CQ) (r : RW) : Nat → (Nat → Int64) × (Nat → Int64) × (Nat → Int64)
  | 0 => (fun n => r (5 + n), fun n => r (5 + n), fun n => r (5 + n))
  | j + 1 => (fun n => if n = cI C + j then shG C r (fun g => r (9 + g)) j (wv3 C r j).1 (drF (cH C) (dl r j 0) (dl r j 1) (idl (cK C j) (cH C) ((wv3 C r j).2.2 (cO C j)) ((wv3 C r j).2.2 (cT C j)))) else (wv3 C r j).1 n,
      fun n => if n = cI C + j then latC C r j (wv3 C r j).2.1 else (wv3 C r j).2.1 n,
      fun n => if n = cI C + j then drF (cH C) (dl r j 0) (dl r j 1) (idl (cK C j) (cH C) ((wv3 C r j).2.2 (cO C j)) ((wv3 C r j).2.2 (cT C j))) else (wv3 C r j).2.2 n)
def shF (C : CQ) (r : RW) : Nat → Int64 := (wv3 C r (cG C)).1
def chF (C : CQ) (r : RW) : Nat → Int64 := (wv3 C r (cG C)).2.1
def deF (C : CQ) (r : RW) : Nat → Int64 := (wv3 C r (cG C)).2.2
theorem wv3_ok {C : CQ} (hC : CV C) (r : RW) : ∀ j, j ≤ cG C → WEqn C r j (wv3 C r j).1 (wv3 C r j).2.1 (wv3 C r j).2.2
  | 0, _ => ⟨fun n _ => ⟨rfl, rfl, rfl⟩, fun g hg => absurd hg (Nat.not_lt_zero _)⟩
  | j + 1, hj => WEqn.step hC hj (wv3_ok hC r j (Nat.le_of_succ_le hj)) rfl rfl rfl (fun _ => rfl) (fun _ => rfl) (fun _ => rfl)
theorem WF_ok {C : CQ} (hC : CV C) (r : RW) : WEq C r (shF C r) (chF C r) (deF C r) := wv3_ok hC r _ (Nat.le_refl _)
theorem WEq.is {C : CQ} {r : RW} {sh ch de : Nat → Int64} (h : WEq C r sh ch de) (hC : CV C) {n : Nat} (hn : n < cI C + cG C) : sh n = shF C r n ∧ ch n = chF C r n ∧ de n = deF C r n := WEqn.one hC _ (Nat.le_refl _) (WF_ok hC r) h n hn
/-- a gate's shown wave, and no bit beyond the horizon -/
theorem lat_inH {H d : Nat} {w : Int64} : inH H (lat H d w) := mkw_inH
theorem drF_inH {H a b : Nat} {w : Int64} : inH H (drF H a b w) := mkw_inH
theorem WF_inH {C : CQ} {r : RW} {B : Nat} (hC : CV C) (hr : RV C B r) {n : Nat} (hn : n < cI C + cG C) : inH (cH C) (shF C r n) ∧ inH (cH C) (chF C r n) ∧ inH (cH C) (deF C r n) := by
  have h := WF_ok hC r
  by_cases q : n < cI C
  · obtain ⟨a, b, c⟩ := h.1 n q
    rw [a, b, c]
    have := hr.2.2.2.1 n q
    exact ⟨this, this, this⟩
  · obtain ⟨g, rfl⟩ : ∃ g, n = cI C + g := ⟨n - cI C, by omega⟩
    have hg : g < cG C := by omega
    obtain ⟨a, b, c⟩ := h.2 g hg
    obtain ⟨h9, h21, hv, -⟩ := hr.2.2.2.2.1 g hg
    rw [c, b, a]
    refine ⟨inH_or (inH_and (inH_or (inH_and lat_inH) ?_)) (inH_and drF_inH), lat_inH, drF_inH⟩
    rw [Int64.and_comm]
    exact inH_and h21
def pth (C : CQ) (r : RW) : Nat → Nat → Nat
  | 0 => fun _ => 0
  | j + 1 => fun n => if n = cI C + j then max (pth C r j (cO C j)) (if cT C j = 16 then 0 else pth C r j (cT C j)) + max (dl r j 0) (dl r j 1) else pth C r j n
def paF (C : CQ) (r : RW) : Nat → Nat := pth C r (cG C)
theorem pth_st (C : CQ) (r : RW) : ∀ (k j : Nat) {n : Nat}, n < cI C + j → pth C r (j + k) n = pth C r j n
  | 0, _, _, _ => rfl
  | k + 1, j, n, h => by
    show (if n = cI C + (j + k) then _ else pth C r (j + k) n) = _
    rw [if_neg (by omega)]
    exact pth_st C r k j h
theorem paF_ok {C : CQ} (hC : CV C) (r : RW) : PEqn C r (cG C) (paF C r) := by
  have hz : ∀ (j n : Nat), n < cI C → pth C r j n = 0 := by
    intro j n hn
    have := pth_st C r j 0 (n := n) (by omega)
    rw [Nat.zero_add] at this
    rw [this]
    rfl
  refine ⟨fun n hn => hz _ n hn, fun g hg => ?_⟩
  obtain ⟨n1, n2, n3, n4⟩ := hC.net hg
  have e : ∀ n, n < cI C + (g + 1) → paF C r n = pth C r (g + 1) n := by
    intro n hn
    have := pth_st C r (cG C - (g + 1)) (g + 1) hn
    rw [show g + 1 + (cG C - (g + 1)) = cG C by omega] at this
    exact this
  have e0 : ∀ n, n < cI C + g → paF C r n = pth C r g n := fun n hn => by
    rw [e n (by omega)]
    exact pth_st C r 1 g hn
  rw [e (cI C + g) (by omega), e0 _ n1]
  show (if cI C + g = cI C + g then _ else _) = _
  rw [if_pos rfl]
  by_cases q : cT C g = 16
  · rw [if_pos q, if_pos q]
  · rw [if_neg q, if_neg q, e0 _ (n2 q)]
/-- circuit, row, history, snapshot, buffer, error, text -/
abbrev XT : Type := CQ × RW × (Nat × (Nat → RW)) × Option RW × (Nat × (Nat → Nat)) × Int32 × (Nat × (Nat → Int32))
def xC (X : XT) : CQ := X.1
def xr (X : XT) : RW := X.2.1
def xk (X : XT) : Nat := X.2.2.1.1
def xh (X : XT) : Nat → RW := X.2.2.1.2
def xs (X : XT) : Option RW := X.2.2.2.1
def xf (X : XT) : Nat := X.2.2.2.2.1.1
def xb (X : XT) : Nat → Nat := X.2.2.2.2.1.2
def xe (X : XT) : Int32 := X.2.2.2.2.2.1
def xl (X : XT) : Nat := X.2.2.2.2.2.2.1
def xt (X : XT) : Nat → Int32 := X.2.2.2.2.2.2.2
/-- a sound state; B bounds the purses -/
def XV (X : XT) (B : Nat) : Prop := CV (xC X) ∧ RV (xC X) B (xr X) ∧ (xk X ≤ 10 ∧ ∀ j, j < xk X → RV (xC X) B (xh X j)) ∧ (∀ s, xs X = some s → RV (xC X) B s) ∧ (xf X ≤ 600 ∧ ∀ i, i < xf X → xb X i < 256) ∧ xl X ≤ 61
/-- a bench: circuit, row, waves -/
def BC (I : TI) (L : TL) (b : Nat) (C : CQ) (r : RW) : Prop := CC I (b + 1) C ∧ SC I L (b + 6) C r ∧ ∀ n, n < cI C + cG C → L (b + 37) n = shF C r n ∧ L (b + 38) n = chF C r n ∧ L (b + 39) n = deF C r n ∧ I (b + 41) n = nI (paF C r n)
/-- the class holds it -/
def CI (I : TI) (L : TL) (b d : Nat) (X : XT) : Prop := (bnOK b ∧ bnOK d ∧ b ≠ d) ∧ BC I L b (xC X) (xr X) ∧ (I 1 3 = nI (xk X) ∧ ∃ nx, nx < 10 ∧ I 1 4 = nI nx ∧ ∀ j, j < xk X → SC I L (34 + 31 * ((nx + 10 - xk X + j) % 10)) (xC X) (xh X j)) ∧ ((xs X = none → I 1 2 = 0) ∧ ∀ s, xs X = some s → I 1 2 = 1 ∧ SC I L 3 (xC X) s) ∧
  (I 0 7 = nI (xf X) ∧ ∀ i, i < xf X → I 350 i = (nI (xb X i)).toInt8.toInt32) ∧ I 0 9 = xe X ∧ (I 0 8 = nI (xl X) ∧ ∀ i, i < xl X → I 351 i = xt X i)
theorem BW.bc {I : TI} {L : TL} {b : Nat} {C : CQ} {r : RW} (hC : CV C) (h : CC I (b + 1) C) (hS : SC I L (b + 6) C r) (hW : BW I L b C r) : BC I L b C r := by
  obtain ⟨h1, pa, h2, h3⟩ := hW
  refine ⟨h, hS, fun n hn => ?_⟩
  obtain ⟨a, b, c⟩ := WEq.is h1 hC hn
  exact ⟨a, b, c, by rw [h3 n hn, PEqn.one hC _ (Nat.le_refl _) (paF_ok hC r) h2 n hn]⟩
/-- frames: below 436 the class' rows, from there on the reference's -/
def lowI (I J : TI) : Prop := ∀ k, k < 436 → J k = I k
def lowL (L M : TL) : Prop := ∀ k, k < 436 → M k = L k
def hiI (I J : TI) : Prop := ∀ k, 436 ≤ k → J k = I k
def hiL (L M : TL) : Prop := ∀ k, 436 ≤ k → k ≠ 456 → M k = L k
theorem BC.fr {I J : TI} {L M : TL} {b : Nat} {C : CQ} {r : RW} (h : BC I L b C r) (hr : un (r 4) ≤ 20) (e : ∀ k, b ≤ k → k ≤ b + 41 → J k = I k) (e2 : ∀ k, b ≤ k → k ≤ b + 41 → M k = L k) : BC J M b C r := by
  obtain ⟨h1, h2, h3⟩ := h
  refine ⟨h1.fr (fun k a c => e k (by omega) (by omega)), h2.fr hr (fun k a c => e k (by omega) (by omega)) (fun k a c => e2 k (by omega) (by omega)), fun n hn => ?_⟩
  rw [e2 (b + 37) (by omega) (by omega), e2 (b + 38) (by omega) (by omega), e2 (b + 39) (by omega) (by omega), e (b + 41) (by omega) (by omega)]
  exact h3 n hn
theorem bn_lt {b : Nat} (h : bnOK b) : 352 ≤ b ∧ b + 41 < 436 := by rcases h with rfl | rfl <;> omega
theorem CI.low {I J : TI} {L M : TL} {b d : Nat} {X : XT} {B : Nat} (h : CI I L b d X) (hV : XV X B) (e : lowI I J) (e2 : lowL L M) : CI J M b d X := by
  obtain ⟨h1, h2, ⟨h3, nx, h4, h5, h6⟩, h7, h8, h9, h10⟩ := h
  have hb := bn_lt h1.1
  refine ⟨h1, h2.fr hV.2.1.2.2.1 (fun k a c => e k (by omega)) (fun k a c => e2 k (by omega)), ⟨by rw [e 1 (by omega)]; exact h3, nx, h4, by rw [e 1 (by omega)]; exact h5, fun j hj => ?_⟩, ⟨fun q => by rw [e 1 (by omega)]; exact h7.1 q, fun s hs => ?_⟩, ?_, by rw [e 0 (by omega)]; exact h9, ?_⟩
  · have hm : (nx + 10 - xk X + j) % 10 < 10 := Nat.mod_lt _ (by omega)
    exact (h6 j hj).fr (hV.2.2.1.2 j hj).2.2.1 (fun k a c => e k (by omega)) (fun k a c => e2 k (by omega))
  · rw [e 1 (by omega)]
    exact ⟨(h7.2 s hs).1, (h7.2 s hs).2.fr (hV.2.2.2.1 s hs).2.2.1 (fun k a c => e k (by omega)) (fun k a c => e2 k (by omega))⟩
  · rw [e 0 (by omega), e 350 (by omega)]
    exact h8
  · rw [e 0 (by omega), e 351 (by omega)]
    exact h10
/-- rows alike at 241 places -/
def rq (r s : RW) : Prop := ∀ i, i < 241 → s i = r i
theorem RV.cg {C : CQ} {B : Nat} {r s : RW} (hC : CV C) (h : RV C B r) (e : rq r s) : RV C B s := by
  obtain ⟨h1, h2, h3, h4, h5, h6⟩ := h
  have hI := hC.1
  have hG := hC.2.1
  refine ⟨by rw [e 0 (by omega)]; exact h1, fun p hp => by rw [e (1 + p) (by omega)]; exact h2 p hp, by rw [e 4 (by omega)]; exact h3, fun n hn => by rw [e (5 + n) (by omega)]; exact h4 n hn, fun g hg => ?_, fun d hd => ?_⟩
  · rw [e (9 + g) (by omega), e (21 + g) (by omega), e (33 + g) (by omega)]
    obtain ⟨a, b, c, f⟩ := h5 g hg
    refine ⟨a, b, c, fun w hw => ?_⟩
    unfold dl
    rw [e (45 + 3 * g + w) (by omega)]
    exact f w hw
  · rw [e 4 (by omega)] at hd
    rw [e (81 + 8 * d) (by omega), e (82 + 8 * d) (by omega), e (83 + 8 * d) (by omega), e (84 + 8 * d) (by omega), e (85 + 8 * d) (by omega), e (86 + 8 * d) (by omega), e (87 + 8 * d) (by omega), e (88 + 8 * d) (by omega)]
    exact h6 d hd
theorem SC.cg {I : TI} {L : TL} {a : Nat} {C : CQ} {B : Nat} {r s : RW} (hC : CV C) (hr : RV C B r) (h : SC I L a C r) (e : rq r s) : SC I L a C s := by
  obtain ⟨h1, h2, h3, h4, h5, h6⟩ := h
  have hI := hC.1
  have hG := hC.2.1
  have hc := hr.2.2.1
  refine ⟨by rw [e 0 (by omega)]; exact h1, fun p hp => by rw [e (1 + p) (by omega)]; exact h2 p hp, by rw [e 4 (by omega)]; exact h3, fun n hn => by rw [e (5 + n) (by omega)]; exact h4 n hn, fun g hg => ?_, fun d hd f hf => ?_⟩
  · rw [e (9 + g) (by omega), e (21 + g) (by omega), e (33 + g) (by omega)]
    obtain ⟨a1, b1, c1, f1⟩ := h5 g hg
    refine ⟨a1, b1, c1, fun w hw => ?_⟩
    unfold dl
    rw [e (45 + 3 * g + w) (by omega)]
    exact f1 w hw
  · rw [e 4 (by omega)] at hd
    rw [e (81 + 8 * d + f) (by omega)]
    exact h6 d hd f hf
