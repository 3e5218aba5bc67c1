/-! the reference's tokens -/
section RTOK
variable {I J : TI} {L M : TL}
def TR (I : TI) (L : TL) (c : Nat → Nat) (ln : Nat) (S : PS) : Prop := (I 436 23 = nI ln ∧ I 436 24 = nI (te S) ∧ I 436 25 = nI (ts S) ∧ I 436 26 = nI (tk S) ∧ (tk S = 2 → ∃ m, I 436 27 = nI m ∧ m < 2 ^ 31 ∧ (m = numF c S ∨ (9999999 < m ∧ m ≤ numF c S))) ∧ (tk S = 1 → L 436 28 = lN (hsF c (ts S) (min (te S - ts S) 10))) ∧ I 436 29 = nI (er S) ∧ I 436 30 = ep S) ∧ ∀ i, i < ln → I 447 i = nI (c i)
/-- what a token leaves -/
def tI (I J : TI) : Prop := (∀ q, q ≠ 436 → J q = I q) ∧ ∀ j, (j < 24 ∨ 28 < j) → J 436 j = I 436 j
def tL (L M : TL) : Prop := ∀ q, q ≠ 436 → M q = L q
theorem tI.up {r : Nat} {x : Int32} (h : tI I J) (h1 : 24 ≤ r) (h2 : r ≤ 28) : tI I (up2 J 436 r x) := ⟨fun q hq => by rw [up2_row hq]; exact h.1 q hq, fun j hj => by rw [up2_n (Or.inr (by omega))]; exact h.2 j hj⟩
theorem s_byteAt {Q : Int32 → Prop} {c : Nat → Nat} {ln p : Nat} {x : Int32} (hc : txV c ln) (h : I 436 23 = nI ln) (ht : ∀ i, i < ln → I 447 i = nI (c i)) (hx : x = nI p) (hp : p ≤ ln) (k0 : ln ≤ p → Q (-1)) (k1 : p < ln → Q (nI (c p))) : W_X9_byteAt x I L Q := by
  subst hx
  have := hc.1
  unfold W_X9_byteAt
  refine pk_le ln p k0 (fun q => ?_) h rfl (by omega) (by omega)
  rw [pk_cl p rfl (by omega), ht p q]
  exact ⟨pk_in p 600 (by omega) rfl, k1 q⟩
theorem s_letter9 {Q : Int32 → Prop} {b : Nat} {x : Int32} (hx : x = nI b) (hb : b < 256) (k0 : ¬ (97 ≤ b ∧ b ≤ 122) → Q 0) (k1 : 97 ≤ b ∧ b ≤ 122 → Q 1) : W_X9_isLetter x I L Q := by
  unfold W_X9_isLetter
  exact pk_lt b 97 (fun q => k0 (by omega)) (fun q => pk_lt 122 b (fun q2 => k0 (by omega)) (fun q2 => k1 (by omega)) rfl hx (by omega) (by omega)) hx rfl (by omega) (by omega)
theorem s_figure9 {Q : Int32 → Prop} {b : Nat} {x : Int32} (hx : x = nI b) (hb : b < 256) (k0 : ¬ (48 ≤ b ∧ b ≤ 57) → Q 0) (k1 : 48 ≤ b ∧ b ≤ 57 → Q 1) : W_X9_isFigure x I L Q := by
  unfold W_X9_isFigure
  exact pk_lt b 48 (fun q => k0 (by omega)) (fun q => pk_lt 57 b (fun q2 => k0 (by omega)) (fun q2 => k1 (by omega)) rfl hx (by omega) (by omega)) hx rfl (by omega) (by omega)
theorem s_letterM {Q : Int32 → Prop} (k0 : Q 0) : W_X9_isLetter (-1) I L Q := by
  unfold W_X9_isLetter
  exact ⟨fun _ => k0, fun z => absurd (by decide) z⟩
theorem s_figureM {Q : Int32 → Prop} (k0 : Q 0) : W_X9_isFigure (-1) I L Q := by
  unfold W_X9_isFigure
  exact ⟨fun _ => k0, fun z => absurd (by decide) z⟩
theorem m_readsNumber {Q : TI → Prop} {c : Nat → Nat} {ln p : Nat} (hc : txV c ln) (h23 : I 436 23 = nI ln) (h24 : I 436 24 = nI p) (hp : p ≤ ln) (ht : ∀ i, i < ln → I 447 i = nI (c i)) (k : ∀ J m, tI I J → (∀ j, j ≠ 24 → j ≠ 26 → j ≠ 27 → J 436 j = I 436 j) → J 436 24 = nI (runT (dgB c) ln p) → J 436 26 = 2 → J 436 27 = nI m → m < 2 ^ 31 → (m = nvF c p (runT (dgB c) ln p - p) ∨ (9999999 < m ∧ m ≤ nvF c p (runT (dgB c) ln p - p))) → Q J) : W_X9_readsNumber I L Q := by
  have hl := hc.1
  unfold W_X9_readsNumber
  have i0 : tI I (up2 I 436 27 0) := (show tI I I from ⟨fun _ _ => rfl, fun _ _ => rfl⟩).up (by omega) (by omega)
  refine lp1 (fun n i => L_X9_readsNumber_5 L Q n i) (fun i => ∃ q v, p ≤ q ∧ q ≤ ln ∧ tI I i ∧ (∀ j, j ≠ 24 → j ≠ 26 → j ≠ 27 → i 436 j = I 436 j) ∧ i 436 24 = nI q ∧ runT (dgB c) ln p = runT (dgB c) ln q ∧ i 436 27 = nI v ∧ v ≤ 100000000 ∧ (v = nvF c p (q - p) ∨ (9999999 < v ∧ v ≤ nvF c p (q - p)))) (fun i => ln - (i 436 24).toNatClampNeg) ?_ _ ⟨p, 0, Nat.le_refl _, hp, i0, fun j _ _ y => up2_n (Or.inr y), by rw [up2_n (Or.inr (by decide))]; exact h24, rfl, up2_s, by omega, Or.inl (by rw [Nat.sub_self]; rfl)⟩
  rintro n i ⟨q, v, q1, q2, qi, qj, u24, ur, u27, v1, v2⟩ ih
  have e23 : i 436 23 = nI ln := by rw [qj 23 (by decide) (by decide) (by decide), h23]
  have et : ∀ x, x < ln → i 447 x = nI (c x) := fun x hx => by rw [qi.1 447 (by decide)]; exact ht x hx
  have done : runT (dgB c) ln q = q → Q (up2 i 436 26 2) := by
    intro z
    rw [z] at ur
    refine k _ v (qi.up (by omega) (by omega)) (fun j y1 y2 y3 => by rw [up2_n (Or.inr y2)]; exact qj j y1 y2 y3) (by rw [up2_n (Or.inr (by decide)), ur]; exact u24) up2_s (by rw [up2_n (Or.inr (by decide))]; exact u27) (by omega) (by rw [ur]; exact v2)
  show D_X9_readsNumber_5 L Q (fun I => L_X9_readsNumber_5 L Q n I) i
  unfold D_X9_readsNumber_5
  refine s_byteAt hc e23 et u24 q2 (fun z => by refine s_figureM ?_; exact ⟨fun _ => done (runT_e z), fun y => absurd rfl y⟩) (fun z => ?_)
  have cb := hc.2 q z
  refine s_figure9 rfl cb (fun y => ⟨fun _ => done (runT_0 (by unfold dgB; exact decide_eq_false y)), fun y2 => absurd rfl y2⟩) (fun y => ⟨fun y2 => absurd y2 (by decide), fun _ => ?_⟩)
  have hd : dgB c q = true := by unfold dgB; exact decide_eq_true y
  have nv : nvF c p (q + 1 - p) = 10 * nvF c p (q - p) + (c q - 48) := by
    rw [show q + 1 - p = (q - p) + 1 by omega]
    show 10 * nvF c p (q - p) + (c (p + (q - p)) - 48) = _
    rw [show p + (q - p) = q by omega]
  have nx : ∀ w, w ≤ 100000000 → (w = nvF c p (q + 1 - p) ∨ (9999999 < w ∧ w ≤ nvF c p (q + 1 - p))) → B_X9_readsNumber_56 (nI w) i L Q (fun I => L_X9_readsNumber_5 L Q n I) := by
    intro w w1 w2
    unfold B_X9_readsNumber_56
    rintro _ rfl
    have e24 : (up2 i 436 27 (nI w)) 436 24 = nI q := by rw [up2_n (Or.inr (by decide))]; exact u24
    rw [e24, nI_1]
    refine ih _ ⟨q + 1, w, by omega, by omega, (qi.up (by omega) (by omega)).up (by omega) (by omega), fun j y1 y2 y3 => by rw [up2_n (Or.inr y1), up2_n (Or.inr y3)]; exact qj j y1 y2 y3, up2_s, by rw [ur]; exact runT_1 z hd, by rw [up2_n (Or.inr (by decide)), up2_s], w1, w2⟩ (by rw [up2_s, u24, nI_clamp (by omega), nI_clamp (by omega)]; omega)
  rw [u24, u27, pk_cl q rfl (by omega), et q z]
  refine pk_le v 9999999 (fun y3 => ⟨pk_in q 600 (by omega) rfl, ?_⟩) (fun y3 => ?_) rfl rfl (by omega) (by omega)
  · have : ((10 : Int32) * nI v + nI (c q)) - 48 = nI (10 * v + (c q - 48)) := by
      rw [show (10 : Int32) = nI 10 from rfl, pk_mul, nI_add, show (48 : Int32) = nI 48 from rfl, pk_sub (by omega)]
      congr 1
      omega
    rw [this]
    exact nx _ (by omega) (by rw [nv]; omega)
  · exact nx v v1 (by rw [nv]; omega)
theorem m_readsWord {Q : TI → TL → Prop} {c : Nat → Nat} {ln p : Nat} (hc : txV c ln) (h23 : I 436 23 = nI ln) (h24 : I 436 24 = nI p) (h25 : I 436 25 = nI p) (hp : p ≤ ln) (ht : ∀ i, i < ln → I 447 i = nI (c i)) (k : ∀ J M, tI I J → tL L M → (∀ j, j ≠ 24 → j ≠ 26 → J 436 j = I 436 j) → J 436 24 = nI (runT (ltB c) ln p) → J 436 26 = 1 → M 436 28 = lN (hsF c p (min (runT (ltB c) ln p - p) 10)) → Q J M) : W_X9_readsWord I L Q := by
  have hl := hc.1
  unfold W_X9_readsWord
  refine lp2 (fun n i l => L_X9_readsWord_5 Q n i l) (fun i l => ∃ q, p ≤ q ∧ q ≤ ln ∧ tI I i ∧ tL L l ∧ (∀ j, j ≠ 24 → i 436 j = I 436 j) ∧ i 436 24 = nI q ∧ runT (ltB c) ln p = runT (ltB c) ln q ∧ l 436 28 = lN (hsF c p (min (q - p) 10))) (fun i _ => ln - (i 436 24).toNatClampNeg) ?_ _ _ ⟨p, Nat.le_refl _, hp, ⟨fun _ _ => rfl, fun _ _ => rfl⟩, fun q hq => up2_row hq, fun _ _ => rfl, h24, rfl, by rw [up2_s, Nat.sub_self]; rfl⟩
  rintro n i l ⟨q, q1, q2, qi, ql, qj, u24, ur, u28⟩ ih
  have e23 : i 436 23 = nI ln := by rw [qj 23 (by decide), h23]
  have e25 : i 436 25 = nI p := by rw [qj 25 (by decide), h25]
  have et : ∀ x, x < ln → i 447 x = nI (c x) := fun x hx => by rw [qi.1 447 (by decide)]; exact ht x hx
  have done : runT (ltB c) ln q = q → Q (up2 i 436 26 1) l := by
    intro z
    rw [z] at ur
    refine k _ l (qi.up (by omega) (by omega)) ql (fun j y1 y2 => by rw [up2_n (Or.inr y2)]; exact qj j y1) (by rw [up2_n (Or.inr (by decide)), ur]; exact u24) up2_s (by rw [ur]; exact u28)
  show D_X9_readsWord_5 Q (fun I L => L_X9_readsWord_5 Q n I L) i l
  unfold D_X9_readsWord_5
  refine s_byteAt hc e23 et u24 q2 (fun z => by refine s_letterM ?_; exact ⟨fun _ => done (runT_e z), fun y => absurd rfl y⟩) (fun z => ?_)
  have cb := hc.2 q z
  refine s_letter9 rfl cb (fun y => ⟨fun _ => done (runT_0 (by unfold ltB; exact decide_eq_false y)), fun y2 => absurd rfl y2⟩) (fun y => ⟨fun y2 => absurd y2 (by decide), fun _ => ?_⟩)
  have hd : ltB c q = true := by unfold ltB; exact decide_eq_true y
  have nx : ∀ l2, tL L l2 → l2 436 28 = lN (hsF c p (min (q + 1 - p) 10)) → B_X9_readsWord_60 i l2 Q (fun I L => L_X9_readsWord_5 Q n I L) := by
    intro l2 h1 h2
    unfold B_X9_readsWord_60
    rw [u24, nI_1]
    refine ih _ _ ⟨q + 1, by omega, by omega, qi.up (by omega) (by omega), h1, fun j y1 => by rw [up2_n (Or.inr y1)]; exact qj j y1, up2_s, by rw [ur]; exact runT_1 z hd, h2⟩ (by rw [up2_s, u24, nI_clamp (by omega), nI_clamp (by omega)]; omega)
  rw [u24, e25, pk_sub q1, pk_cl q rfl (by omega), et q z, u28]
  refine pk_le 10 (q - p) (fun y3 => nx l ql (by rw [u28, Nat.min_eq_right (by omega), Nat.min_eq_right (by omega)])) (fun y3 => ⟨pk_in q 600 (by omega) rfl, ?_⟩) rfl rfl (by omega) (by omega)
  rintro _ rfl
  refine nx _ (fun q3 h3 => by rw [up2_row h3]; exact ql q3 h3) ?_
  rw [up2_s, Nat.min_eq_left (by omega), Nat.min_eq_left (by omega), show q + 1 - p = (q - p) + 1 by omega, show (27 : Int64) = lN 27 from rfl, lN_mul, nI_l (by omega), lN_add, show (96 : Int64) = lN 96 from rfl, lN_sub (by omega)]
  show _ = lN (27 * hsF c p (q - p) + (c (p + (q - p)) - 96))
  rw [show p + (q - p) = q by omega]
  congr 1
  omega
end RTOK
