/-! what a text lays down, and how the class reads it -/
section RGATE
variable {I J : TI} {L M : TL} {d : Nat}
abbrev ZT : Type := CQ × RW
def adI (Z : ZT) (w : Int64) : ZT := (((cI Z.1 + 1, cG Z.1, cH Z.1, cR Z.1, cF Z.1), Z.1.2), upR Z.2 (5 + cI Z.1) w)
def adG (Z : ZT) (k o t d0 d1 d2 : Nat) : ZT := (((cI Z.1, cG Z.1 + 1, cH Z.1, cR Z.1, cF Z.1), (fun g => if g = cG Z.1 then k else cK Z.1 g), (fun g => if g = cG Z.1 then o else cO Z.1 g), (fun g => if g = cG Z.1 then t else cT Z.1 g), (fun n => if n = cI Z.1 + cG Z.1 then 2 ^ (cI Z.1 + cG Z.1) ||| (cD Z.1 o ||| (if t = 16 then 0 else cD Z.1 t)) else cD Z.1 n)), upR (upR (upR Z.2 (45 + 3 * cG Z.1 + 0) (lN d0)) (45 + 3 * cG Z.1 + 1) (lN d1)) (45 + 3 * cG Z.1 + 2) (lN d2))
/-- the class holds what is laid down so far -/
def KC (I : TI) (L : TL) (d : Nat) (Z : ZT) : Prop := CC I (d + 1) Z.1 ∧ SC I L (d + 6) Z.1 Z.2 ∧ (∀ n, cI Z.1 + cG Z.1 ≤ n → n < 16 → I (d + 5) n = 0 ∧ cD Z.1 n = 0) ∧ (∀ n, n < 16 → L (d + 12) n = 0 ∧ L (d + 13) n = 0 ∧ L (d + 14) n = 0) ∧ (∀ i, 9 ≤ i → i < 45 → Z.2 i = 0) ∧ Z.2 4 = 0
theorem KC.fr {Z : ZT} (h : KC I L d Z) (e : ∀ q, d < q → q ≤ d + 36 → J q = I q) (e2 : ∀ q, d < q → q ≤ d + 36 → M q = L q) : KC J M d Z := by
  obtain ⟨h1, h2, h3, h4, h5, h6⟩ := h
  have z4 : un (Z.2 4) = 0 := by rw [h6]; rfl
  refine ⟨h1.fr (fun q a b => e q (by omega) (by omega)), h2.fr (by omega) (fun q a b => e q (by omega) (by omega)) (fun q a b => e2 q (by omega) (by omega)), fun n a b => by rw [e (d + 5) (by omega) (by omega)]; exact h3 n a b, fun n a => ?_, h5, h6⟩
  rw [e2 (d + 12) (by omega) (by omega), e2 (d + 13) (by omega) (by omega), e2 (d + 14) (by omega) (by omega)]
  exact h4 n a
theorem KC.adI {Z : ZT} {w : Int64} (h : KC I L d Z) (hI : cI Z.1 < 4) (hG : cG Z.1 = 0) : KC (up2 I (d + 1) 4 (nI (cI Z.1 + 1))) (up2 L (d + 11) (cI Z.1) w) d (adI Z w) := by
  obtain ⟨⟨a1, a2, a3, a4, a5, a6, a7⟩, ⟨b1, b2, b3, b4, b5, b6⟩, h3, h4, h5, h6⟩ := h
  have z4 : un (Z.2 4) = 0 := by rw [h6]; rfl
  refine ⟨⟨up2_s, ?_, ?_, ?_, ?_, fun g hg => ?_, fun n hn => ?_⟩, ⟨?_, fun p hp => ?_, ?_, fun n hn => ?_, fun g hg => ?_, fun k hk => ?_⟩, fun n a b => ?_, fun n a => ?_, fun i a b => ?_, ?_⟩
  · rw [up2_n (Or.inr (by decide))]; exact a2
  · rw [up2_n (Or.inr (by decide))]; exact a3
  · rw [up2_n (Or.inr (by decide))]; exact a4
  · rw [up2_n (Or.inr (by decide))]; exact a5
  · have hg : g < cG Z.1 := hg
    omega
  · have hn : n < cI Z.1 + 1 + cG Z.1 := hn
    rw [up2_row (by omega)]
    by_cases q : n < cI Z.1 + cG Z.1
    · exact a7 n q
    · have z := h3 n (by omega) (by omega)
      show _ = nI (cD Z.1 n)
      rw [z.2]
      exact z.1
  · rw [up2_row (by omega)]
    show _ = nI (un (upR Z.2 (5 + cI Z.1) w 0))
    rw [upR_n (by omega)]
    exact b1
  · rw [up2_row (by omega)]
    show _ = nI (un (upR Z.2 (5 + cI Z.1) w (1 + p)))
    rw [upR_n (by omega)]
    exact b2 p hp
  · rw [up2_row (by omega)]
    show _ = nI (un (upR Z.2 (5 + cI Z.1) w 4))
    rw [upR_n (by omega)]
    exact b3
  · have hn : n < cI Z.1 + 1 := hn
    show _ = upR Z.2 (5 + cI Z.1) w (5 + n) ∧ _
    rw [up2_row (show d + 6 + 6 ≠ d + 11 by omega), up2_row (show d + 6 + 7 ≠ d + 11 by omega)]
    refine ⟨?_, (h4 n (by omega)).1, (h4 n (by omega)).2.1⟩
    rw [show d + 6 + 5 = d + 11 by omega]
    by_cases q : n = cI Z.1
    · subst q
      rw [up2_s, upR_s]
    · rw [up2_n (Or.inr q), upR_n (by omega)]
      exact (b4 n (by omega)).1
  · have hg : g < cG Z.1 := hg
    omega
  · change k < un (upR Z.2 (5 + cI Z.1) w 4) at hk
    rw [upR_n (by omega), z4] at hk
    exact absurd hk (Nat.not_lt_zero _)
  · have a : cI Z.1 + 1 + cG Z.1 ≤ n := a
    rw [up2_row (by omega)]
    exact h3 n (by omega) b
  · rw [up2_row (by omega), up2_row (by omega), up2_row (by omega)]
    exact h4 n a
  · show upR Z.2 (5 + cI Z.1) w i = 0
    rw [upR_n (by omega)]
    exact h5 i a b
  · show upR Z.2 (5 + cI Z.1) w 4 = 0
    rw [upR_n (by omega)]
    exact h6
theorem c_addGate {Q : TI → Prop} {Z : ZT} {k o t d0 d1 d2 : Nat} {x y z : Int32} (h : KC I L d Z) (hI : cI Z.1 ≤ 4) (hG : cG Z.1 < 12) (hx : x = nI k) (hy : y = nI o) (hz : z = tx t) (ho : o < cI Z.1 + cG Z.1) (ht : t = 16 ∨ t < cI Z.1 + cG Z.1) (e0 : I (d + 8) (cI Z.1 + cG Z.1) = nI d0) (e1 : I (d + 9) (cI Z.1 + cG Z.1) = nI d1) (e2 : I (d + 10) (cI Z.1 + cG Z.1) = nI d2) (s0 : d0 ≤ 9 ∧ d1 ≤ 9 ∧ d2 ≤ 9)
    (q : ∀ J, (∀ q, (q ≤ d ∨ d + 5 < q) → J q = I q) → KC J L d (adG Z k o t d0 d1 d2) → Q J) : W_X2_addGate (d + 1) x y z I L Q := by
  subst hx; subst hy; subst hz
  have hCC := h.1
  obtain ⟨⟨a1, a2, a3, a4, a5, a6, a7⟩, ⟨b1, b2, b3, b4, b5, b6⟩, h3, h4, h5, h6⟩ := h
  have z4 : un (Z.2 4) = 0 := by rw [h6]; rfl
  have vn : vp_in (nI (cI Z.1 + cG Z.1)) 16 := pk_in _ 16 (by omega) rfl
  have vo : vp_in (nI o) 16 := pk_in _ 16 (by omega) rfl
  unfold W_X2_addGate
  refine s_nets2 hCC ?_
  rw [pk_cl (cI Z.1 + cG Z.1) rfl (by omega), pk_cl o rfl (by omega)]
  refine ⟨vn, vn, ?_⟩
  rintro _ rfl
  refine ⟨vn, vo, ?_⟩
  -- the masks
  have mo : (up2 (up2 (up2 I (d + 1 + 1) (cI Z.1 + cG Z.1) (nI k)) (d + 1 + 2) (cI Z.1 + cG Z.1) (nI o)) (d + 1 + 3) (cI Z.1 + cG Z.1) (tx t)) (d + 1 + 4) o = nI (cD Z.1 o) := by
    rw [up2_row (by omega), up2_row (by omega), up2_row (by omega)]
    exact a7 o ho
  have mt : t < 16 → t < cI Z.1 + cG Z.1 → (up2 (up2 (up2 I (d + 1 + 1) (cI Z.1 + cG Z.1) (nI k)) (d + 1 + 2) (cI Z.1 + cG Z.1) (nI o)) (d + 1 + 3) (cI Z.1 + cG Z.1) (tx t)) (d + 1 + 4) t = nI (cD Z.1 t) := fun _ z => by
    rw [up2_row (by omega), up2_row (by omega), up2_row (by omega)]
    exact a7 t z
  have fin : ∀ m : Nat, m = (if t = 16 then 0 else cD Z.1 t) → B_X2_addGate_62 (d + 1) (nI (cI Z.1 + cG Z.1)) (nI (2 ^ (cI Z.1 + cG Z.1)) ||| nI (cD Z.1 o)) (nI m) (up2 (up2 (up2 I (d + 1 + 1) (cI Z.1 + cG Z.1) (nI k)) (d + 1 + 2) (cI Z.1 + cG Z.1) (nI o)) (d + 1 + 3) (cI Z.1 + cG Z.1) (tx t)) L Q := by
    rintro m hm
    unfold B_X2_addGate_62
    rw [pk_cl (cI Z.1 + cG Z.1) rfl (by omega), nI_or, nI_or]
    refine ⟨vn, ?_⟩
    rintro _ rfl
    have ec : (up2 (up2 (up2 (up2 I (d + 1 + 1) (cI Z.1 + cG Z.1) (nI k)) (d + 1 + 2) (cI Z.1 + cG Z.1) (nI o)) (d + 1 + 3) (cI Z.1 + cG Z.1) (tx t)) (d + 1 + 4) (cI Z.1 + cG Z.1) (nI (2 ^ (cI Z.1 + cG Z.1) ||| cD Z.1 o ||| m))) (d + 1) 5 = nI (cG Z.1) := by
      rw [up2_row (by omega), up2_row (by omega), up2_row (by omega), up2_row (by omega)]
      exact a2
    rw [ec, nI_1]
    have hr : ∀ i, (i < 45 ∨ 81 ≤ i ∨ (45 ≤ i ∧ i < 45 + 3 * cG Z.1)) → (adG Z k o t d0 d1 d2).2 i = Z.2 i := fun i hi => by
      show upR (upR (upR Z.2 (45 + 3 * cG Z.1 + 0) (lN d0)) (45 + 3 * cG Z.1 + 1) (lN d1)) (45 + 3 * cG Z.1 + 2) (lN d2) i = _
      rw [upR_n (by omega), upR_n (by omega), upR_n (by omega)]
    have fI : ∀ q, q ≠ d + 1 → q ≠ d + 2 → q ≠ d + 3 → q ≠ d + 4 → q ≠ d + 5 → (up2 (up2 (up2 (up2 (up2 I (d + 1 + 1) (cI Z.1 + cG Z.1) (nI k)) (d + 1 + 2) (cI Z.1 + cG Z.1) (nI o)) (d + 1 + 3) (cI Z.1 + cG Z.1) (tx t)) (d + 1 + 4) (cI Z.1 + cG Z.1) (nI (2 ^ (cI Z.1 + cG Z.1) ||| cD Z.1 o ||| m))) (d + 1) 5 (nI (cG Z.1 + 1))) q = I q := fun q y1 y2 y3 y4 y5 => by
      rw [up2_row (by omega), up2_row (by omega), up2_row (by omega), up2_row (by omega), up2_row (by omega)]
    have f1 : ∀ j, j ≠ 5 → (up2 (up2 (up2 (up2 (up2 I (d + 1 + 1) (cI Z.1 + cG Z.1) (nI k)) (d + 1 + 2) (cI Z.1 + cG Z.1) (nI o)) (d + 1 + 3) (cI Z.1 + cG Z.1) (tx t)) (d + 1 + 4) (cI Z.1 + cG Z.1) (nI (2 ^ (cI Z.1 + cG Z.1) ||| cD Z.1 o ||| m))) (d + 1) 5 (nI (cG Z.1 + 1))) (d + 1) j = I (d + 1) j := fun j y => by
      rw [up2_n (Or.inr y), up2_row (by omega), up2_row (by omega), up2_row (by omega), up2_row (by omega)]
    refine q _ (fun q2 hq2 => fI q2 (by omega) (by omega) (by omega) (by omega) (by omega)) ⟨⟨?_, up2_s, ?_, ?_, ?_, fun g hg => ?_, fun n hn => ?_⟩, ⟨?_, fun p hp => ?_, ?_, fun n hn => ?_, fun g hg => ?_, fun k2 hk2 => ?_⟩, fun n a b => ?_, h4, fun i a b => ?_, ?_⟩
    · rw [f1 4 (by decide)]; exact a1
    · rw [f1 6 (by decide)]; exact a3
    · rw [f1 7 (by decide)]; exact a4
    · rw [f1 8 (by decide)]; exact a5
    · have hg : g < cG Z.1 + 1 := hg
      show _ = nI (if g = cG Z.1 then k else cK Z.1 g) ∧ _ = nI (if g = cG Z.1 then o else cO Z.1 g) ∧ _ = tx (if g = cG Z.1 then t else cT Z.1 g)
      show (up2 (up2 (up2 (up2 (up2 I (d + 1 + 1) (cI Z.1 + cG Z.1) (nI k)) (d + 1 + 2) (cI Z.1 + cG Z.1) (nI o)) (d + 1 + 3) (cI Z.1 + cG Z.1) (tx t)) (d + 1 + 4) (cI Z.1 + cG Z.1) (nI (2 ^ (cI Z.1 + cG Z.1) ||| cD Z.1 o ||| m))) (d + 1) 5 (nI (cG Z.1 + 1))) (d + 1 + 1) (cI Z.1 + g) = _ ∧ (up2 (up2 (up2 (up2 (up2 I (d + 1 + 1) (cI Z.1 + cG Z.1) (nI k)) (d + 1 + 2) (cI Z.1 + cG Z.1) (nI o)) (d + 1 + 3) (cI Z.1 + cG Z.1) (tx t)) (d + 1 + 4) (cI Z.1 + cG Z.1) (nI (2 ^ (cI Z.1 + cG Z.1) ||| cD Z.1 o ||| m))) (d + 1) 5 (nI (cG Z.1 + 1))) (d + 1 + 2) (cI Z.1 + g) = _ ∧ (up2 (up2 (up2 (up2 (up2 I (d + 1 + 1) (cI Z.1 + cG Z.1) (nI k)) (d + 1 + 2) (cI Z.1 + cG Z.1) (nI o)) (d + 1 + 3) (cI Z.1 + cG Z.1) (tx t)) (d + 1 + 4) (cI Z.1 + cG Z.1) (nI (2 ^ (cI Z.1 + cG Z.1) ||| cD Z.1 o ||| m))) (d + 1) 5 (nI (cG Z.1 + 1))) (d + 1 + 3) (cI Z.1 + g) = _
      rw [up2_row (show d + 1 + 1 ≠ d + 1 by omega), up2_row (show d + 1 + 1 ≠ d + 1 + 4 by omega), up2_row (show d + 1 + 1 ≠ d + 1 + 3 by omega), up2_row (show d + 1 + 1 ≠ d + 1 + 2 by omega), up2_row (show d + 1 + 2 ≠ d + 1 by omega), up2_row (show d + 1 + 2 ≠ d + 1 + 4 by omega), up2_row (show d + 1 + 2 ≠ d + 1 + 3 by omega), up2_row (show d + 1 + 3 ≠ d + 1 by omega), up2_row (show d + 1 + 3 ≠ d + 1 + 4 by omega)]
      by_cases y : g = cG Z.1
      · subst y
        rw [if_pos rfl, if_pos rfl, if_pos rfl, up2_s, up2_s, up2_s]
        exact ⟨rfl, rfl, rfl⟩
      · rw [if_neg y, if_neg y, if_neg y, up2_n (Or.inr (show cI Z.1 + g ≠ cI Z.1 + cG Z.1 by omega)), up2_n (Or.inr (show cI Z.1 + g ≠ cI Z.1 + cG Z.1 by omega)), up2_n (Or.inr (show cI Z.1 + g ≠ cI Z.1 + cG Z.1 by omega))]
        repeat rw [up2_n (Or.inr (show cI Z.1 + g ≠ cI Z.1 + cG Z.1 by omega))]
        exact a6 g (by omega)
    · have hn : n < cI Z.1 + (cG Z.1 + 1) := hn
      show _ = nI (if n = cI Z.1 + cG Z.1 then 2 ^ (cI Z.1 + cG Z.1) ||| (cD Z.1 o ||| (if t = 16 then 0 else cD Z.1 t)) else cD Z.1 n)
      rw [up2_row (by omega)]
      by_cases y : n = cI Z.1 + cG Z.1
      · subst y
        rw [if_pos rfl, up2_s, hm, Nat.or_assoc]
      · rw [if_neg y, up2_n (Or.inr y), up2_row (by omega), up2_row (by omega), up2_row (by omega)]
        exact a7 n (by omega)
    · rw [fI (d + 6) (by omega) (by omega) (by omega) (by omega) (by omega), hr 0 (by omega)]; exact b1
    · rw [fI (d + 6 + 9) (by omega) (by omega) (by omega) (by omega) (by omega), hr (1 + p) (by omega)]; exact b2 p hp
    · rw [fI (d + 6) (by omega) (by omega) (by omega) (by omega) (by omega), hr 4 (by omega)]; exact b3
    · have hn : n < cI Z.1 := hn
      rw [hr (5 + n) (by omega)]
      exact b4 n hn
    · have hg : g < cG Z.1 + 1 := hg
      rw [hr (9 + g) (by omega), hr (21 + g) (by omega), hr (33 + g) (by omega), h5 (9 + g) (by omega) (by omega), h5 (21 + g) (by omega) (by omega), h5 (33 + g) (by omega) (by omega)]
      have l4 := h4 (cI Z.1 + g) (by omega)
      refine ⟨l4.1, l4.2.1, l4.2.2, fun w hw => ?_⟩
      rw [fI (d + 6 + 2 + w) (by omega) (by omega) (by omega) (by omega) (by omega)]
      show I (d + 6 + 2 + w) (cI Z.1 + g) = _
      by_cases y : g = cG Z.1
      · subst y
        unfold dl
        show _ = nI (un (upR (upR (upR Z.2 (45 + 3 * cG Z.1 + 0) (lN d0)) (45 + 3 * cG Z.1 + 1) (lN d1)) (45 + 3 * cG Z.1 + 2) (lN d2) (45 + 3 * cG Z.1 + w)))
        have w3 : w = 0 ∨ w = 1 ∨ w = 2 := by omega
        rcases w3 with rfl | rfl | rfl
        · rw [upR_n (by omega), upR_n (by omega), upR_s, un_lN (by omega)]
          exact e0
        · rw [upR_n (by omega), upR_s, un_lN (by omega)]
          exact e1
        · rw [upR_s, un_lN (by omega)]
          exact e2
      · unfold dl
        rw [hr (45 + 3 * g + w) (by omega)]
        exact (b5 g (by omega)).2.2.2 w hw
    · rw [hr 4 (by omega), z4] at hk2
      exact absurd hk2 (Nat.not_lt_zero _)
    · have a : cI Z.1 + (cG Z.1 + 1) ≤ n := a
      rw [up2_row (by omega), up2_n (Or.inr (by omega)), up2_row (by omega), up2_row (by omega), up2_row (by omega)]
      refine ⟨(h3 n (by omega) b).1, ?_⟩
      show (if n = cI Z.1 + cG Z.1 then _ else cD Z.1 n) = 0
      rw [if_neg (by omega)]
      exact (h3 n (by omega) b).2
    · rw [hr i (by omega)]
      exact h5 i a b
    · rw [hr 4 (by omega)]
      exact h6
  rw [shI1 (by omega), mo]
  refine ⟨fun e => ?_, fun e => ?_⟩
  · have t16 : t ≠ 16 := fun y => e (by rw [y]; exact tx_16)
    have tl : t < cI Z.1 + cG Z.1 := ht.resolve_left t16
    rw [tx_n t16] at *
    rw [pk_cl t rfl (by omega), mt (by omega) tl]
    exact ⟨pk_in t 16 (by omega) rfl, fin _ (by rw [if_neg t16])⟩
  · have t16 : t = 16 := by
      by_cases y : t = 16
      · exact y
      · rw [tx_n y] at e
        have tl : t < cI Z.1 + cG Z.1 := ht.resolve_left y
        have := nI_pos (n := t) (by omega)
        rw [e] at this
        exact absurd (by decide) this
    exact fin 0 (by rw [if_pos t16])
end RGATE
