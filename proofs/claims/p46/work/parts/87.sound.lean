/-! what a good text lays down is sound -/
section SOUND
def ZV (Z : ZT) : Prop := (cI Z.1 ≤ 4 ∧ cG Z.1 ≤ 12 ∧ (4 ≤ cH Z.1 ∧ cH Z.1 ≤ 60) ∧ cR Z.1 ≤ 9 ∧ cF Z.1 ≤ 99 ∧ (∀ g, g < cG Z.1 → cK Z.1 g ≤ 6 ∧ cO Z.1 g < cI Z.1 + g ∧ (cK Z.1 g < 5 → cT Z.1 g < cI Z.1 + g) ∧ (5 ≤ cK Z.1 g → cT Z.1 g = 16)) ∧ (∀ n, n < cI Z.1 → cD Z.1 n = 0) ∧ (∀ g, g < cG Z.1 → cD Z.1 (cI Z.1 + g) = 2 ^ (cI Z.1 + g) ||| (cD Z.1 (cO Z.1 g) ||| (if cT Z.1 g = 16 then 0 else cD Z.1 (cT Z.1 g))))) ∧ (1 ≤ un (Z.2 0) ∧ un (Z.2 0) ≤ 20) ∧ (∀ p, p < 3 → un (Z.2 (1 + p)) ≤ 100000) ∧ (∀ n, n < cI Z.1 → inH (cH Z.1) (Z.2 (5 + n))) ∧ (∀ g, g < cG Z.1 → ∀ w, w < 3 → 1 ≤ dl Z.2 g w ∧ dl Z.2 g w ≤ 9)
theorem ZV.hd {H l R F : Nat} (h1 : 4 ≤ H ∧ H ≤ 60) (h2 : 1 ≤ l ∧ l ≤ 20) (h3 : R ≤ 9) (h4 : F ≤ 99) : ZV (hdZ H l R F) := by
  refine ⟨⟨Nat.zero_le _, Nat.zero_le _, h1, h3, h4, fun g hg => absurd hg (Nat.not_lt_zero _), fun n hn => absurd hn (Nat.not_lt_zero _), fun g hg => absurd hg (Nat.not_lt_zero _)⟩, ?_, fun p hp => ?_, fun n hn => absurd hn (Nat.not_lt_zero _), fun g hg => absurd hg (Nat.not_lt_zero _)⟩
  · show 1 ≤ un (upR (fun _ => 0) 0 (lN l) 0) ∧ un (upR (fun _ => 0) 0 (lN l) 0) ≤ 20
    rw [upR_s, un_lN (by omega)]
    exact h2
  · show un (upR (fun _ => 0) 0 (lN l) (1 + p)) ≤ 100000
    rw [upR_n (by omega)]
    show (0 : Nat) ≤ _
    omega
theorem ZV.adI {Z : ZT} {w : Int64} (h : ZV Z) (hI : cI Z.1 < 4) (hG : cG Z.1 = 0) (hD : ∀ n, cD Z.1 n = 0) (hw : inH (cH Z.1) w) : ZV (adI Z w) := by
  obtain ⟨⟨h1, h2, h3, h4, h5, h6, h7, h8⟩, r1, r2, r3, r4⟩ := h
  have g0 : ∀ g, ¬ g < cG (CGlitchCourtLaw_law_r2238_8e8914.adI Z w).1 := fun g hg => by
    have hg : g < cG Z.1 := hg
    omega
  refine ⟨⟨by show cI Z.1 + 1 ≤ 4; omega, by show cG Z.1 ≤ 12; omega, h3, h4, h5, fun g hg => absurd hg (g0 g), fun n _ => hD n, fun g hg => absurd hg (g0 g)⟩, ?_, fun p hp => ?_, fun n hn => ?_, fun g hg => absurd hg (g0 g)⟩
  · show 1 ≤ un (upR Z.2 (5 + cI Z.1) w 0) ∧ un (upR Z.2 (5 + cI Z.1) w 0) ≤ 20
    rw [upR_n (by omega)]
    exact r1
  · show un (upR Z.2 (5 + cI Z.1) w (1 + p)) ≤ 100000
    rw [upR_n (by omega)]
    exact r2 p hp
  · have hn : n < cI Z.1 + 1 := hn
    show inH (cH Z.1) (upR Z.2 (5 + cI Z.1) w (5 + n))
    by_cases q : n = cI Z.1
    · rw [q, upR_s]
      exact hw
    · rw [upR_n (by omega)]
      exact r3 n (by omega)
theorem ZV.adG {Z : ZT} {k o t d0 d1 d2 : Nat} (h : ZV Z) (hG : cG Z.1 < 12) (hk : k ≤ 6) (ho : o < cI Z.1 + cG Z.1) (h1 : k < 5 → t < cI Z.1 + cG Z.1) (h2 : 5 ≤ k → t = 16) (e0 : 1 ≤ d0 ∧ d0 ≤ 9) (e1 : 1 ≤ d1 ∧ d1 ≤ 9) (e2 : 1 ≤ d2 ∧ d2 ≤ 9) : ZV (adG Z k o t d0 d1 d2) := by
  obtain ⟨⟨a1, a2, a3, a4, a5, a6, a7, a8⟩, r1, r2, r3, r4⟩ := h
  have hr : ∀ i, (i < 45 ∨ (45 ≤ i ∧ i < 45 + 3 * cG Z.1)) → (CGlitchCourtLaw_law_r2238_8e8914.adG Z k o t d0 d1 d2).2 i = Z.2 i := fun i hi => by
    show upR (upR (upR Z.2 (45 + 3 * cG Z.1 + 0) (lN d0)) (45 + 3 * cG Z.1 + 1) (lN d1)) (45 + 3 * cG Z.1 + 2) (lN d2) i = _
    rw [upR_n (by omega), upR_n (by omega), upR_n (by omega)]
  refine ⟨⟨a1, by show cG Z.1 + 1 ≤ 12; omega, a3, a4, a5, fun g hg => ?_, fun n hn => ?_, fun g hg => ?_⟩, by rw [hr 0 (by omega)]; exact r1, fun p hp => by rw [hr (1 + p) (by omega)]; exact r2 p hp, fun n hn => ?_, fun g hg w hw => ?_⟩
  · have hg : g < cG Z.1 + 1 := hg
    show (if g = cG Z.1 then k else cK Z.1 g) ≤ 6 ∧ (if g = cG Z.1 then o else cO Z.1 g) < cI Z.1 + g ∧ ((if g = cG Z.1 then k else cK Z.1 g) < 5 → (if g = cG Z.1 then t else cT Z.1 g) < cI Z.1 + g) ∧ (5 ≤ (if g = cG Z.1 then k else cK Z.1 g) → (if g = cG Z.1 then t else cT Z.1 g) = 16)
    by_cases q : g = cG Z.1
    · rw [if_pos q, if_pos q, if_pos q, q]
      exact ⟨hk, ho, h1, h2⟩
    · rw [if_neg q, if_neg q, if_neg q]
      exact a6 g (by omega)
  · have hn : n < cI Z.1 := hn
    show (if n = cI Z.1 + cG Z.1 then _ else cD Z.1 n) = 0
    rw [if_neg (by omega)]
    exact a7 n hn
  · have hg : g < cG Z.1 + 1 := hg
    -- the mask of a net that is there stays
    have ms : ∀ n, n < cI Z.1 + cG Z.1 → cD (CGlitchCourtLaw_law_r2238_8e8914.adG Z k o t d0 d1 d2).1 n = cD Z.1 n := fun n hn => by
      show (if n = cI Z.1 + cG Z.1 then _ else cD Z.1 n) = cD Z.1 n
      rw [if_neg (by omega)]
    show (if cI Z.1 + g = cI Z.1 + cG Z.1 then 2 ^ (cI Z.1 + cG Z.1) ||| (cD Z.1 o ||| (if t = 16 then 0 else cD Z.1 t)) else cD Z.1 (cI Z.1 + g)) = 2 ^ (cI Z.1 + g) ||| (cD (CGlitchCourtLaw_law_r2238_8e8914.adG Z k o t d0 d1 d2).1 (if g = cG Z.1 then o else cO Z.1 g) ||| (if (if g = cG Z.1 then t else cT Z.1 g) = 16 then 0 else cD (CGlitchCourtLaw_law_r2238_8e8914.adG Z k o t d0 d1 d2).1 (if g = cG Z.1 then t else cT Z.1 g)))
    by_cases q : g = cG Z.1
    · rw [if_pos (by omega), if_pos q, if_pos q, q, ms o ho]
      by_cases t16 : t = 16
      · rw [if_pos t16, if_pos t16]
      · rw [if_neg t16, if_neg t16, ms t (h1 (by
          by_cases z : k < 5
          · exact z
          · exact absurd (h2 (by omega)) t16))]
    · have b := a6 g (by omega)
      rw [if_neg (by omega), if_neg q, if_neg q, ms _ (by omega), a8 g (by omega)]
      by_cases t16 : cT Z.1 g = 16
      · rw [if_pos t16, if_pos t16]
      · have tl : cT Z.1 g < cI Z.1 + g := b.2.2.1 (by
          by_cases z : cK Z.1 g < 5
          · exact z
          · exact absurd (b.2.2.2 (by omega)) t16)
        rw [if_neg t16, if_neg t16, ms _ (by omega)]
  · have hn : n < cI Z.1 := hn
    rw [hr (5 + n) (by omega)]
    exact r3 n hn
  · have hg : g < cG Z.1 + 1 := hg
    by_cases q : g = cG Z.1
    · subst q
      unfold dl
      show 1 ≤ un (upR (upR (upR Z.2 (45 + 3 * cG Z.1 + 0) (lN d0)) (45 + 3 * cG Z.1 + 1) (lN d1)) (45 + 3 * cG Z.1 + 2) (lN d2) (45 + 3 * cG Z.1 + w)) ∧ un (upR (upR (upR Z.2 (45 + 3 * cG Z.1 + 0) (lN d0)) (45 + 3 * cG Z.1 + 1) (lN d1)) (45 + 3 * cG Z.1 + 2) (lN d2) (45 + 3 * cG Z.1 + w)) ≤ 9
      have w3 : w = 0 ∨ w = 1 ∨ w = 2 := by omega
      rcases w3 with rfl | rfl | rfl
      · rw [upR_n (by omega), upR_n (by omega), upR_s, un_lN (by omega)]; exact e0
      · rw [upR_n (by omega), upR_s, un_lN (by omega)]; exact e1
      · rw [upR_s, un_lN (by omega)]; exact e2
    · have := r4 g (by omega) w hw
      unfold dl at *
      rw [hr (45 + 3 * g + w) (by omega)]
      exact this
theorem ZV.cv {Z : ZT} (h : ZV Z) (h1 : 1 ≤ cI Z.1) : CV Z.1 := ⟨⟨h1, h.1.1⟩, h.1.2⟩
theorem ZV.rv {Z : ZT} {B : Nat} (h : ZV Z) (hB : 100000 ≤ B) (z : ∀ i, 9 ≤ i → i < 45 → Z.2 i = 0) (z4 : Z.2 4 = 0) : RV Z.1 B Z.2 := by
  obtain ⟨⟨a1, a2, a3, a4, a5, a6, a7, a8⟩, r1, r2, r3, r4⟩ := h
  have e4 : un (Z.2 4) = 0 := by rw [z4]; rfl
  refine ⟨r1, fun p hp => Nat.le_trans (r2 p hp) hB, by omega, r3, fun g hg => ?_, fun d hd => by omega⟩
  rw [z (9 + g) (by omega) (by omega), z (21 + g) (by omega) (by omega), z (33 + g) (by omega) (by omega)]
  exact ⟨inH_0, inH_0, rfl, fun w hw => r4 g hg w hw⟩
end SOUND
