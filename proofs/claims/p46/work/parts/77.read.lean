/-! the class reads: gates, purses, end -/
section READ
variable {I J : TI} {L M : TL} {d : Nat}
def gaL (c : Nat → Nat) (ln : Nat) : Nat → PS → ZT → PS × ZT
  | 0, S, Z => (S, Z)
  | n + 1, S, Z => if wdB c S 139055 = true then (if n ≠ 0 then gaL c ln n (rdGS c ln (advF c ln S) Z) (rdGZ c ln (advF c ln S) Z) else gaL c ln n (failF 3 S) Z) else (S, Z)
theorem PX.rdG {c : Nat → Nat} {ln : Nat} {S : PS} {Z : ZT} (v : PX c ln S) : PX c ln (rdGS c ln S Z) := v.qF
theorem rdGZ_I {c : Nat → Nat} {ln : Nat} {S : PS} {Z : ZT} : cI (rdGZ c ln S Z).1 = cI Z.1 := by
  unfold rdGZ
  split <;> rfl
theorem rdGZ_G {c : Nat → Nat} {ln : Nat} {S : PS} {Z : ZT} : cG (rdGZ c ln S Z).1 ≤ cG Z.1 + 1 ∧ cG Z.1 ≤ cG (rdGZ c ln S Z).1 := by
  unfold rdGZ
  split
  · exact ⟨Nat.le_refl _, Nat.le_succ _⟩
  · exact ⟨Nat.le_succ _, Nat.le_refl _⟩
theorem wdB_er {c : Nat → Nat} {S : PS} {w : Nat} (h : wdB c S w = true) : er S = 0 := by
  unfold wdB at h
  exact (of_decide_eq_true h).1
theorem c_readGates {Q : TI → Prop} {c : Nat → Nat} {ln : Nat} {S : PS} {Z : ZT} (hd : 351 < d) (hc : txV c ln) (h : TC I c ln S) (v : PX c ln S) (hK : KC I L d Z) (hI : cI Z.1 ≤ 4) (hI1 : er S = 0 → 1 ≤ cI Z.1) (hG : cG Z.1 = 0) (k : ∀ J, dO d I J → TC J c ln (gaL c ln 13 S Z).1 → PX c ln (gaL c ln 13 S Z).1 → KC J L d (gaL c ln 13 S Z).2 → Q J) : W_X1_readGates d I L 350 Q := by
  unfold W_X1_readGates
  refine lp2 (fun n m i => L_X1_readGates_2 d L 350 Q n m i) (fun m i => ∃ j S2 Z2, m = nI j ∧ j ≤ 13 ∧ dO d I i ∧ TC i c ln S2 ∧ PX c ln S2 ∧ KC i L d Z2 ∧ cI Z2.1 ≤ 4 ∧ (er S2 = 0 → 1 ≤ cI Z2.1) ∧ cG Z2.1 ≤ j ∧ gaL c ln (13 - j) S2 Z2 = gaL c ln 13 S Z) (fun m _ => 14 - m.toNatClampNeg) ?_ _ _ ⟨0, S, Z, rfl, Nat.zero_le _, fun _ _ _ => rfl, h, v, hK, hI, hI1, by omega, rfl⟩
  rintro n m i ⟨j, S2, Z2, rfl, j1, oi, it, iv, ik, iI, iI1, iG, ie⟩ ih
  have done : gaL c ln 13 S Z = (S2, Z2) → Q i := by
    intro e
    have := k i oi
    rw [e] at this
    exact this it iv ik
  refine pk_lt 12 j (fun q => ?_) (fun q => ?_) rfl rfl (by omega) (by omega)
  · have : j = 13 := by omega
    subst this
    exact done ie.symm
  · obtain ⟨m2, hm2⟩ : ∃ m2, 13 - j = m2 + 1 := ⟨12 - j, by omega⟩
    rw [hm2] at ie
    unfold gaL at ie
    refine c_isWord w_gate rfl hc it iv (fun e => ⟨fun z => absurd z (by decide), fun _ => ?_⟩) (fun e => ⟨fun _ => done ?_, fun z => absurd rfl z⟩)
    · rw [if_pos e] at ie
      have e12 : nI j = 12 ↔ j = 12 := nI_eq (b := 12) (by omega) (by omega)
      refine ⟨fun y => ?_, fun y => ?_⟩
      · have j12 : j ≠ 12 := fun z => y (e12.mpr z)
        rw [if_pos (show m2 ≠ 0 by omega)] at ie
        refine c_adv hc it iv.1 (fun J2 a2 b2 => ?_)
        have k2 : KC J2 L d Z2 := ik.fr (fun q2 y1 y2 => a2 q2 (by omega)) (fun _ _ _ => rfl)
        refine c_readGate hd hc b2 iv.adv k2 ⟨iI1 (wdB_er e), iI⟩ (by omega) (fun J3 o3 t3 k3 => ?_)
        unfold B_X1_readGates_40
        rw [nI_1]
        have gG := rdGZ_G (c := c) (ln := ln) (S := advF c ln S2) (Z := Z2)
        refine ih _ _ ⟨j + 1, _, _, rfl, by omega, (oi.tr (dO.tk a2)).tr o3, t3, iv.adv.rdG, k3, by rw [rdGZ_I]; exact iI, fun _ => by rw [rdGZ_I]; exact iI1 (wdB_er e), by omega, ?_⟩ (by rw [nI_clamp (by omega), nI_clamp (by omega)]; omega)
        rw [show 13 - (j + 1) = m2 by omega]
        exact ie
      · have j12 : j = 12 := e12.mp y
        rw [if_neg (show ¬ m2 ≠ 0 by omega)] at ie
        refine c_fail (code := 3) it iv.1 rfl (fun J2 a2 b2 => ?_)
        unfold B_X1_readGates_40
        rw [nI_1]
        refine ih _ _ ⟨j + 1, _, Z2, rfl, by omega, oi.tr (dO.tk a2), b2, iv.fail (by omega), ik.fr (fun q2 y1 y2 => a2 q2 (by omega)) (fun _ _ _ => rfl), iI, fun z => absurd z (failF_er (by decide)), by omega, ?_⟩ (by rw [nI_clamp (by omega), nI_clamp (by omega)]; omega)
        rw [show 13 - (j + 1) = m2 by omega]
        exact ie
    · rw [if_neg (by rw [e]; decide)] at ie
      exact ie.symm
/-- the purses -/
def pA (c : Nat → Nat) (ln : Nat) (S : PS) : PS := advF c ln S
def pB (c : Nat → Nat) (ln : Nat) (S : PS) : PS := takeN c ln 0 99999 (pA c ln S)
def pC (c : Nat → Nat) (ln : Nat) (S : PS) : PS := takeN c ln 0 99999 (pB c ln S)
def pD (c : Nat → Nat) (ln : Nat) (S : PS) : PS := takeN c ln 0 99999 (pC c ln S)
def puR (c : Nat → Nat) (ln : Nat) (S : PS) (r : RW) : RW := upR (upR (upR r (1 + 0) (lN (peekV c 0 99999 (pA c ln S)))) (1 + 1) (lN (peekV c 0 99999 (pB c ln S)))) (1 + 2) (lN (peekV c 0 99999 (pC c ln S)))
def puS (c : Nat → Nat) (ln : Nat) (S : PS) : PS := if wdB c S 241111072 = true then takeS c ln 59 (pD c ln S) else S
def puZ (c : Nat → Nat) (ln : Nat) (S : PS) (Z : ZT) : ZT := if wdB c S 241111072 = true then (Z.1, puR c ln S Z.2) else Z
theorem PX.puS {c : Nat → Nat} {ln : Nat} {S : PS} (v : PX c ln S) : PX c ln (puS c ln S) := by
  unfold CGlitchCourtLaw_law_r2238_8e8914.puS
  split
  · exact v.adv.takeN.takeN.takeN.takeS
  · exact v
theorem KC.pur {Z : ZT} {p v : Nat} (h : KC I L d Z) (hp : p < 3) (hv : v < 2 ^ 31) : KC (up2 I (d + 15) p (nI v)) L d (Z.1, upR Z.2 (1 + p) (lN v)) := by
  obtain ⟨h1, h2, h3, h4, h5, h6⟩ := h
  refine ⟨h1.fr (fun q a b => up2_row (by omega)), ?_, fun n a b => by rw [up2_row (by omega)]; exact h3 n a b, h4, fun i a b => ?_, ?_⟩
  · exact h2.pur hp (by rw [un_lN (by omega)])
  · show upR Z.2 (1 + p) (lN v) i = 0
    rw [upR_n (by omega)]
    exact h5 i a b
  · show upR Z.2 (1 + p) (lN v) 4 = 0
    rw [upR_n (by omega)]
    exact h6
theorem c_readPurses {Q : TI → Prop} {c : Nat → Nat} {ln : Nat} {S : PS} {Z : ZT} (hd : 351 < d) (hc : txV c ln) (h : TC I c ln S) (v : PX c ln S) (hK : KC I L d Z) (k : ∀ J, dO d I J → TC J c ln (puS c ln S) → KC J L d (puZ c ln S Z) → Q J) : W_X1_readPurses d I L 350 Q := by
  unfold puS puZ at k
  unfold W_X1_readPurses
  refine c_isWord w_purses rfl hc h v (fun e => ⟨fun z => absurd z (by decide), fun _ => c_adv hc h v.1 (fun J a b => ?_)⟩) (fun e => ⟨fun _ => ?_, fun z => absurd rfl z⟩)
  · have vA : PX c ln (pA c ln S) := v.adv
    have vB : PX c ln (pB c ln S) := vA.takeN
    have vC : PX c ln (pC c ln S) := vB.takeN
    have vD : PX c ln (pD c ln S) := vC.takeN
    refine ⟨4, ?_⟩
    have step : ∀ (n j : Nat) (i : TI) (S2 : PS) (Z2 : ZT), j < 3 → TC i c ln S2 → PX c ln S2 → KC i L d Z2 → (∀ i2, dO d i i2 → TC i2 c ln (takeN c ln 0 99999 S2) → KC i2 L d (Z2.1, upR Z2.2 (1 + j) (lN (peekV c 0 99999 S2))) → L_X1_readPurses_15 d L 350 Q n (nI (j + 1)) i2) → L_X1_readPurses_15 d L 350 Q (n + 1) (nI j) i := by
      intro n j i S2 Z2 hj t2 v2 k2 nx
      refine ⟨fun y => absurd y (by have := nI_lt hj (show 3 < 2 ^ 31 by omega); exact fun z => lt_le_f this z), fun _ => c_takeNumber (lo := 0) (hi := 99999) rfl rfl (by omega) (by omega) hc t2 v2 (fun J3 a3 b3 => ⟨pk_in j 3 hj rfl, ?_⟩)⟩
      have pb := peekV_b (c := c) (lo := 0) (hi := 99999) (S := S2) (by omega)
      rw [pk_cl j rfl (by omega), nI_1]
      have k3 : KC J3 L d Z2 := k2.fr (fun q2 y1 y2 => a3 q2 (by omega)) (fun _ _ _ => rfl)
      exact nx _ ((dO.tk a3).tr (dO.up (by omega) (by omega))) (b3.fr (up2_row (by omega)) (up2_row (by omega))) (k3.pur hj (by omega))
    refine step 3 0 J (pA c ln S) Z (by omega) b vA (hK.fr (fun q2 y1 y2 => a q2 (by omega)) (fun _ _ _ => rfl)) (fun i1 o1 t1 k1 => ?_)
    refine step 2 1 i1 (pB c ln S) _ (by omega) t1 vB k1 (fun i2 o2 t2 k2 => ?_)
    refine step 1 2 i2 (pC c ln S) _ (by omega) t2 vC k2 (fun i3 o3 t3 k3 => ?_)
    refine ⟨fun _ => c_takeSign (b := 59) (S := pD c ln S) rfl (by omega) hc t3 vD (fun J4 a4 b4 => ?_), fun y => absurd (show (3 : Int32) ≤ nI (2 + 1) by decide) y⟩
    refine k J4 (((dO.tk a).tr o1).tr ((o2.tr o3).tr (dO.tk a4))) ?_ ?_
    · rw [if_pos e]
      exact b4
    · rw [if_pos e]
      exact k3.fr (fun q2 y1 y2 => a4 q2 (by omega)) (fun _ _ _ => rfl)
  · refine k I (fun _ _ _ => rfl) ?_ ?_
    · rw [if_neg (by rw [e]; decide)]
      exact h
    · rw [if_neg (by rw [e]; decide)]
      exact hK
/-- the whole text -/
def tA (c : Nat → Nat) (ln : Nat) (S : PS) : PS × ZT := inL c ln 5 (inS c (hF c ln S)) (hZ c ln S)
def tB (c : Nat → Nat) (ln : Nat) (S : PS) : PS × ZT := gaL c ln 13 (tA c ln S).1 (tA c ln S).2
def tC (c : Nat → Nat) (ln : Nat) (S : PS) : PS := puS c ln (tB c ln S).1
def tZ (c : Nat → Nat) (ln : Nat) (S : PS) : ZT := puZ c ln (tB c ln S).1 (tB c ln S).2
def tS (c : Nat → Nat) (ln : Nat) (S : PS) : PS := if enB (tC c ln S) = true then tC c ln S else failF 1 (tC c ln S)
theorem inL_I {c : Nat → Nat} {ln : Nat} : ∀ n S Z, cI Z.1 + n ≤ 5 → cI (inL c ln n S Z).2.1 ≤ 4 ∨ n = 0 ∧ cI Z.1 = 5
  | 0, S, Z, h => by
    by_cases q : cI Z.1 = 5
    · exact Or.inr ⟨rfl, q⟩
    · refine Or.inl ?_
      show cI Z.1 ≤ 4
      omega
  | n + 1, S, Z, h => by
    unfold inL
    refine Or.inl ?_
    split
    · split
      · rename_i q
        rcases inL_I n _ (adI Z (rdWave c ln (cH Z.1) (advF c ln S)).1) (by show cI Z.1 + 1 + n ≤ 5; omega) with z | z
        · exact z
        · exact absurd z.1 q
      · rename_i q
        have q : n = 0 := Decidable.not_not.mp q
        subst q
        show cI Z.1 ≤ 4
        omega
    · show cI Z.1 ≤ 4
      omega
theorem inL_s {c : Nat → Nat} {ln n : Nat} {S : PS} {Z : ZT} : inL c ln (n + 1) S Z = if wdB c S 5070782 = true then (if n ≠ 0 then inL c ln n (rdWave c ln (cH Z.1) (advF c ln S)).2 (adI Z (rdWave c ln (cH Z.1) (advF c ln S)).1) else inL c ln n (failF 3 S) Z) else (S, Z) := rfl
theorem inL_G {c : Nat → Nat} {ln : Nat} : ∀ n S Z, cG (inL c ln n S Z).2.1 = cG Z.1 ∧ cI Z.1 ≤ cI (inL c ln n S Z).2.1
  | 0, S, Z => ⟨rfl, Nat.le_refl _⟩
  | n + 1, S, Z => by
    rw [inL_s]
    split
    · split
      · have a := inL_G (c := c) (ln := ln) n (rdWave c ln (cH Z.1) (advF c ln S)).2 (adI Z (rdWave c ln (cH Z.1) (advF c ln S)).1)
        have e1 : ∀ w, cG (adI Z w).1 = cG Z.1 := fun _ => rfl
        have e2 : ∀ w, cI (adI Z w).1 = cI Z.1 + 1 := fun _ => rfl
        rw [e1, e2] at a
        exact ⟨a.1, Nat.le_trans (Nat.le_succ _) a.2⟩
      · exact inL_G n _ Z
    · exact ⟨rfl, Nat.le_refl _⟩
theorem inL_1 {c : Nat → Nat} {ln n : Nat} {S : PS} {Z : ZT} (hn : n ≠ 0) : er (inL c ln (n + 1) (inS c S) Z).1 = 0 → 1 ≤ cI (inL c ln (n + 1) (inS c S) Z).2.1 := by
  intro h
  rw [inL_s] at h ⊢
  by_cases q : wdB c (inS c S) 5070782 = true
  · rw [if_pos q, if_pos hn]
    have a := (inL_G (c := c) (ln := ln) n (rdWave c ln (cH Z.1) (advF c ln (inS c S))).2 (adI Z (rdWave c ln (cH Z.1) (advF c ln (inS c S))).1)).2
    have e2 : ∀ w, cI (adI Z w).1 = cI Z.1 + 1 := fun _ => rfl
    rw [e2] at a
    exact Nat.le_trans (Nat.le_add_left _ _) a
  · rw [if_neg q] at h
    exfalso
    unfold inS at q h
    by_cases q2 : wdB c S 5070782 = true
    · rw [if_pos q2] at q
      exact q q2
    · rw [if_neg q2] at h
      exact failF_er (by decide) h
theorem hZ_0 {c : Nat → Nat} {ln : Nat} {S : PS} : cI (hZ c ln S).1 = 0 ∧ cG (hZ c ln S).1 = 0 := ⟨rfl, rfl⟩
theorem tA_4 {c : Nat → Nat} {ln : Nat} {S : PS} : cI (tA c ln S).2.1 ≤ 4 ∧ cG (tA c ln S).2.1 = 0 ∧ (er (tA c ln S).1 = 0 → 1 ≤ cI (tA c ln S).2.1) := by
  unfold tA
  have z0 := hZ_0 (c := c) (ln := ln) (S := S)
  generalize hZ c ln S = Z at z0
  generalize hF c ln S = S1
  refine ⟨?_, ?_, inL_1 (n := 4) (by decide)⟩
  · rcases inL_I (c := c) (ln := ln) 5 (inS c S1) Z (by omega) with z | z
    · exact z
    · exact absurd z.1 (by decide)
  · rw [(inL_G (c := c) (ln := ln) 5 (inS c S1) Z).1]
    exact z0.2
theorem c_read {Q : TI → TL → Prop} {c : Nat → Nat} {ln : Nat} {S : PS} (hd : 351 < d) (hc : txV c ln) (h : TC I c ln S) (v : PX c ln S) (hL : CL I L d) (k : ∀ J M, dO d I J → (∀ q, q ≠ d + 11 → M q = L q) → TC J c ln (tS c ln S) → PX c ln (tS c ln S) → KC J M d (tZ c ln S) → Q J M) : W_X1_read d I L 350 Q := by
  unfold W_X1_read
  refine c_readHead hd hc h v hL (fun J1 o1 t1 k1 => ?_)
  have hb := peekV_b (c := c) (lo := 4) (hi := 60) (S := hA c ln S) (by omega)
  have hz := hZ_0 (c := c) (ln := ln) (S := S)
  have v1 : PX c ln (hF c ln S) := v.hF
  have hH : 4 ≤ cH (hZ c ln S).1 ∧ cH (hZ c ln S).1 ≤ 60 := hb
  obtain ⟨i4, g0, i1⟩ := tA_4 (c := c) (ln := ln) (S := S)
  refine c_readInputs hd hc t1 v1 k1 hH hz.1 hz.2 (fun J2 M2 o2 m2 t2 v2 k2 => ?_)
  have t2 : TC J2 c ln (tA c ln S).1 := by unfold tA; exact t2
  have v2 : PX c ln (tA c ln S).1 := by unfold tA; exact v2
  have k2 : KC J2 M2 d (tA c ln S).2 := by unfold tA; exact k2
  refine c_readGates hd hc t2 v2 k2 i4 i1 g0 (fun J3 o3 t3 v3 k3 => ?_)
  have t3 : TC J3 c ln (tB c ln S).1 := by unfold tB; exact t3
  have v3 : PX c ln (tB c ln S).1 := by unfold tB; exact v3
  have k3 : KC J3 M2 d (tB c ln S).2 := by unfold tB; exact k3
  refine c_readPurses hd hc t3 v3 k3 (fun J4 o4 t4 k4 => ?_)
  have v4 : PX c ln (tC c ln S) := by unfold tC; exact PX.puS v3
  have t4 : TC J4 c ln (tC c ln S) := by unfold tC; exact t4
  have k4 : KC J4 M2 d (tZ c ln S) := by unfold tZ; exact k4
  have oo := (o1.tr o2).tr (o3.tr o4)
  refine c_isEnd t4 v4.1 (fun e => ⟨fun _ => ?_, fun z => absurd z (by decide)⟩) (fun e => ⟨fun z => absurd rfl z, fun _ => c_fail (code := 1) t4 v4.1 rfl (fun J5 a5 b5 => ?_)⟩)
  · have es : tS c ln S = tC c ln S := by unfold tS; rw [if_pos e]
    refine k J4 M2 oo m2 ?_ ?_ k4
    · rw [es]; exact t4
    · rw [es]; exact v4
  · have es : tS c ln S = failF 1 (tC c ln S) := by unfold tS; rw [if_neg (by rw [e]; decide)]
    refine k J5 M2 (oo.tr (dO.tk a5)) m2 ?_ ?_ (k4.fr (fun q2 y1 y2 => a5 q2 (by omega)) (fun _ _ _ => rfl))
    · rw [es]; exact b5
    · rw [es]; exact v4.fail (by omega)
end READ
