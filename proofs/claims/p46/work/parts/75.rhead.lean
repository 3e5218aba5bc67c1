/-! the class reads: head, inputs -/
section RHEAD
variable {I J : TI} {L M : TL} {d : Nat}
theorem TC.fr {c : Nat → Nat} {ln : Nat} {S : PS} (h : TC I c ln S) (e : J 344 = I 344) (e2 : J 350 = I 350) : TC J c ln S := by
  unfold TC at *
  rw [e, e2]
  exact h
def hdZ (H l R F : Nat) : ZT := (((0, 0, H, R, F), (fun _ => 0), (fun _ => 0), (fun _ => 0), (fun _ => 0)), upR (fun _ => 0) 0 (lN l))
/-- a bench, cleared -/
def CL (I : TI) (L : TL) (d : Nat) : Prop := I (d + 1) 4 = 0 ∧ I (d + 1) 5 = 0 ∧ (∀ n, n < 16 → I (d + 5) n = 0) ∧ (∀ n, n < 16 → L (d + 12) n = 0 ∧ L (d + 13) n = 0 ∧ L (d + 14) n = 0) ∧ I (d + 6) 7 = 0 ∧ ∀ p, p < 3 → I (d + 15) p = 0
theorem CL.kc {H l R F : Nat} (h : CL I L d) (hl : l < 2 ^ 31) (h6 : I (d + 1) 6 = nI H) (h7 : I (d + 1) 7 = nI R) (h8 : I (d + 1) 8 = nI F) (h9 : I (d + 6) 8 = nI l) : KC I L d (hdZ H l R F) := by
  obtain ⟨a1, a2, a3, a4, a5, a6⟩ := h
  have z : ∀ i, i ≠ 0 → (hdZ H l R F).2 i = 0 := fun i hi => by
    show upR (fun _ => 0) 0 (lN l) i = 0
    rw [upR_n hi]
  refine ⟨⟨a1, a2, h6, h7, h8, fun g hg => absurd hg (Nat.not_lt_zero _), fun n hn => absurd hn (Nat.not_lt_zero _)⟩, ⟨?_, fun p hp => ?_, ?_, fun n hn => absurd hn (Nat.not_lt_zero _), fun g hg => absurd hg (Nat.not_lt_zero _), fun k hk => ?_⟩, fun n _ b => ⟨a3 n b, rfl⟩, a4, fun i a _ => z i (by omega), z 4 (by decide)⟩
  · show _ = nI (un (upR (fun _ => 0) 0 (lN l) 0))
    rw [upR_s, un_lN (by omega)]
    exact h9
  · rw [z (1 + p) (by omega)]
    exact a6 p hp
  · rw [z 4 (by decide)]
    exact a5
  · rw [z 4 (by decide)] at hk
    exact absurd hk (Nat.not_lt_zero _)
def hA (c : Nat → Nat) (ln : Nat) (S : PS) : PS := takeW c ln 1171592 S
def hB (c : Nat → Nat) (ln : Nat) (S : PS) : PS := takeN c ln 4 60 (hA c ln S)
def hC (c : Nat → Nat) (ln : Nat) (S : PS) : PS := takeN c ln 1 20 (hB c ln S)
def hD (c : Nat → Nat) (ln : Nat) (S : PS) : PS := takeN c ln 0 9 (hC c ln S)
def hE (c : Nat → Nat) (ln : Nat) (S : PS) : PS := takeN c ln 0 99 (hD c ln S)
def hF (c : Nat → Nat) (ln : Nat) (S : PS) : PS := takeS c ln 59 (hE c ln S)
def hZ (c : Nat → Nat) (ln : Nat) (S : PS) : ZT := hdZ (peekV c 4 60 (hA c ln S)) (peekV c 1 20 (hB c ln S)) (peekV c 0 9 (hC c ln S)) (peekV c 0 99 (hD c ln S))
theorem PX.hF {c : Nat → Nat} {ln : Nat} {S : PS} (v : PX c ln S) : PX c ln (hF c ln S) := v.takeW.takeN.takeN.takeN.takeN.takeS
theorem w_bench : wOK 1 1171592 := by unfold wOK; decide +kernel
theorem w_input : wOK 2 5070782 := by unfold wOK; decide +kernel
theorem w_gate : wOK 3 139055 := by unfold wOK; decide +kernel
theorem w_purses : wOK 11 241111072 := by unfold wOK; decide +kernel
/-- rows of the bench in work, and of tokens -/
def dO (d : Nat) (I J : TI) : Prop := ∀ q, q ≠ 344 → (q ≤ d ∨ d + 36 < q) → J q = I q
theorem dO.tr {K : TI} (h : dO d I J) (h2 : dO d J K) : dO d I K := fun q a b => (h2 q a b).trans (h q a b)
theorem dO.tk (h : ∀ q, q ≠ 344 → J q = I q) : dO d I J := fun q a _ => h q a
theorem dO.up {r j : Nat} {x : Int32} (h1 : d < r) (h2 : r ≤ d + 36) : dO d I (up2 I r j x) := fun q _ b => up2_row (by omega)
theorem c_readHead {Q : TI → Prop} {c : Nat → Nat} {ln : Nat} {S : PS} (hd : 351 < d) (hc : txV c ln) (h : TC I c ln S) (v : PX c ln S) (hL : CL I L d) (k : ∀ J, dO d I J → TC J c ln (hF c ln S) → KC J L d (hZ c ln S) → Q J) : W_X1_readHead d I L 350 Q := by
  unfold W_X1_readHead
  refine c_takeWord w_bench rfl hc h v (fun J1 a1 b1 => ?_)
  have v1 : PX c ln (hA c ln S) := v.takeW
  refine c_takeNumber (lo := 4) (hi := 60) rfl rfl (by omega) (by omega) hc b1 v1 (fun J2 a2 b2 => ?_)
  have v2 : PX c ln (hB c ln S) := v1.takeN
  refine c_takeNumber (lo := 1) (hi := 20) rfl rfl (by omega) (by omega) hc (b2.fr (up2_row (by omega)) (up2_row (by omega))) v2 (fun J3 a3 b3 => ?_)
  have v3 : PX c ln (hC c ln S) := v2.takeN
  refine c_takeNumber (lo := 0) (hi := 9) rfl rfl (by omega) (by omega) hc (b3.fr (up2_row (by omega)) (up2_row (by omega))) v3 (fun J4 a4 b4 => ?_)
  have v4 : PX c ln (hD c ln S) := v3.takeN
  refine c_takeNumber (lo := 0) (hi := 99) rfl rfl (by omega) (by omega) hc (b4.fr (up2_row (by omega)) (up2_row (by omega))) v4 (fun J5 a5 b5 => ?_)
  have v5 : PX c ln (hE c ln S) := v4.takeN
  refine c_takeSign (b := 59) rfl (by omega) hc (b5.fr (up2_row (by omega)) (up2_row (by omega))) v5 (fun J6 a6 b6 => ?_)
  have r : ∀ q, q ≠ 344 → q ≠ d + 1 → q ≠ d + 6 → J6 q = I q := fun q y1 y2 y3 => by
    rw [a6 q y1, up2_row y2, a5 q y1, up2_row y2, a4 q y1, up2_row y3, a3 q y1, up2_row y2, a2 q y1, a1 q y1]
  have g1 : ∀ j, j ≠ 6 → j ≠ 7 → j ≠ 8 → J6 (d + 1) j = I (d + 1) j := fun j y1 y2 y3 => by
    rw [a6 _ (by omega), up2_n (Or.inr y3), a5 _ (by omega), up2_n (Or.inr y2), a4 _ (by omega), up2_row (by omega), a3 _ (by omega), up2_n (Or.inr y1), a2 _ (by omega), a1 _ (by omega)]
  have pb := peekV_b (c := c) (lo := 1) (hi := 20) (S := hB c ln S) (by omega)
  refine k J6 (fun q y1 y2 => r q y1 (by omega) (by omega)) b6 (CL.kc ⟨?_, ?_, fun n hn => ?_, hL.2.2.2.1, ?_, fun p hp => ?_⟩ (by omega) ?_ ?_ ?_ ?_)
  · rw [g1 4 (by decide) (by decide) (by decide)]; exact hL.1
  · rw [g1 5 (by decide) (by decide) (by decide)]; exact hL.2.1
  · rw [r _ (by omega) (by omega) (by omega)]; exact hL.2.2.1 n hn
  · rw [a6 _ (by omega), up2_row (by omega), a5 _ (by omega), up2_row (by omega), a4 _ (by omega), up2_n (Or.inr (by decide)), a3 _ (by omega), up2_row (by omega), a2 _ (by omega), a1 _ (by omega)]; exact hL.2.2.2.2.1
  · rw [r _ (by omega) (by omega) (by omega)]; exact hL.2.2.2.2.2 p hp
  · rw [a6 _ (by omega), up2_n (Or.inr (by decide)), a5 _ (by omega), up2_n (Or.inr (by decide)), a4 _ (by omega), up2_row (by omega), a3 _ (by omega), up2_s]; rfl
  · rw [a6 _ (by omega), up2_n (Or.inr (by decide)), a5 _ (by omega), up2_s]; rfl
  · rw [a6 _ (by omega), up2_s]; rfl
  · rw [a6 _ (by omega), up2_row (by omega), a5 _ (by omega), up2_row (by omega), a4 _ (by omega), up2_s]; rfl
/-- the inputs -/
def inL (c : Nat → Nat) (ln : Nat) : Nat → PS → ZT → PS × ZT
  | 0, S, Z => (S, Z)
  | n + 1, S, Z => if wdB c S 5070782 = true then (if n ≠ 0 then inL c ln n (rdWave c ln (cH Z.1) (advF c ln S)).2 (adI Z (rdWave c ln (cH Z.1) (advF c ln S)).1) else inL c ln n (failF 3 S) Z) else (S, Z)
def inS (c : Nat → Nat) (S : PS) : PS := if wdB c S 5070782 = true then S else failF 1 S
theorem PX.inS {c : Nat → Nat} {ln : Nat} {S : PS} (v : PX c ln S) : PX c ln (inS c S) := by
  unfold CGlitchCourtLaw_law_r2238_8e8914.inS
  split
  · exact v
  · exact v.fail (by omega)
theorem c_readInputs {Q : TI → TL → Prop} {c : Nat → Nat} {ln : Nat} {S : PS} {Z : ZT} (hd : 351 < d) (hc : txV c ln) (h : TC I c ln S) (v : PX c ln S) (hK : KC I L d Z) (hH : 4 ≤ cH Z.1 ∧ cH Z.1 ≤ 60) (hI : cI Z.1 = 0) (hG : cG Z.1 = 0) (k : ∀ J M, dO d I J → (∀ q, q ≠ d + 11 → M q = L q) → TC J c ln (inL c ln 5 (inS c S) Z).1 → PX c ln (inL c ln 5 (inS c S) Z).1 → KC J M d (inL c ln 5 (inS c S) Z).2 → Q J M) : W_X1_readInputs d I L 350 Q := by
  have go : ∀ I0, dO d I I0 → TC I0 c ln (inS c S) → KC I0 L d Z → B_X1_readInputs_14 d I0 L 350 Q := by
    intro I0 o0 t0 k0
    unfold B_X1_readInputs_14
    refine lp3 (fun n m i l => L_X1_readInputs_16 d 350 Q n m i l) (fun m i l => ∃ j S2 Z2, m = nI j ∧ j ≤ 5 ∧ dO d I i ∧ (∀ q, q ≠ d + 11 → l q = L q) ∧ TC i c ln S2 ∧ PX c ln S2 ∧ KC i l d Z2 ∧ (cH Z2.1 = cH Z.1) ∧ cG Z2.1 = 0 ∧ (cI Z2.1 ≤ j ∧ (j ≤ 4 → cI Z2.1 = j)) ∧ inL c ln (5 - j) S2 Z2 = inL c ln 5 (inS c S) Z) (fun m _ _ => 6 - m.toNatClampNeg) ?_ _ _ _ ⟨0, _, Z, rfl, Nat.zero_le _, o0, fun _ _ => rfl, t0, v.inS, k0, rfl, hG, ⟨by omega, fun _ => hI⟩, rfl⟩
    rintro n m i l ⟨j, S2, Z2, rfl, j1, oi, ol, it, iv, ik, iH, iG, ⟨iI, iJ⟩, ie⟩ ih
    have done : inL c ln 5 (inS c S) Z = (S2, Z2) → Q i l := by
      intro e
      have := k i l oi ol
      rw [e] at this
      exact this it iv ik
    refine pk_lt 4 j (fun q => ?_) (fun q => ?_) rfl rfl (by omega) (by omega)
    · have : j = 5 := by omega
      subst this
      exact done ie.symm
    · obtain ⟨m2, hm2⟩ : ∃ m2, 5 - j = m2 + 1 := ⟨4 - j, by omega⟩
      rw [hm2] at ie
      unfold inL at ie
      refine c_isWord w_input rfl hc it iv (fun e => ⟨fun z => absurd z (by decide), fun _ => ?_⟩) (fun e => ⟨fun _ => done ?_, fun z => absurd rfl z⟩)
      · rw [if_pos e] at ie
        have e4 : nI j = 4 ↔ j = 4 := nI_eq (b := 4) (by omega) (by omega)
        refine ⟨fun y => ?_, fun y => ?_⟩
        · have j4 : j ≠ 4 := fun z => y (e4.mpr z)
          rw [if_pos (show m2 ≠ 0 by omega)] at ie
          have cj := iJ (by omega)
          refine c_adv hc it iv.1 (fun J2 a2 b2 => ?_)
          have k2 : KC J2 l d Z2 := ik.fr (fun q2 y1 y2 => a2 q2 (by omega)) (fun _ _ _ => rfl)
          have h6 : J2 (d + 1) 6 = nI (cH Z2.1) := k2.1.2.2.1
          refine c_readWave (H := cH Z2.1) h6 (by omega) (by omega) hc b2 iv.adv (fun J3 a3 b3 => ?_)
          have k3 : KC J3 l d Z2 := k2.fr (fun q2 y1 y2 => a3 q2 (by omega)) (fun _ _ _ => rfl)
          have rv := rdWave_v (c := c) (ln := ln) (H := cH Z2.1) (S := advF c ln S2) (by omega) iv.adv
          have h4 : J3 (d + 1) 4 = nI (cI Z2.1) := k3.1.1
          rw [pk_cl j rfl (by omega)]
          refine ⟨pk_in j 4 (by omega) rfl, ?_⟩
          unfold B_X1_readInputs_80
          rw [h4, nI_1, nI_1]
          have k4 := k3.adI (w := (rdWave c ln (cH Z2.1) (advF c ln S2)).1) (by omega) iG
          rw [cj] at k4 ⊢
          refine ih _ _ _ ⟨j + 1, _, adI Z2 (rdWave c ln (cH Z2.1) (advF c ln S2)).1, rfl, by omega, (oi.tr (dO.tk a2)).tr ((dO.tk a3).tr (dO.up (by omega) (by omega))), fun q2 y1 => by rw [up2_row y1]; exact ol q2 y1, b3.fr (up2_row (by omega)) (up2_row (by omega)), rv.1, k4, iH, iG, ⟨by show cI Z2.1 + 1 ≤ j + 1; omega, fun _ => by show cI Z2.1 + 1 = j + 1; omega⟩, ?_⟩ (by rw [nI_clamp (by omega), nI_clamp (by omega)]; omega)
          rw [show 5 - (j + 1) = m2 by omega]
          exact ie
        · have j4 : j = 4 := e4.mp y
          rw [if_neg (show ¬ m2 ≠ 0 by omega)] at ie
          refine c_fail (code := 3) it iv.1 rfl (fun J2 a2 b2 => ?_)
          unfold B_X1_readInputs_80
          rw [nI_1]
          refine ih _ _ _ ⟨j + 1, _, Z2, rfl, by omega, oi.tr (dO.tk a2), ol, b2, iv.fail (by omega), ik.fr (fun q2 y1 y2 => a2 q2 (by omega)) (fun _ _ _ => rfl), iH, iG, ⟨by omega, fun z => by omega⟩, ?_⟩ (by rw [nI_clamp (by omega), nI_clamp (by omega)]; omega)
          rw [show 5 - (j + 1) = m2 by omega]
          exact ie
      · rw [if_neg (by rw [e]; decide)] at ie
        exact ie.symm
  unfold W_X1_readInputs
  refine c_isWord w_input rfl hc h v (fun e => ⟨fun _ => go I (fun _ _ _ => rfl) ?_ hK, fun z => absurd z (by decide)⟩) (fun e => ⟨fun z => absurd rfl z, fun _ => c_fail (code := 1) h v.1 rfl (fun J2 a2 b2 => go J2 (dO.tk a2) ?_ (hK.fr (fun q2 y1 y2 => a2 q2 (by omega)) (fun _ _ _ => rfl)))⟩)
  · unfold inS
    rw [if_pos e]
    exact h
  · unfold inS
    rw [if_neg (by rw [e]; decide)]
    exact b2
end RHEAD
