/-! load -/
section LOAD
variable {I J : TI} {L M : TL} {b d B : Nat} {X : XT}
/-- another row, alike at 241 places -/
def rowX (X : XT) (r : RW) : XT := (xC X, r, X.2.2)
theorem ci_row {r : RW} (h : CI I L b d X) (hV : XV X B) (e : rq (xr X) r) : CI I L b d (rowX X r) := by
  obtain ⟨h1, h2, h3⟩ := h
  exact ⟨h1, h2.st hV.1 (fun k a c => e k (by omega)) (h2.2.1.cg hV.1 hV.2.1 e) (fun _ _ _ _ => ⟨rfl, rfl⟩), h3⟩
theorem xv_row {r : RW} (hV : XV X B) (e : rq (xr X) r) : XV (rowX X r) B := ⟨hV.1, hV.2.1.cg hV.1 e, hV.2.2⟩
/-- buffer, error, text anew, and whatever the draft holds -/
theorem ci_io2 (h : CI I L b d X) (hV : XV X B) {f : Nat × (Nat → Nat)} {e : Int32} {l : Nat × (Nat → Int32)} (eI : ∀ q, q < 436 → q ≠ 0 → (q < 344 ∨ 351 < q) → (q < d ∨ d + 41 < q) → J q = I q) (e2 : ∀ q, q < 436 → (q < d ∨ d + 41 < q) → M q = L q) (h7 : J 0 7 = nI f.1) (hb : ∀ i, i < f.1 → J 350 i = (nI (f.2 i)).toInt8.toInt32) (h9 : J 0 9 = e) (h8 : J 0 8 = nI l.1) (ht : ∀ i, i < l.1 → J 351 i = l.2 i) : CI J M b d (ioX X f e l) := by
  obtain ⟨h1, h2, ⟨h3, nx, h4, h5, h6⟩, hs, -⟩ := h
  have hbl := bn_lt h1.1
  have hdl := bn_lt h1.2.1
  have hsep : b + 41 < d ∨ d + 41 < b := by
    obtain ⟨q1, q2, q3⟩ := h1
    rcases q1 with rfl | rfl <;> rcases q2 with rfl | rfl <;> omega
  refine ⟨h1, h2.fr hV.2.1.2.2.1 (fun k a c => eI k (by omega) (by omega) (by omega) (by omega)) (fun k a c => e2 k (by omega) (by omega)), ⟨by rw [eI 1 (by omega) (by omega) (by omega) (by omega)]; exact h3, nx, h4, by rw [eI 1 (by omega) (by omega) (by omega) (by omega)]; exact h5, fun j hj => ?_⟩, ⟨fun q => by rw [eI 1 (by omega) (by omega) (by omega) (by omega)]; exact hs.1 q, fun s hs2 => ?_⟩, ⟨h7, hb⟩, h9, h8, ht⟩
  · have hm : (nx + 10 - xk X + j) % 10 < 10 := Nat.mod_lt _ (by omega)
    have hm2 : (nx + 10 - xk X + j) % 10 ≤ 9 := by omega
    exact (h6 j hj).fr (hV.2.2.1.2 j hj).2.2.1 (fun k a c => eI k (by omega) (by omega) (by omega) (by omega)) (fun k a c => e2 k (by omega) (by omega))
  · rw [eI 1 (by omega) (by omega) (by omega) (by omega)]
    exact ⟨(hs.2 s hs2).1, (hs.2 s hs2).2.fr (hV.2.2.2.1 s hs2).2.2.1 (fun k a c => eI k (by omega) (by omega) (by omega) (by omega)) (fun k a c => e2 k (by omega) (by omega))⟩
def ldX (X : XT) (Z : ZT) (r : RW) (e : Int32) : XT := (Z.1, r, (0, xh X), none, (0, xb X), e, X.2.2.2.2.2.2)
theorem m_load {Q : Int32 → TI → TL → Prop} {n : Nat} {U : PS} {Z : ZT} (hM : MI I L X) (hG : cG (xC X) ≤ 12) (hn : n < xf X + 1) (hf : xf X ≤ 600) (hc : txV (xb X) n) (hU : U = tS (xb X) n (tS0 (xb X) n)) (hZ : Z = tZ (xb X) n (tS0 (xb X) n)) (v : PX (xb X) n U)
    (good : er U = 0 → ∀ J M, MI J M (ldX X Z (M 437) (ep U)) → (∀ i, i < 241 → M 437 i = Z.2 i) → lowI I J → lowL L M → M 456 = L 456 → J 436 0 = 0 → Q (nI (cI Z.1 + cG Z.1)) J M)
    (bad : er U ≠ 0 → ∀ J M, MI J M (rowX (ioX X (0, xb X) (ep U) (xl X, xt X)) (M 437)) → rq (xr X) (M 437) → lowI I J → lowL L M → M 456 = L 456 → J 436 0 = 0 → Q ((-10 : Int32) - nI (er U)) J M) : W_X9_load (nI n) I L Q := by
  obtain ⟨mc, mr, ⟨mk, mh⟩, ms, ⟨m7, m8⟩, m9, m10, m11⟩ := id hM
  have f0 : (up2 I 436 0 0) 436 0 = 0 := up2_s
  have fj : ∀ j, j ≠ 0 → (up2 I 436 0 0) 436 j = I 436 j := fun j hj => up2_n (Or.inr hj)
  have fq : ∀ q, q ≠ 436 → (up2 I 436 0 0) q = I q := fun q hq => up2_row hq
  unfold W_X9_load
  generalize up2 I 436 0 0 = I1 at f0 fj fq
  refine s_in (a := 0) (c := xf X + 1) rfl rfl ?_ (by omega) (by omega) (by omega) (fun _ => s_fails1 ⟨fun _ => ?_, fun z => absurd rfl z⟩) (fun e => absurd (rgi (Nat.zero_le _) hn) e)
  · rw [fj 22 (by decide), m7]
    congr 1
    exact (nI_pred _).symm
  refine m_saveL (fun M1 a1 a2 => m_saveI (fun J1 b1 b2 => ?_))
  refine m_starts (c := xb X) hc rfl (fun i hi => ?_) (fun J2 M2 d1 d2 d3 d4 t2 => ?_)
  · rw [b1 447 (by decide) (by decide) (by decide), fq 447 (by decide)]
    exact m8 i (by omega)
  refine m_reads hc t2 tS0_v (fun J3 M3 o3 p3 t3 k3 => ?_)
  rw [← hU] at t3
  rw [← hZ] at k3
  -- what stays
  have jr : ∀ q, q ≠ 436 → q ≠ 441 → q ≠ 442 → q ≠ 443 → q ≠ 448 → q ≠ 449 → q ≠ 450 → J3 q = I q := fun q y1 y2 y3 y4 y5 y6 y7 => by rw [o3.1 q y1 y2 y3 y4, d1 q y1, b1 q y5 y6 y7, fq q y1]
  have jw : ∀ q, q = 448 ∨ q = 449 ∨ q = 450 → J3 q = J1 q := fun q y => by rw [o3.1 q (by omega) (by omega) (by omega) (by omega), d1 q (by omega)]
  have j1 : J1 436 = I1 436 := b1 436 (by decide) (by decide) (by decide)
  have jj : ∀ j, (j < 7 ∨ (11 < j ∧ j < 22) ∨ 30 < j) → J3 436 j = I1 436 j := fun j y => by rw [o3.2 j (by omega), d2 j (by omega), j1]
  have j22 : J3 436 22 = 0 := by rw [o3.2 22 (by omega), d3]
  have j30 : J3 436 30 = ep U := t3.1.2.2.2.2.2.2.2
  have lr : ∀ q, q ≠ 436 → q ≠ 437 → q ≠ 438 → M3 q = L q := fun q y1 y2 y3 => by rw [p3 q y1 y2, d4 q y1, a1 q y3]
  have l38 : ∀ i, i < 241 → M3 438 i = L 437 i := fun i hi => by rw [p3 438 (by decide) (by decide), d4 438 (by decide)]; exact a2 i hi
  refine m_good t3 v.1 (fun e0 => ⟨fun _ => ?_, fun z => absurd rfl z⟩) (fun e0 => ⟨fun z => absurd z (by decide), fun _ => ?_⟩)
  · refine m_backL (fun M4 a4 b4 => m_backI (fun J4 e1 e2 e7 e8 e9 e10 e11 e12 => ?_))
    rw [t3.1.2.2.2.2.2.2.1]
    have kj : ∀ j, (j < 7 ∨ (11 < j ∧ j < 22) ∨ 30 < j) → J4 436 j = I1 436 j := fun j y => by rw [e2 j (by omega), jj j y]
    have kr : ∀ q, q ≠ 436 → q ≠ 441 → q ≠ 442 → q ≠ 443 → q ≠ 448 → q ≠ 449 → q ≠ 450 → J4 q = I q := fun q y1 y2 y3 y4 y5 y6 y7 => by rw [e1 q y1 y2 y3 y4, jr q y1 y2 y3 y4 y5 y6 y7]
    have row : rq (xr X) (M4 437) := fun i hi => by rw [b4 i hi, l38 i hi, mr]
    have lr4 : ∀ q, q ≠ 436 → q ≠ 437 → q ≠ 438 → M4 q = L q := fun q y1 y2 y3 => by rw [a4 q y2, lr q y1 y2 y3]
    have g : ∀ j, 7 ≤ j → j ≤ 11 → J1 436 j = I 436 j := fun j y1 y2 => by rw [j1, fj j (by omega)]
    refine bad e0 J4 M4 ⟨⟨?_, ?_, ?_, ?_, ?_, fun g2 hg2 => ?_⟩, rfl, ⟨?_, fun j hj i hi => ?_⟩, ⟨fun q => ?_, fun s hs => ⟨?_, fun i hi => ?_⟩⟩, ⟨?_, fun i hi => absurd hi (Nat.not_lt_zero _)⟩, ?_, ?_, fun i hi => ?_⟩ row (fun q hq => kr q (by omega) (by omega) (by omega) (by omega) (by omega) (by omega) (by omega)) (fun q hq => lr4 q (by omega) (by omega) (by omega)) (lr4 456 (by decide) (by decide) (by decide)) (by rw [kj 0 (by omega), f0])
    · rw [e10, g 10 (by omega) (by omega)]; exact mc.1
    · rw [e11, g 11 (by omega) (by omega)]; exact mc.2.1
    · rw [e7, g 7 (by omega) (by omega)]; exact mc.2.2.1
    · rw [e8, g 8 (by omega) (by omega)]; exact mc.2.2.2.1
    · rw [e9, g 9 (by omega) (by omega)]; exact mc.2.2.2.2.1
    · have hg3 : g2 < cG (xC X) := hg2
      obtain ⟨y1, y2, y3⟩ := e12 g2 (by omega)
      obtain ⟨z1, z2, z3⟩ := b2 g2 (by omega)
      rw [y1, y2, y3, jw 448 (by omega), jw 449 (by omega), jw 450 (by omega), z1, z2, z3, fq 441 (by decide), fq 442 (by decide), fq 443 (by decide)]
      exact mc.2.2.2.2.2 g2 hg3
    · rw [kj 6 (by omega), fj 6 (by decide)]; exact mk
    · rw [lr4 440 (by decide) (by decide) (by decide)]; exact mh j hj i hi
    · rw [kj 5 (by omega), fj 5 (by decide)]; exact ms.1 q
    · rw [kj 5 (by omega), fj 5 (by decide)]; exact (ms.2 s hs).1
    · rw [lr4 439 (by decide) (by decide) (by decide)]; exact (ms.2 s hs).2 i hi
    · rw [e2 22 (by omega), j22]; rfl
    · rw [e2 30 (by omega)]; exact j30
    · rw [kj 36 (by omega), fj 36 (by decide)]; exact m10
    · rw [kr 452 (by decide) (by decide) (by decide) (by decide) (by decide) (by decide) (by decide)]; exact m11 i hi
  · have eC : er (tC (xb X) n (tS0 (xb X) n)) = 0 := tS_er (by rw [← hU]; exact e0)
    have rk := k3 eC
    have g : ∀ j, j ≠ 5 → j ≠ 6 → (up2 (up2 J3 436 6 0) 436 5 0) 436 j = J3 436 j := fun j y1 y2 => by rw [up2_n (Or.inr y1), up2_n (Or.inr y2)]
    have gq : ∀ q, q ≠ 436 → (up2 (up2 J3 436 6 0) 436 5 0) q = J3 q := fun q y => by rw [up2_row y, up2_row y]
    refine s_nets9 ((rk.1.up (by omega)).up (by omega)) ?_
    refine good e0 _ M3 ⟨(rk.1.up (by omega)).up (by omega), rfl, ⟨?_, fun j hj => absurd hj (Nat.not_lt_zero _)⟩, ⟨fun _ => up2_s, fun s hs => ?_⟩, ⟨?_, fun i hi => absurd hi (Nat.not_lt_zero _)⟩, ?_, ?_, fun i hi => ?_⟩ rk.2 (fun q hq => by rw [gq q (by omega)]; exact jr q (by omega) (by omega) (by omega) (by omega) (by omega) (by omega) (by omega)) (fun q hq => lr q (by omega) (by omega) (by omega)) (lr 456 (by decide) (by decide) (by decide)) (by rw [g 0 (by decide) (by decide), jj 0 (by omega), f0])
    · rw [up2_n (Or.inr (by decide)), up2_s]; rfl
    · have hs : (none : Option RW) = some s := hs
      cases hs
    · rw [g 22 (by decide) (by decide), j22]; rfl
    · rw [g 30 (by decide) (by decide)]; exact j30
    · rw [g 36 (by decide) (by decide), jj 36 (by omega), fj 36 (by decide)]; exact m10
    · rw [gq 452 (by decide), jr 452 (by decide) (by decide) (by decide) (by decide) (by decide) (by decide) (by decide)]; exact m11 i hi
theorem op_load {p1 : Int32} {t : Nat} {P : Int32 → Int32 → TI → TL → Nat → Nat → Nat → Prop} (h : INV I L b d X B) (hB : 100000 ≤ B) (ht : txOK t) (fin : ∀ k r J M b2 d2 t2 X2, txOK t2 → OKL k r.toInt64 J M b2 d2 X2 B → P k r J M b2 d2 t2) : W_L_load p1 I L b d t (fun k I1 L1 b1 d1 t1 => W_X9_load p1 I1 L1 (fun r J M => P k r J M b1 d1 t1)) := by
  obtain ⟨hbb, hdd, hne⟩ := h.2.2.1
  have hbl := bn_lt hbb
  have hdl := bn_lt hdd
  have hsep : b + 41 < d ∨ d + 41 < b := by
    rcases hbb with rfl | rfl <;> rcases hdd with rfl | rfl <;> omega
  have hx := h.1.2.2.2.2.1
  obtain ⟨-, -, ⟨-, nx, c4, c5, -⟩, -, ⟨c7, c8⟩, c9, c10, c11⟩ := id h.2.2
  obtain ⟨-, -, -, -, ⟨m7, m8⟩, m9, m10, m11⟩ := id h.2.1
  have refuse : ¬ rg p1 0 (xf X + 1) → W_X9_load p1 I L (fun r J M => P 1 r J M b d t) := by
    intro hn
    unfold W_X9_load
    refine s_in (a := 0) (c := xf X + 1) rfl rfl ?_ (by omega) (by omega) (by omega) (fun e => absurd e hn) (fun _ => s_fails0 ⟨fun z => absurd z (by decide), fun _ => fin _ _ _ _ _ _ _ X ht (fin1 h.thr.thr up2_s (by decide))⟩)
    rw [up2_n (Or.inr (by decide)), m7]
    congr 1
    exact (nI_pred _).symm
  have key := rg_iff (x := p1) (a := 0) (c := xf X + 1) (by omega) (by omega)
  unfold W_L_load W_X8_load
  by_cases hp : rg p1 0 (xf X + 1)
  · obtain ⟨n, -, hn, rfl⟩ := hp
    refine ⟨fun e => absurd e (nI_pos (by omega)), fun _ => ⟨fun _ => ?_, fun e => ?_⟩⟩
    · have hc : txV (xb X) n := ⟨by omega, fun i hi => hx.2 i (by omega)⟩
      refine c_begin (c := xb X) hc rfl (fun i hi => c8 i (by omega)) (fun J1 a1 t1 => ⟨Or.inr rfl, ?_⟩)
      refine c_clear hdd (fun J2 M2 a2 b2 cl => ?_)
      have t2 : TC J2 (xb X) n (tS0 (xb X) n) := t1.fr (a2 344 (by omega)) (a2 350 (by omega))
      refine c_read (S := tS0 (xb X) n) (by omega) hc t2 tS0_v cl (fun J3 M3 o3 m3 t3 v3 k3 => ?_)
      have zV := tZ_V (c := xb X) (ln := n) (S := tS0 (xb X) n) tS0_v
      have z1 := tZ_1 (c := xb X) (ln := n) (S := tS0 (xb X) n)
      obtain ⟨U, hU⟩ : ∃ U, U = tS (xb X) n (tS0 (xb X) n) := ⟨_, rfl⟩
      obtain ⟨Z, hZ⟩ : ∃ Z, Z = tZ (xb X) n (tS0 (xb X) n) := ⟨_, rfl⟩
      rw [← hU] at t3 v3 z1
      rw [← hZ] at k3 zV z1
      have e9 : (up2 J3 0 7 0) 344 7 = ep U := by rw [up2_row (by decide)]; exact t3.1.2.2.2.2.2.2
      rw [e9]
      have r0 : ∀ q, q ≠ 0 → (up2 (up2 J3 0 7 0) 0 9 (ep U)) q = J3 q := fun q y => by rw [up2_row y, up2_row y]
      have g7 : (up2 (up2 J3 0 7 0) 0 9 (ep U)) 0 7 = 0 := by rw [up2_n (Or.inr (by decide)), up2_s]
      have g9 : (up2 (up2 J3 0 7 0) 0 9 (ep U)) 0 9 = ep U := up2_s
      have go : ∀ j, j ≠ 7 → j ≠ 9 → (up2 (up2 J3 0 7 0) 0 9 (ep U)) 0 j = J3 0 j := fun j y1 y2 => by rw [up2_n (Or.inr y2), up2_n (Or.inr y1)]
      generalize up2 (up2 J3 0 7 0) 0 9 (ep U) = J4 at r0 g7 g9 go
      have t4 : TC J4 (xb X) n U := t3.fr (r0 344 (by decide)) (r0 350 (by decide))
      have i4 : ∀ q, q ≠ 0 → q ≠ 344 → (q ≤ d ∨ d + 36 < q) → J4 q = I q := fun q y1 y2 y3 => by rw [r0 q y1, o3 q y2 y3, a2 q y3, a1 q y2]
      have l4 : ∀ q, (q ≤ d ∨ d + 36 < q) → M3 q = L q := fun q y => by rw [m3 q (by omega), b2 q y]
      have j0 : ∀ j, j ≠ 7 → j ≠ 9 → J4 0 j = I 0 j := fun j y1 y2 => by rw [go j y1 y2, o3 0 (by decide) (by omega), a2 0 (by omega), a1 0 (by decide)]
      have k4 : KC J4 M3 d Z := k3.fr (fun q y1 y2 => r0 q (by omega)) (fun _ _ _ => rfl)
      refine c_failed t4 v3.1 (fun e0 => ⟨fun _ => ?_, fun z => absurd rfl z⟩) (fun e0 => ⟨fun z => absurd z (by decide), fun _ => ?_⟩)
      · have hC := zV.cv (z1 e0)
        have hR := zV.rv hB k4.2.2.2.2.1 k4.2.2.2.2.2
        refine c_refresh hdd hC hR k4.1 k4.2.1 (fun J5 M5 a5 b5 bc5 => ?_)
        unfold W_X4_discardAll
        have s1 : ∀ q, q ≠ 1 → (up2 (up2 J5 1 3 0) 1 2 0) q = J5 q := fun q y => by rw [up2_row y, up2_row y]
        have s13 : (up2 (up2 J5 1 3 0) 1 2 0) 1 3 = 0 := by rw [up2_n (Or.inr (by decide)), up2_s]
        have s12 : (up2 (up2 J5 1 3 0) 1 2 0) 1 2 = 0 := up2_s
        have s14 : (up2 (up2 J5 1 3 0) 1 2 0) 1 4 = nI nx := by rw [up2_n (Or.inr (by decide)), up2_n (Or.inr (by decide)), a5 1 (by omega), i4 1 (by decide) (by decide) (by omega)]; exact c5
        generalize up2 (up2 J5 1 3 0) 1 2 0 = J6 at s1 s13 s12 s14
        refine s_nets2 (bc5.1.fr (fun q y1 y2 => s1 q (by omega))) ⟨hdd, hbb, Or.inr rfl, ?_⟩
        have u1 : ∀ q, q ≠ 456 → (up2 M5 456 0 ((nI (cI Z.1 + cG Z.1)).toInt64)) q = M5 q := fun q y => up2_row y
        have u2 : (up2 M5 456 0 ((nI (cI Z.1 + cG Z.1)).toInt64)) 456 0 = (nI (cI Z.1 + cG Z.1)).toInt64 := up2_s
        generalize up2 M5 456 0 ((nI (cI Z.1 + cG Z.1)).toInt64) = M6 at u1 u2
        have i6 : ∀ q, q ≠ 0 → q ≠ 1 → q ≠ 344 → (q ≤ d ∨ d + 41 < q) → J6 q = I q := fun q y1 y2 y3 y4 => by rw [s1 q y2, a5 q (by omega), i4 q y1 y3 (by omega)]
        have l6 : ∀ q, q ≠ 456 → (q ≤ d ∨ d + 41 < q) → M6 q = L q := fun q y1 y2 => by rw [u1 q y1, b5 q (by omega) (by omega) (by omega), l4 q (by omega)]
        have q0 : ∀ j, J6 0 j = J4 0 j := fun j => by rw [s1 0 (by decide), a5 0 (by omega)]
        have bc6 : BC J6 M6 d Z.1 Z.2 := bc5.fr hR.2.2.1 (fun q y1 y2 => s1 q (by omega)) (fun q y1 y2 => u1 q (by omega))
        have ci6 : CI J6 M6 d b (ldX X Z Z.2 (ep U)) := by
          refine ⟨⟨hdd, hbb, fun z => hne z.symm⟩, bc6, ⟨s13, nx, c4, s14, fun j hj => absurd hj (Nat.not_lt_zero _)⟩, ⟨fun _ => s12, fun s hs => ?_⟩, ⟨by rw [q0 7, g7]; rfl, fun i hi => absurd hi (Nat.not_lt_zero _)⟩, by rw [q0 9]; exact g9, by rw [q0 8, j0 8 (by decide) (by decide)]; exact c10, fun i hi => by rw [i6 351 (by decide) (by decide) (by decide) (by omega)]; exact c11 i hi⟩
          have hs : (none : Option RW) = some s := hs
          cases hs
        have v6 : XV (ldX X Z Z.2 (ep U)) B := by
          refine ⟨hC, hR, ⟨Nat.zero_le _, fun j hj => absurd hj (Nat.not_lt_zero _)⟩, fun s hs => ?_, ⟨Nat.zero_le _, fun i hi => absurd hi (Nat.not_lt_zero _)⟩, h.1.2.2.2.2.2⟩
          have hs : (none : Option RW) = some s := hs
          cases hs
        have mi6 : MI J6 M6 X := h.2.1.hi (fun q hq => i6 q (by omega) (by omega) (by omega) (by omega)) (fun q hq hq2 => l6 q hq2 (by omega))
        refine m_load mi6 h.C.2.1 hn hx.1 hc hU hZ v3 (fun _ J7 M7 y1 y2 y3 y4 y5 y6 => ?_) (fun z => absurd e0 z)
        have rr : rq (xr (ldX X Z Z.2 (ep U))) (M7 437) := fun i hi => y2 i hi
        have v7 : XV (ldX X Z (M7 437) (ep U)) B := xv_row v6 rr
        have ci7 : CI J6 M6 d b (ldX X Z (M7 437) (ep U)) := ci_row ci6 v6 rr
        refine fin _ _ J7 M7 d b 350 (ldX X Z (M7 437) (ep U)) (Or.inr rfl) ⟨y6, fun _ => ?_, v7, y1, ci7.low v7 y3 y4⟩
        rw [y5]
        exact u2
      · refine ⟨hbb, hdd, Or.inr rfl, ?_⟩
        have e6 : J4 344 6 = nI (er U) := t4.1.2.2.2.2.2.1
        rw [e6]
        have u1 : ∀ q, q ≠ 456 → (up2 M3 456 0 (((-10 : Int32) - nI (er U)).toInt64)) q = M3 q := fun q y => up2_row y
        have u2 : (up2 M3 456 0 (((-10 : Int32) - nI (er U)).toInt64)) 456 0 = ((-10 : Int32) - nI (er U)).toInt64 := up2_s
        generalize up2 M3 456 0 (((-10 : Int32) - nI (er U)).toInt64) = M6 at u1 u2
        have l6 : ∀ q, q ≠ 456 → (q ≤ d ∨ d + 36 < q) → M6 q = L q := fun q y1 y2 => by rw [u1 q y1, l4 q y2]
        have mi6 : MI J4 M6 X := h.2.1.hi (fun q hq => i4 q (by omega) (by omega) (by omega)) (fun q hq hq2 => l6 q hq2 (by omega))
        have ci6 : CI J4 M6 b d (ioX X (0, xb X) (ep U) (xl X, xt X)) := ci_io2 h.2.2 h.1 (fun q y1 y2 y3 y4 => i4 q (by omega) (by omega) (by omega)) (fun q y1 y2 => l6 q (by omega) (by omega)) (by rw [g7]; rfl) (fun i hi => absurd hi (Nat.not_lt_zero _)) g9 (by rw [j0 8 (by decide) (by decide)]; exact c10) (fun i hi => by rw [i4 351 (by decide) (by decide) (by omega)]; exact c11 i hi)
        have v6 : XV (ioX X (0, xb X) (ep U) (xl X, xt X)) B := ioX_V h.1 ⟨Nat.zero_le _, fun i hi => absurd hi (Nat.not_lt_zero _)⟩ h.1.2.2.2.2.2
        refine m_load mi6 h.C.2.1 hn hx.1 hc hU hZ v3 (fun z => absurd z e0) (fun _ J7 M7 y1 y2 y3 y4 y5 y6 => ?_)
        have rr : rq (xr (ioX X (0, xb X) (ep U) (xl X, xt X))) (M7 437) := fun i hi => y2 i hi
        have v7 := xv_row v6 rr
        refine fin _ _ J7 M7 b d 350 _ (Or.inr rfl) ⟨y6, fun _ => ?_, v7, y1, (ci_row ci6 v6 rr).low v7 y3 y4⟩
        rw [y5]
        exact u2
    · rw [c7] at e
      exact absurd (nI_le (show n ≤ xf X by omega) (by omega)) e
  · refine ⟨fun _ => ⟨rfl, refuse hp⟩, fun a1 => ⟨fun a2 => absurd (key.mpr ⟨lt_nle.mp a1, ?_⟩) hp, fun _ => ⟨rfl, refuse hp⟩⟩⟩
    rw [c7, Int32.le_iff_toInt_le, nI_toInt (by omega)] at a2
    rw [Int32.lt_iff_toInt_lt, nI_toInt (by omega)]
    omega
end LOAD
