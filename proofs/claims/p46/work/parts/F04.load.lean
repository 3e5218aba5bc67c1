/-! feed and load -/
section JL
variable {I J : TI} {L M : TL} {b d B : Nat} {X : XT}
theorem j_errorPosition {Q : Int32 → Prop} (h : INV I L b d X B) (k : Q (xe X)) : W_X8_errorPosition I L Q := by
  unfold W_X8_errorPosition
  rw [h.2.2.2.2.2.2.2.1]
  exact k
theorem INV.low (h : INV I L b d X B) (e : lowI I J) (e2 : lowL L M) : INV J M b d X B := ⟨h.1, trivial, h.2.2.low h.1 e e2⟩
theorem j_load {Q : Int32 → TI → TL → Nat → Nat → Nat → Prop} {QX : String → TI → TL → Nat → Nat → Nat → Prop} {t n : Nat} {x : Int32} {U : PS} {Z : ZT} (h : INV I L b d X B) (hB : 100000 ≤ B) (hx : x = nI n) (hn : n ≤ xf X) (hU : U = tS (xb X) n (tS0 (xb X) n)) (hZ : Z = tZ (xb X) n (tS0 (xb X) n)) (e0 : er U = 0)
    (k : ∀ J M X2, INV J M d b X2 B → xC X2 = Z.1 → xr X2 = Z.2 → xe X2 = ep U → Z.2 4 = 0 → hiI I J → Q (nI (cI Z.1 + cG Z.1)) J M d b 350) : W_X8_load x I L b d t Q QX := by
  subst hx
  obtain ⟨hbb, hdd, hne⟩ := h.2.2.1
  have hbl := bn_lt hbb
  have hdl := bn_lt hdd
  have hsep : b + 41 < d ∨ d + 41 < b := by
    rcases hbb with rfl | rfl <;> rcases hdd with rfl | rfl <;> omega
  have hx := h.1.2.2.2.2.1
  obtain ⟨-, -, ⟨-, nx, c4, c5, -⟩, -, ⟨c7, c8⟩, c9, c10, c11⟩ := id h.2.2
  unfold W_X8_load
  refine ⟨fun e => absurd e (nI_pos (by omega)), fun _ => ⟨fun _ => ?_, fun e => ?_⟩⟩
  · have hc : txV (xb X) n := ⟨by omega, fun i hi => hx.2 i (by omega)⟩
    refine c_begin (c := xb X) hc rfl (fun i hi => c8 i (by omega)) (fun J1 a1 t1 => ⟨Or.inr rfl, ?_⟩)
    refine c_clear hdd (fun J2 M2 a2 b2 cl => ?_)
    have t2 : TC J2 (xb X) n (tS0 (xb X) n) := t1.fr (a2 344 (by omega)) (a2 350 (by omega))
    refine c_read (S := tS0 (xb X) n) (by omega) hc t2 tS0_v cl (fun J3 M3 o3 m3 t3 v3 k3 => ?_)
    have zV := tZ_V (c := xb X) (ln := n) (S := tS0 (xb X) n) tS0_v
    have z1 := tZ_1 (c := xb X) (ln := n) (S := tS0 (xb X) n)
    rw [← hU] at t3 v3 z1
    rw [← hZ] at k3 zV z1
    have e9 : (up2 J3 0 7 0) 344 7 = ep U := by rw [up2_row (by decide)]; exact t3.1.2.2.2.2.2.2
    rw [e9]
    have r0 : ∀ q, q ≠ 0 → (up2 (up2 J3 0 7 0) 0 9 (ep U)) q = J3 q := fun q y => by rw [up2_row y, up2_row y]
    have g7 : (up2 (up2 J3 0 7 0) 0 9 (ep U)) 0 7 = 0 := by rw [up2_n (Or.inr (by decide)), up2_s]
    have g9 : (up2 (up2 J3 0 7 0) 0 9 (ep U)) 0 9 = ep U := up2_s
    have go : ∀ j, j ≠ 7 → j ≠ 9 → (up2 (up2 J3 0 7 0) 0 9 (ep U)) 0 j = J3 0 j := fun j y1 y2 => by rw [up2_n (Or.inr y2), up2_n (Or.inr y1)]
    generalize up2 (up2 J3 0 7 0) 0 9 (ep U) = J4 at r0 g7 g9 go
    have t4 : TC J4 (xb X) n U := t3.fr (r0 344 (by decide)) (r0 350 (by decide))
    have i4 : ∀ q, q ≠ 0 → q ≠ 344 → (q ≤ d ∨ d + 36 < q) → J4 q = I q := fun q y1 y2 y3 => by rw [r0 q y1, o3 q y2 y3, a2 q y3, a1 q y2]
    have l4 : ∀ q, (q ≤ d ∨ d + 36 < q) → M3 q = L q := fun q y => by rw [m3 q (by omega), b2 q y]
    have j0 : ∀ j, j ≠ 7 → j ≠ 9 → J4 0 j = I 0 j := fun j y1 y2 => by rw [go j y1 y2, o3 0 (by decide) (by omega), a2 0 (by omega), a1 0 (by decide)]
    have k4 : KC J4 M3 d Z := k3.fr (fun q y1 y2 => r0 q (by omega)) (fun _ _ _ => rfl)
    refine c_failed t4 v3.1 (fun e0 => ⟨fun _ => ?_, fun z => absurd rfl z⟩) (fun e => absurd e0 e)
    have hC := zV.cv (z1 e0)
    have hR := zV.rv hB k4.2.2.2.2.1 k4.2.2.2.2.2
    refine c_refresh hdd hC hR k4.1 k4.2.1 (fun J5 M5 a5 b5 bc5 => ?_)
    unfold W_X4_discardAll
    have s1 : ∀ q, q ≠ 1 → (up2 (up2 J5 1 3 0) 1 2 0) q = J5 q := fun q y => by rw [up2_row y, up2_row y]
    have s13 : (up2 (up2 J5 1 3 0) 1 2 0) 1 3 = 0 := by rw [up2_n (Or.inr (by decide)), up2_s]
    have s12 : (up2 (up2 J5 1 3 0) 1 2 0) 1 2 = 0 := up2_s
    have s14 : (up2 (up2 J5 1 3 0) 1 2 0) 1 4 = nI nx := by rw [up2_n (Or.inr (by decide)), up2_n (Or.inr (by decide)), a5 1 (by omega), i4 1 (by decide) (by decide) (by omega)]; exact c5
    generalize up2 (up2 J5 1 3 0) 1 2 0 = J6 at s1 s13 s12 s14
    refine s_nets2 (bc5.1.fr (fun q y1 y2 => s1 q (by omega))) ?_
    have i6 : ∀ q, q ≠ 0 → q ≠ 1 → q ≠ 344 → (q ≤ d ∨ d + 41 < q) → J6 q = I q := fun q y1 y2 y3 y4 => by rw [s1 q y2, a5 q (by omega), i4 q y1 y3 (by omega)]
    have l6 : ∀ q, (q ≤ d ∨ d + 41 < q) → M5 q = L q := fun q y2 => by rw [b5 q (by omega) (by omega) (by omega), l4 q (by omega)]
    have q0 : ∀ j, J6 0 j = J4 0 j := fun j => by rw [s1 0 (by decide), a5 0 (by omega)]
    have bc6 : BC J6 M5 d Z.1 Z.2 := bc5.fr hR.2.2.1 (fun q y1 y2 => s1 q (by omega)) (fun q y1 y2 => rfl)
    have ci6 : CI J6 M5 d b (ldX X Z Z.2 (ep U)) := by
      refine ⟨⟨hdd, hbb, fun z => hne z.symm⟩, bc6, ⟨s13, nx, c4, s14, fun j hj => absurd hj (Nat.not_lt_zero _)⟩, ⟨fun _ => s12, fun s hs => ?_⟩, ⟨by rw [q0 7, g7]; rfl, fun i hi => absurd hi (Nat.not_lt_zero _)⟩, by rw [q0 9]; exact g9, by rw [q0 8, j0 8 (by decide) (by decide)]; exact c10, fun i hi => by rw [i6 351 (by decide) (by decide) (by decide) (by omega)]; exact c11 i hi⟩
      have hs : (none : Option RW) = some s := hs
      cases hs
    have v6 : XV (ldX X Z Z.2 (ep U)) B := by
      refine ⟨hC, hR, ⟨Nat.zero_le _, fun j hj => absurd hj (Nat.not_lt_zero _)⟩, fun s hs => ?_, ⟨Nat.zero_le _, fun i hi => absurd hi (Nat.not_lt_zero _)⟩, h.1.2.2.2.2.2⟩
      have hs : (none : Option RW) = some s := hs
      cases hs
    exact k J6 M5 (ldX X Z Z.2 (ep U)) ⟨v6, trivial, ci6⟩ rfl rfl rfl k4.2.2.2.2.2 (fun q hq => i6 q (by omega) (by omega) (by omega) (by omega))
  · rw [c7] at e
    exact absurd (nI_le hn (by omega)) e
/-! what the law has written, as bytes -/
/-- size and bytes of the law's text -/
def WT (I : TI) (sz : Nat) (tb : Nat → Nat) : Prop := I 436 1 = nI sz ∧ sz ≤ 600 ∧ ∀ i, i < sz → I 437 i = nI (tb i) ∧ tb i < 128
def tbF (tb : Nat → Nat) (sz i : Nat) : Nat := if i < sz then tb i else 32
theorem tbF_lt {I : TI} {sz : Nat} {tb : Nat → Nat} (h : WT I sz tb) (i : Nat) : tbF tb sz i < 128 := by
  unfold tbF
  split
  · exact (h.2.2 i ‹_›).2
  · omega
theorem fdB_n {I : TI} {sz : Nat} {tb : Nat → Nat} (h : WT I sz tb) (i : Nat) : fdB I sz i = nI (tbF tb sz i) := by
  unfold fdB tbF
  split
  · exact (h.2.2 i ‹_›).1
  · rfl
def pk4 (a b c e : Nat) : Nat := ((a * 256 + b) * 256 + c) * 256 + e
theorem sh8 {n m : Nat} (hn : n < 2 ^ 24) (hm : m < 256) : (nI n <<< 8) ||| nI m = nI (n * 256 + m) := by
  rw [pk_shlN (n := n) 8 8 (by decide) (by omega), nI_or]
  congr 1
  have e := Nat.shiftLeft_add_eq_or_of_lt (show m < 2 ^ 8 by omega) n
  rw [Nat.shiftLeft_eq] at e
  exact e.symm
theorem fdW_n {I : TI} {sz : Nat} {tb : Nat → Nat} (h : WT I sz tb) (i : Nat) : fdW I sz i = nI (pk4 (tbF tb sz i) (tbF tb sz (i + 1)) (tbF tb sz (i + 2)) (tbF tb sz (i + 3))) := by
  have h0 := tbF_lt h i
  have h1 := tbF_lt h (i + 1)
  have h2 := tbF_lt h (i + 2)
  have h3 := tbF_lt h (i + 3)
  unfold fdW pk4
  rw [fdB_n h, fdB_n h, fdB_n h, fdB_n h, show (0 : Int32) = nI 0 from rfl, sh8 (by omega) (by omega), Nat.zero_mul, Nat.zero_add, sh8 (by omega) (by omega), sh8 (by omega) (by omega), sh8 (by omega) (by omega)]
theorem pk4_k (a b c e : Nat) (ha : a < 256) (hb : b < 256) (hc : c < 256) (he : e < 256) : pk4 a b c e < 2 ^ 32 ∧ pk4 a b c e / 2 ^ sft 0 % 256 = a ∧ pk4 a b c e / 2 ^ sft 1 % 256 = b ∧ pk4 a b c e / 2 ^ sft 2 % 256 = c ∧ pk4 a b c e / 2 ^ sft 3 % 256 = e := by
  unfold pk4 sft
  refine ⟨by omega, ?_, ?_, ?_, ?_⟩
  · show _ / 16777216 % 256 = a
    omega
  · show _ / 65536 % 256 = b
    omega
  · show _ / 256 % 256 = c
    omega
  · show _ / 1 % 256 = e
    omega
/-- four bytes more -/
theorem xtn_n {I : TI} {sz f : Nat} {tb c : Nat → Nat} (h : WT I sz tb) (hc : ∀ i, i < f → c i = tbF tb sz i) : ∀ i, i < f + 4 → xtn c f (pk4 (tbF tb sz f) (tbF tb sz (f + 1)) (tbF tb sz (f + 2)) (tbF tb sz (f + 3))) i = tbF tb sz i := by
  intro i hi
  have h0 := tbF_lt h f
  have h1 := tbF_lt h (f + 1)
  have h2 := tbF_lt h (f + 2)
  have h3 := tbF_lt h (f + 3)
  obtain ⟨-, k0, k1, k2, k3⟩ := pk4_k (tbF tb sz f) (tbF tb sz (f + 1)) (tbF tb sz (f + 2)) (tbF tb sz (f + 3)) (by omega) (by omega) (by omega) (by omega)
  unfold xtn
  split
  · exact hc i ‹_›
  · have w : i = f ∨ i = f + 1 ∨ i = f + 2 ∨ i = f + 3 := by omega
    rcases w with rfl | rfl | rfl | rfl
    · rw [Nat.sub_self]; exact k0
    · rw [Nat.add_sub_cancel_left]; exact k1
    · rw [Nat.add_sub_cancel_left]; exact k2
    · rw [Nat.add_sub_cancel_left]; exact k3
/-- twenty bytes are fed -/
theorem j_feed {Q : Int32 → TI → Prop} {sz : Nat} {tb : Nat → Nat} {w1 w2 w3 w4 w5 : Int32} (h : INV I L b d X B) (hW : WT I sz tb) (hf : xf X ≤ 580) (hc : ∀ i, i < xf X → xb X i = tbF tb sz i)
    (e1 : w1 = fdW I sz (xf X)) (e2 : w2 = fdW I sz (xf X + 4)) (e3 : w3 = fdW I sz (xf X + 8)) (e4 : w4 = fdW I sz (xf X + 12)) (e5 : w5 = fdW I sz (xf X + 16))
    (k : ∀ J X2, INV J L b d X2 B → xf X2 = xf X + 20 → (∀ i, i < xf X2 → xb X2 i = tbF tb sz i) → hiI I J → Q (nI (xf X + 20)) J) : W_X8_feed w1 w2 w3 w4 w5 I L Q := by
  have hbl := bn_lt h.2.2.1.1
  have hx := h.1.2.2.2.2.1
  obtain ⟨-, -, -, -, ⟨c7, c8⟩, c9, c10, c11⟩ := id h.2.2
  have lt : ∀ i, tbF tb sz i < 256 := fun i => by have := tbF_lt hW i; omega
  have pk : ∀ i, pk4 (tbF tb sz i) (tbF tb sz (i + 1)) (tbF tb sz (i + 2)) (tbF tb sz (i + 3)) < 2 ^ 32 := fun i => (pk4_k _ _ _ _ (lt _) (lt _) (lt _) (lt _)).1
  rw [e1, e2, e3, e4, e5, fdW_n hW, fdW_n hW, fdW_n hW, fdW_n hW, fdW_n hW]
  unfold W_X8_feed
  refine ⟨fun _ => ?_, fun e => absurd (by rw [c7]; exact nI_le (b := 580) hf (by omega)) e⟩
  refine c_put (c := xb X) rfl (pk _) (by omega) c7 c8 (fun J1 a1 a2 a3 a4 => ?_)
  refine c_put rfl (pk _) (by omega) a3 a4 (fun J2 b1 b2 b3 b4 => ?_)
  refine c_put rfl (pk _) (by omega) b3 b4 (fun J3 e1 e2 e3 e4 => ?_)
  refine c_put rfl (pk _) (by omega) e3 e4 (fun J4 f1 f2 f3 f4 => ?_)
  refine c_put rfl (pk _) (by omega) f3 f4 (fun J5 g1 g2 g3 g4 => ?_)
  rw [g3]
  have rI : ∀ q, q ≠ 0 → q ≠ 350 → J5 q = I q := fun q y1 y2 => by rw [g1 q y1 y2, f1 q y1 y2, e1 q y1 y2, b1 q y1 y2, a1 q y1 y2]
  have rF : ∀ j, j ≠ 7 → J5 0 j = I 0 j := fun j y => by rw [g2 j y, f2 j y, e2 j y, b2 j y, a2 j y]
  have x1 := xtn_n (f := xf X) (c := xb X) hW hc
  have x2 := xtn_n (f := xf X + 4) hW x1
  have x3 := xtn_n (f := xf X + 8) hW x2
  have x4 := xtn_n (f := xf X + 12) hW x3
  have x5 := xtn_n (f := xf X + 16) hW x4
  obtain ⟨cc, hcc⟩ : ∃ cc, cc = xtn (xtn (xtn (xtn (xtn (xb X) (xf X) (pk4 (tbF tb sz (xf X)) (tbF tb sz (xf X + 1)) (tbF tb sz (xf X + 2)) (tbF tb sz (xf X + 3)))) (xf X + 4) (pk4 (tbF tb sz (xf X + 4)) (tbF tb sz (xf X + 4 + 1)) (tbF tb sz (xf X + 4 + 2)) (tbF tb sz (xf X + 4 + 3)))) (xf X + 8) (pk4 (tbF tb sz (xf X + 8)) (tbF tb sz (xf X + 8 + 1)) (tbF tb sz (xf X + 8 + 2)) (tbF tb sz (xf X + 8 + 3)))) (xf X + 12) (pk4 (tbF tb sz (xf X + 12)) (tbF tb sz (xf X + 12 + 1)) (tbF tb sz (xf X + 12 + 2)) (tbF tb sz (xf X + 12 + 3)))) (xf X + 16) (pk4 (tbF tb sz (xf X + 16)) (tbF tb sz (xf X + 16 + 1)) (tbF tb sz (xf X + 16 + 2)) (tbF tb sz (xf X + 16 + 3))) := ⟨_, rfl⟩
  rw [← hcc] at x5
  have g4 : ∀ i, i < xf X + 20 → J5 350 i = (nI (cc i)).toInt8.toInt32 := by rw [hcc]; exact g4
  have hC2 : CI J5 L b d (ioX X (xf X + 20, cc) (xe X) (xl X, xt X)) := h.2.2.io h.1 (fun q2 y1 y2 y3 => rI q2 y2 (by omega)) (fun _ _ => rfl) g3 g4 (by rw [rF 9 (by decide)]; exact c9) (by rw [rF 8 (by decide)]; exact c10) (fun i hi => by rw [rI 351 (by decide) (by decide)]; exact c11 i hi)
  have hV2 : XV (ioX X (xf X + 20, cc) (xe X) (xl X, xt X)) B := ioX_V h.1 ⟨by show xf X + 20 ≤ 600; omega, fun i hi => by show cc i < 256; rw [x5 i hi]; exact lt i⟩ h.1.2.2.2.2.2
  exact k J5 (ioX X (xf X + 20, cc) (xe X) (xl X, xt X)) ⟨hV2, trivial, hC2⟩ rfl (fun i hi => x5 i hi) (fun q hq => rI q (by omega) (by omega))
theorem WT.hi {sz : Nat} {tb : Nat → Nat} (h : WT I sz tb) (e : J 436 = I 436) (e2 : J 437 = I 437) : WT J sz tb := by
  unfold WT
  rw [e, e2]
  exact h
/-- all that was written is fed -/
theorem s_fdL {Q : Int32 → TI → TL → Prop} {sz : Nat} {tb : Nat → Nat} (hs : sz ≤ 380)
    (k : ∀ J M X2, INV J M b d X2 B → sz ≤ xf X2 → (∀ i, i < xf X2 → xb X2 i = tbF tb sz i) → (∀ j, j ≠ 1 → J 436 j = I 436 j) → J 436 1 = 0 → Q (nI sz) J M) :
    ∀ (n j : Nat) (J : TI) (M : TL) (X2 : XT), sz + 20 ≤ 20 * (j + n) → xf X2 = 20 * j → 20 * j < sz + 20 → INV J M b d X2 B → WT J sz tb → (∀ i, i < xf X2 → xb X2 i = tbF tb sz i) → (∀ i, i ≠ 1 → J 436 i = I 436 i) → fdL Q sz n j J M
  | 0, j, J, M, X2, h1, h2, h3, h4, h5, h6, h7 => by omega
  | n + 1, j, J, M, X2, h1, h2, h3, h4, h5, h6, h7 => by
    refine ⟨fun q => ?_, fun q J1 a1 => ?_⟩
    · refine k _ _ X2 (h4.low (fun q2 hq => up2_row (by omega)) (fun _ _ => rfl)) (by omega) h6 (fun i hi => ?_) up2_s
      rw [up2_n (Or.inr hi), h7 i hi]
    · have w1 : WT J1 sz tb := h5.hi (a1 436 (by omega)) (a1 437 (by omega))
      have i1 : INV J1 (clr M (438 + j) 0) b d X2 B := h4.low (fun q2 hq => a1 q2 (by omega)) (fun q2 hq => clr_n (by omega))
      have c1 : ∀ i, fdB J sz i = fdB J1 sz i := fun i => fdB_cg (a1 437 (by omega)).symm sz i
      have c2 : ∀ i, fdW J sz i = fdW J1 sz i := fun i => by unfold fdW; rw [c1, c1, c1, c1]
      refine j_feed i1 w1 (by omega) h6 (by rw [c2, h2]) (by rw [c2, h2]) (by rw [c2, h2]) (by rw [c2, h2]) (by rw [c2, h2]) (fun J2 X3 i3 f3 b3 hh => ?_)
      have w2 : WT J2 sz tb := w1.hi (hh 436 (by omega)) (hh 437 (by omega))
      exact ⟨w2.1, s_fdL hs k n (j + 1) J2 _ X3 (by omega) (by omega) (by omega) i3 w2 b3 (fun i hi => by rw [hh 436 (by omega), a1 436 (by omega), h7 i hi])⟩
theorem s_feeds {Q : Int32 → TI → TL → Prop} {sz : Nat} {tb : Nat → Nat} (h : INV I L b d X B) (hs : sz ≤ 380) (hW : WT I sz tb) (hf : xf X = 0)
    (k : ∀ J M X2, INV J M b d X2 B → sz ≤ xf X2 → (∀ i, i < xf X2 → xb X2 i = tbF tb sz i) → (∀ j, j ≠ 1 → J 436 j = I 436 j) → J 436 1 = 0 → Q (nI sz) J M) : W_L_feeds I L Q :=
  ⟨20, sz, hs, hW.1, s_fdL hs k 20 0 I L X (by omega) hf (by omega) h hW (fun i hi => by omega) (fun _ _ => rfl)⟩
end JL
