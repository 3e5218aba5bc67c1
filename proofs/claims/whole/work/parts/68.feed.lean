/-! feed -/
section FEED
variable {I J : TI} {L M : TL} {b d B : Nat} {X : XT}
def sft (k : Nat) : Nat := 24 - 8 * k
theorem by_r0 : ∀ k, k < 4 → ((nI (sft k) &&& 31 : Int32).toBitVec.smod 32) = BitVec.ofNat 32 (sft k) := by decide +kernel
theorem by_ref (n : Nat) {k : Nat} (hk : k < 4) : ((nI n) >>> (nI (sft k) &&& 31)) &&& 255 = nI (n / 2 ^ sft k % 256) := by
  have hs : sft k ≤ 24 := by unfold sft; omega
  apply Int32.toBitVec_inj.mp
  rw [Int32.toBitVec_and, Int32.toBitVec_shiftRight, by_r0 k hk]
  show (BitVec.ofNat 32 n).sshiftRight' (BitVec.ofNat 32 (sft k)) &&& BitVec.ofNat 32 (2 ^ 8 - 1) = BitVec.ofNat 32 (n / 2 ^ sft k % 2 ^ 8)
  apply BitVec.eq_of_getLsbD_eq
  intro i hi
  have e : (BitVec.ofNat 32 (sft k)).toNat = sft k := by rw [BitVec.toNat_ofNat, Nat.mod_eq_of_lt (by omega)]
  rw [BitVec.getLsbD_and, show (BitVec.ofNat 32 n).sshiftRight' (BitVec.ofNat 32 (sft k)) = (BitVec.ofNat 32 n).sshiftRight (BitVec.ofNat 32 (sft k)).toNat from rfl, e, BitVec.getLsbD_sshiftRight, BitVec.getLsbD_ofNat, BitVec.getLsbD_ofNat, BitVec.getLsbD_ofNat, Nat.testBit_two_pow_sub_one, Nat.testBit_mod_two_pow, Nat.testBit_div_two_pow]
  by_cases h8 : i < 8
  · rw [if_pos (by omega), decide_eq_true h8, decide_eq_true hi, decide_eq_true (show sft k + i < 32 by omega), decide_eq_false (show ¬ 32 ≤ i by omega), Nat.add_comm]
    simp
  · rw [decide_eq_false h8]
    simp
theorem by_cls {n k : Nat} (hn : n < 2 ^ 32) (hk : k < 4) : (ushI (nI n) (nI (sft k))).toInt8.toInt32.toInt8.toInt32 = (nI (n / 2 ^ sft k % 256)).toInt8.toInt32 := by
  have hs : sft k ≤ 24 := by unfold sft; omega
  rw [fb_byte_twice, ush_nI hn (by omega)]
  congr 1
  apply Int8.toBitVec_inj.mp
  rw [Int32.toBitVec_toInt8, Int32.toBitVec_toInt8]
  show (BitVec.ofNat 32 (n / 2 ^ sft k)).signExtend 8 = (BitVec.ofNat 32 (n / 2 ^ sft k % 2 ^ 8)).signExtend 8
  apply BitVec.eq_of_getLsbD_eq
  intro i hi
  rw [BitVec.getLsbD_signExtend, BitVec.getLsbD_signExtend, if_pos (by omega), if_pos (by omega), BitVec.getLsbD_ofNat, BitVec.getLsbD_ofNat, Nat.testBit_mod_two_pow, decide_eq_true hi]
  simp
/-- a word more in the buffer -/
def xtn (c : Nat → Nat) (f n : Nat) : Nat → Nat := fun i => if i < f then c i else n / 2 ^ sft (i - f) % 256
theorem i32_n (x : Int32) : ∃ n, n < 2 ^ 32 ∧ x = nI n := by
  refine ⟨x.toBitVec.toNat, x.toBitVec.isLt, ?_⟩
  apply Int32.toBitVec_inj.mp
  show x.toBitVec = BitVec.ofNat 32 x.toBitVec.toNat
  simp
theorem st_v : ∀ k, k < 4 → (nI (sft k) + (-8) = if k + 1 = 4 then -8 else nI (sft (k + 1))) ∧ ¬ nI (sft k) < 0 := by decide +kernel
theorem c_put {Q : TI → Prop} {n f : Nat} {c : Nat → Nat} {x : Int32} (hx : x = nI n) (hn : n < 2 ^ 32) (hf : f + 4 ≤ 600) (h7 : I 0 7 = nI f) (hc : ∀ i, i < f → I 350 i = (nI (c i)).toInt8.toInt32) (k : ∀ J, (∀ q, q ≠ 0 → q ≠ 350 → J q = I q) → (∀ j, j ≠ 7 → J 0 j = I 0 j) → J 0 7 = nI (f + 4) → (∀ i, i < f + 4 → J 350 i = (nI (xtn c f n i)).toInt8.toInt32) → Q J) : W_X8_putBytes x I L Q := by
  subst hx
  unfold W_X8_putBytes
  refine lp2 (fun z v i => L_X8_putBytes_3 (nI n) L Q z v i) (fun v i => ∃ k, k ≤ 4 ∧ v = (if k = 4 then -8 else nI (sft k)) ∧ (∀ q, q ≠ 0 → q ≠ 350 → i q = I q) ∧ (∀ j, j ≠ 7 → i 0 j = I 0 j) ∧ i 0 7 = nI (f + k) ∧ ∀ t, t < f + k → i 350 t = (nI (xtn c f n t)).toInt8.toInt32) (fun _ i => 604 - (i 0 7).toNatClampNeg) ?_ _ _ ⟨0, by omega, rfl, fun _ _ _ => rfl, fun _ _ => rfl, h7, fun t ht => ?_⟩
  · rintro z v i ⟨k2, k0, rfl, h1, h2, h3, h4⟩ ih
    by_cases q : k2 = 4
    · subst q
      exact ⟨fun _ => k i h1 h2 h3 h4, fun e => absurd (by decide) e⟩
    · rw [if_neg q]
      have hk : k2 < 4 := by omega
      obtain ⟨s1, s2⟩ := st_v k2 hk
      refine ⟨fun e => absurd e s2, fun _ => ⟨fun e => ?_, fun _ => ?_⟩⟩
      · rw [h3] at e
        have := (nI_leI (a := 600) (b := f + k2) (by omega) (by omega)).mp e
        omega
      · rw [h3, pk_cl (f + k2) rfl (by omega)]
        refine ⟨pk_in _ 600 (by omega) rfl, ?_⟩
        rintro _ rfl
        rw [up2_row (by decide), h3, nI_1, s1]
        refine ih _ _ ⟨k2 + 1, by omega, rfl, fun q2 y1 y2 => by rw [up2_row y1, up2_row y2]; exact h1 q2 y1 y2, fun j hj => by rw [up2_n (Or.inr hj), up2_row (by decide)]; exact h2 j hj, up2_s, fun t ht => ?_⟩ (by rw [up2_s, h3, nI_clamp (by omega), nI_clamp (by omega)]; omega)
        rw [up2_row (by decide), up2_at]
        by_cases y : t = f + k2
        · subst y
          rw [if_pos rfl, by_cls hn hk]
          unfold xtn
          rw [if_neg (by omega), Nat.add_sub_cancel_left]
        · rw [if_neg y]
          exact h4 t (by omega)
  · rw [hc t ht]
    unfold xtn
    rw [if_pos (by omega)]
theorem m_lay {Q : TI → Prop} {n f : Nat} {c : Nat → Nat} {x : Int32} (hx : x = nI n) (hf : f + 4 ≤ 600) (h7 : I 436 22 = nI f) (hc : ∀ i, i < f → I 447 i = nI (c i)) (k : ∀ J, (∀ q, q ≠ 436 → q ≠ 447 → J q = I q) → (∀ j, j ≠ 22 → J 436 j = I 436 j) → J 436 22 = nI (f + 4) → (∀ i, i < f + 4 → J 447 i = nI (xtn c f n i)) → Q J) : W_X9_lays x I L Q := by
  subst hx
  unfold W_X9_lays
  refine lp2 (fun z v i => L_X9_lays_3 (nI n) L Q z v i) (fun v i => ∃ k, k ≤ 4 ∧ v = (if k = 4 then -8 else nI (sft k)) ∧ (∀ q, q ≠ 436 → q ≠ 447 → i q = I q) ∧ (∀ j, j ≠ 22 → i 436 j = I 436 j) ∧ i 436 22 = nI (f + k) ∧ ∀ t, t < f + k → i 447 t = nI (xtn c f n t)) (fun _ i => 604 - (i 436 22).toNatClampNeg) ?_ _ _ ⟨0, by omega, rfl, fun _ _ _ => rfl, fun _ _ => rfl, h7, fun t ht => ?_⟩
  · rintro z v i ⟨k2, k0, rfl, h1, h2, h3, h4⟩ ih
    by_cases q : k2 = 4
    · subst q
      exact ⟨fun _ => k i h1 h2 h3 h4, fun e => absurd (by decide) e⟩
    · rw [if_neg q]
      have hk : k2 < 4 := by omega
      obtain ⟨s1, s2⟩ := st_v k2 hk
      refine ⟨fun e => absurd e s2, fun _ => ?_⟩
      rw [h3, pk_cl (f + k2) rfl (by omega)]
      refine ⟨pk_in _ 600 (by omega) rfl, ?_⟩
      rintro _ rfl
      rw [up2_row (by decide), h3, nI_1, s1]
      refine ih _ _ ⟨k2 + 1, by omega, rfl, fun q2 y1 y2 => by rw [up2_row y1, up2_row y2]; exact h1 q2 y1 y2, fun j hj => by rw [up2_n (Or.inr hj), up2_row (by decide)]; exact h2 j hj, up2_s, fun t ht => ?_⟩ (by rw [up2_s, h3, nI_clamp (by omega), nI_clamp (by omega)]; omega)
      rw [up2_row (by decide), up2_at]
      by_cases y : t = f + k2
      · subst y
        rw [if_pos rfl, by_ref n hk]
        unfold xtn
        rw [if_neg (by omega), Nat.add_sub_cancel_left]
      · rw [if_neg y]
        exact h4 t (by omega)
  · rw [hc t ht]
    unfold xtn
    rw [if_pos (by omega)]
theorem xtn_lt {c : Nat → Nat} {f n : Nat} (h : ∀ i, i < f → c i < 256) : ∀ i, i < f + 4 → xtn c f n i < 256 := by
  intro i hi
  unfold xtn
  split
  · exact h i ‹_›
  · exact Nat.mod_lt _ (by omega)
theorem op_feed {p1 p2 p3 p4 p5 : Int32} {P : Int32 → Int32 → TI → TL → Prop} (h : INV I L b d X B) (fin : ∀ r J M X2, INV J M b d X2 B → P r r J M) : W_X8_feed p1 p2 p3 p4 p5 I L (fun r I1 => W_X9_feed p1 p2 p3 p4 p5 I1 L (fun r2 J => P r r2 J L)) := by
  have hbl := bn_lt h.2.2.1.1
  have hx := h.1.2.2.2.2.1
  obtain ⟨-, -, -, -, ⟨c7, c8⟩, c9, c10, c11⟩ := id h.2.2
  obtain ⟨-, -, -, -, ⟨m7, m8⟩, m9, m10, m11⟩ := id h.2.1
  obtain ⟨n1, hn1, rfl⟩ := i32_n p1
  obtain ⟨n2, hn2, rfl⟩ := i32_n p2
  obtain ⟨n3, hn3, rfl⟩ := i32_n p3
  obtain ⟨n4, hn4, rfl⟩ := i32_n p4
  obtain ⟨n5, hn5, rfl⟩ := i32_n p5
  have e22 : ∀ J : TI, J 436 22 = I 436 22 → ((up2 J 436 0 0) 436 22) + 20 = nI (xf X + 20) := fun J hJ => by rw [up2_n (Or.inr (by decide)), hJ, m7]; exact nI_add _ 20
  unfold W_X8_feed
  refine pk_le (xf X) 580 (fun q => ?_) (fun q => ?_) c7 rfl (by omega) (by omega)
  · refine c_put (c := xb X) rfl hn1 (by omega) c7 c8 (fun J1 a1 a2 a3 a4 => ?_)
    refine c_put rfl hn2 (by omega) a3 a4 (fun J2 b1 b2 b3 b4 => ?_)
    refine c_put rfl hn3 (by omega) b3 b4 (fun J3 e1 e2 e3 e4 => ?_)
    refine c_put rfl hn4 (by omega) e3 e4 (fun J4 f1 f2 f3 f4 => ?_)
    refine c_put rfl hn5 (by omega) f3 f4 (fun J5 g1 g2 g3 g4 => ?_)
    rw [g3]
    have rI : ∀ q, q ≠ 0 → q ≠ 350 → J5 q = I q := fun q y1 y2 => by rw [g1 q y1 y2, f1 q y1 y2, e1 q y1 y2, b1 q y1 y2, a1 q y1 y2]
    have rF : ∀ j, j ≠ 7 → J5 0 j = I 0 j := fun j y => by rw [g2 j y, f2 j y, e2 j y, b2 j y, a2 j y]
    obtain ⟨cc, hcc⟩ : ∃ cc, cc = xtn (xtn (xtn (xtn (xtn (xb X) (xf X) n1) (xf X + 4) n2) (xf X + 4 + 4) n3) (xf X + 4 + 4 + 4) n4) (xf X + 4 + 4 + 4 + 4) n5 := ⟨_, rfl⟩
    rw [← hcc] at g4
    have lt : ∀ i, i < xf X + 4 + 4 + 4 + 4 + 4 → cc i < 256 := by
      rw [hcc]
      exact xtn_lt (xtn_lt (xtn_lt (xtn_lt (xtn_lt hx.2))))
    have hC2 : CI J5 L b d (ioX X (xf X + 4 + 4 + 4 + 4 + 4, cc) (xe X) (xl X, xt X)) := h.2.2.io h.1 (fun q2 y1 y2 y3 => rI q2 y2 (by omega)) (fun _ _ => rfl) g3 g4 (by rw [rF 9 (by decide)]; exact c9) (by rw [rF 8 (by decide)]; exact c10) (fun i hi => by rw [rI 351 (by decide) (by decide)]; exact c11 i hi)
    have hV2 : XV (ioX X (xf X + 4 + 4 + 4 + 4 + 4, cc) (xe X) (xl X, xt X)) B := ioX_V h.1 ⟨by show xf X + 4 + 4 + 4 + 4 + 4 ≤ 600; omega, lt⟩ h.1.2.2.2.2.2
    have hI : ∀ q2, 436 ≤ q2 → J5 q2 = I q2 := fun q2 hq2 => rI q2 (by omega) (by omega)
    have hMI : MI J5 L X := h.2.1.hi2 hI (fun _ _ => rfl)
    have d7 : (up2 J5 436 0 0) 436 22 = nI (xf X) := by rw [up2_n (Or.inr (by decide)), hI 436 (by omega), m7]
    change W_X9_feed (nI n1) (nI n2) (nI n3) (nI n4) (nI n5) J5 L (fun r2 J => P (nI (xf X + 4 + 4 + 4 + 4 + 4)) r2 J L)
    unfold W_X9_feed
    rw [e22 J5 (by rw [hI 436 (by omega)])]
    refine ⟨fun _ => ?_, fun e => absurd (nI_le (show xf X + 20 ≤ 600 by omega) (by omega)) e⟩
    refine m_lay (c := xb X) rfl (by omega) d7 (fun i hi => by rw [up2_row (by decide), hI 447 (by omega)]; exact m8 i hi) (fun K1 a1 a2 a3 a4 => ?_)
    refine m_lay rfl (by omega) a3 a4 (fun K2 b1 b2 b3 b4 => ?_)
    refine m_lay rfl (by omega) b3 b4 (fun K3 e1 e2 e3 e4 => ?_)
    refine m_lay rfl (by omega) e3 e4 (fun K4 f1 f2 f3 f4 => ?_)
    refine m_lay rfl (by omega) f3 f4 (fun K5 k1 k2 k3 k4 => ?_)
    rw [k3]
    rw [← hcc] at k4
    have sI : ∀ q, q ≠ 436 → q ≠ 447 → K5 q = J5 q := fun q y1 y2 => by rw [k1 q y1 y2, f1 q y1 y2, e1 q y1 y2, b1 q y1 y2, a1 q y1 y2, up2_row y1]
    have sF : ∀ j, j ≠ 22 → K5 436 j = (up2 J5 436 0 0) 436 j := fun j y => by rw [k2 j y, f2 j y, e2 j y, b2 j y, a2 j y]
    refine fin _ _ _ (ioX X (xf X + 4 + 4 + 4 + 4 + 4, cc) (xe X) (xl X, xt X)) ⟨hV2, ?_, hC2.low hV2 (fun q2 hq2 => sI q2 (by omega) (by omega)) (fun _ _ => rfl)⟩
    exact hMI.io ⟨sI 441 (by decide) (by decide), sI 442 (by decide) (by decide), sI 443 (by decide) (by decide)⟩ (fun j y1 y2 => by rw [sF j (by omega), up2_n (Or.inr (by omega))]) ⟨rfl, rfl, rfl⟩ k3 k4 (by rw [sF 30 (by decide), up2_n (Or.inr (by decide)), hI 436 (by omega)]; exact m9) (by rw [sF 36 (by decide), up2_n (Or.inr (by decide)), hI 436 (by omega)]; exact m10) (fun i hi => by rw [sI 452 (by decide) (by decide), hI 452 (by omega)]; exact m11 i hi)
  · change W_X9_feed (nI n1) (nI n2) (nI n3) (nI n4) (nI n5) I L (fun r2 J => P (-1) r2 J L)
    unfold W_X9_feed
    rw [e22 I rfl]
    refine ⟨fun e => ?_, fun _ => fin _ _ _ X h.thr⟩
    have := (nI_leI (a := xf X + 20) (b := 600) (by omega) (by omega)).mp e
    omega
end FEED
