/-! feed -/
section FEED
variable {I J : TI} {L M : TL} {b d B : Nat} {X : XT}
def sft (k : Nat) : Nat := 24 - 8 * k
theorem by_r0 : ∀ k, k < 4 → ((nI (sft k) &&& 31 : Int32).toBitVec.smod 32) = BitVec.ofNat 32 (sft k) := by decide +kernel
theorem by_ref (n : Nat) {k : Nat} (hk : k < 4) : ((nI n) >>> (nI (sft k) &&& 31)) &&& 255 = nI (n / 2 ^ sft k % 256) := by
  have hs : sft k ≤ 24 := by unfold sft; omega
  apply Int32.toBitVec_inj.mp
  rw [Int32.toBitVec_and, Int32.toBitVec_shiftRight, by_r0 k hk]
  show (BitVec.ofNat 32 n).sshiftRight' (BitVec.ofNat 32 (sft k)) &&& BitVec.ofNat 32 (2 ^ 8 - 1) = BitVec.ofNat 32 (n / 2 ^ sft k % 2 ^ 8)
  apply BitVec.eq_of_getLsbD_eq
  intro i hi
  have e : (BitVec.ofNat 32 (sft k)).toNat = sft k := by rw [BitVec.toNat_ofNat, Nat.mod_eq_of_lt (by omega)]
  rw [BitVec.getLsbD_and, show (BitVec.ofNat 32 n).sshiftRight' (BitVec.ofNat 32 (sft k)) = (BitVec.ofNat 32 n).sshiftRight (BitVec.ofNat 32 (sft k)).toNat from rfl, e, BitVec.getLsbD_sshiftRight, BitVec.getLsbD_ofNat, BitVec.getLsbD_ofNat, BitVec.getLsbD_ofNat, Nat.testBit_two_pow_sub_one, Nat.testBit_mod_two_pow, Nat.testBit_div_two_pow]
  by_cases h8 : i < 8
  · rw [if_pos (by omega), decide_eq_true h8, decide_eq_true hi, decide_eq_true (show sft k + i < 32 by omega), decide_eq_false (show ¬ 32 ≤ i by omega), Nat.add_comm]
    simp
  · rw [decide_eq_false h8]
    simp
theorem by_cls {n k : Nat} (hn : n < 2 ^ 32) (hk : k < 4) : (ushI (nI n) (nI (sft k))).toInt8.toInt32.toInt8.toInt32 = (nI (n / 2 ^ sft k % 256)).toInt8.toInt32 := by
  have hs : sft k ≤ 24 := by unfold sft; omega
  rw [fb_byte_twice, ush_nI hn (by omega)]
  congr 1
  apply Int8.toBitVec_inj.mp
  rw [Int32.toBitVec_toInt8, Int32.toBitVec_toInt8]
  show (BitVec.ofNat 32 (n / 2 ^ sft k)).signExtend 8 = (BitVec.ofNat 32 (n / 2 ^ sft k % 2 ^ 8)).signExtend 8
  apply BitVec.eq_of_getLsbD_eq
  intro i hi
  rw [BitVec.getLsbD_signExtend, BitVec.getLsbD_signExtend, if_pos (by omega), if_pos (by omega), BitVec.getLsbD_ofNat, BitVec.getLsbD_ofNat, Nat.testBit_mod_two_pow, decide_eq_true hi]
  simp
/-- a word more in the buffer -/
def xtn (c : Nat → Nat) (f n : Nat) : Nat → Nat := fun i => if i < f then c i else n / 2 ^ sft (i - f) % 256
theorem i32_n (x : Int32) : ∃ n, n < 2 ^ 32 ∧ x = nI n := by
  refine ⟨x.toBitVec.toNat, x.toBitVec.isLt, ?_⟩
  apply Int32.toBitVec_inj.mp
  show x.toBitVec = BitVec.ofNat 32 x.toBitVec.toNat
  simp
theorem st_v : ∀ k, k < 4 → (nI (sft k) + (-8) = if k + 1 = 4 then -8 else nI (sft (k + 1))) ∧ ¬ nI (sft k) < 0 := by decide +kernel
theorem c_put {Q : TI → Prop} {n f : Nat} {c : Nat → Nat} {x : Int32} (hx : x = nI n) (hn : n < 2 ^ 32) (hf : f + 4 ≤ 600) (h7 : I 0 7 = nI f) (hc : ∀ i, i < f → I 350 i = (nI (c i)).toInt8.toInt32) (k : ∀ J, (∀ q, q ≠ 0 → q ≠ 350 → J q = I q) → (∀ j, j ≠ 7 → J 0 j = I 0 j) → J 0 7 = nI (f + 4) → (∀ i, i < f + 4 → J 350 i = (nI (xtn c f n i)).toInt8.toInt32) → Q J) : W_X8_putBytes x I L Q := by
  subst hx
  unfold W_X8_putBytes
  refine lp2 (fun z v i => L_X8_putBytes_3 (nI n) L Q z v i) (fun v i => ∃ k, k ≤ 4 ∧ v = (if k = 4 then -8 else nI (sft k)) ∧ (∀ q, q ≠ 0 → q ≠ 350 → i q = I q) ∧ (∀ j, j ≠ 7 → i 0 j = I 0 j) ∧ i 0 7 = nI (f + k) ∧ ∀ t, t < f + k → i 350 t = (nI (xtn c f n t)).toInt8.toInt32) (fun _ i => 604 - (i 0 7).toNatClampNeg) ?_ _ _ ⟨0, by omega, rfl, fun _ _ _ => rfl, fun _ _ => rfl, h7, fun t ht => ?_⟩
  · rintro z v i ⟨k2, k0, rfl, h1, h2, h3, h4⟩ ih
    by_cases q : k2 = 4
    · subst q
      exact ⟨fun _ => k i h1 h2 h3 h4, fun e => absurd (by decide) e⟩
    · rw [if_neg q]
      have hk : k2 < 4 := by omega
      obtain ⟨s1, s2⟩ := st_v k2 hk
      refine ⟨fun e => absurd e s2, fun _ => ⟨fun e => ?_, fun _ => ?_⟩⟩
      · rw [h3] at e
        have := (nI_leI (a := 600) (b := f + k2) (by omega) (by omega)).mp e
        omega
      · rw [h3, pk_cl (f + k2) rfl (by omega)]
        refine ⟨pk_in _ 600 (by omega) rfl, ?_⟩
        rintro _ rfl
        rw [up2_row (by decide), h3, nI_1, s1]
        refine ih _ _ ⟨k2 + 1, by omega, rfl, fun q2 y1 y2 => by rw [up2_row y1, up2_row y2]; exact h1 q2 y1 y2, fun j hj => by rw [up2_n (Or.inr hj), up2_row (by decide)]; exact h2 j hj, up2_s, fun t ht => ?_⟩ (by rw [up2_s, h3, nI_clamp (by omega), nI_clamp (by omega)]; omega)
        rw [up2_row (by decide), up2_at]
        by_cases y : t = f + k2
        · subst y
          rw [if_pos rfl, by_cls hn hk]
          unfold xtn
          rw [if_neg (by omega), Nat.add_sub_cancel_left]
        · rw [if_neg y]
          exact h4 t (by omega)
  · rw [hc t ht]
    unfold xtn
    rw [if_pos (by omega)]
theorem xtn_lt {c : Nat → Nat} {f n : Nat} (h : ∀ i, i < f → c i < 256) : ∀ i, i < f + 4 → xtn c f n i < 256 := by
  intro i hi
  unfold xtn
  split
  · exact h i ‹_›
  · exact Nat.mod_lt _ (by omega)
end FEED
