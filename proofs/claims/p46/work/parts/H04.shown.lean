/-! what is shown -/
section HS4
variable {I J : TI} {L M : TL} {b d t B : Nat} {X : XT} {G : GT}
/-- settled times show the dear wave -/
theorem set_shown {C : CQ} {r : RW} {n t : Nat} (hC : CV C) (hn : n < cI C + cG C) (ht : t < 64) (h : stF C r n t = 2) : bw (shF C r n) t = bw (deF C r n) t := by
  unfold stF at h
  by_cases q : n < cI C
  · rw [if_pos q] at h
    exact absurd h (by decide)
  · rw [if_neg q] at h
    obtain ⟨g, rfl⟩ : ∃ g, n = cI C + g := ⟨n - cI C, by omega⟩
    rw [Nat.add_sub_cancel_left] at h
    have hg : g < cG C := by omega
    by_cases q2 : bw (r (9 + g)) t = true
    · rw [((WF_ok hC r).2 g hg).2.2]
      rw [bw_or, bw_and, bw_not _ ht, bw_and, q2]
      simp
    · rw [if_neg q2] at h
      rcases bi_01 (bw (r (21 + g)) t) with e | e <;> rw [e] at h <;> exact absurd h (by decide)
/-- where nothing is ruled or settled, the cheap wave is shown -/
theorem free_shown {C : CQ} {r : RW} (hC : CV C) : ∀ (k n : Nat), n < k → n < cI C + cG C → (∀ g, cI C + g ≤ n → (cD C n).testBit (cI C + g) = true → r (9 + g) = 0 ∧ r (21 + g) = 0) → shF C r n = chF C r n
  | 0, n, h, _, _ => absurd h (Nat.not_lt_zero _)
  | k + 1, n, hk, hn, h => by
    have W := WF_ok hC r
    by_cases q : n < cI C
    · obtain ⟨a, b, c⟩ := W.1 n q
      rw [a, b]
    · obtain ⟨g, rfl⟩ : ∃ g, n = cI C + g := ⟨n - cI C, by omega⟩
      have hg : g < cG C := by omega
      obtain ⟨n1, n2, n3, n4⟩ := hC.net hg
      have eD : cD C (cI C + g) = 2 ^ (cI C + g) ||| (cD C (cO C g) ||| (if cT C g = 16 then 0 else cD C (cT C g))) := hC.2.2.2.2.2.2.2 g hg
      obtain ⟨z9, z21⟩ := h g (Nat.le_refl _) (by rw [eD, Nat.testBit_or, Nat.testBit_two_pow_self]; rfl)
      obtain ⟨w1, w2, w3⟩ := W.2 g hg
      have eo : shF C r (cO C g) = chF C r (cO C g) := free_shown hC k _ (by omega) (by omega) (fun g2 h2 h3 => h g2 (by omega) (by rw [eD, Nat.testBit_or, Nat.testBit_or, h3]; simp))
      have el : latC C r g (shF C r) = latC C r g (chF C r) := by
        unfold latC
        by_cases q5 : cT C g = 16
        · rw [eo, idl_u (n3 q5) _ _ (chF C r (cT C g))]
        · have et : shF C r (cT C g) = chF C r (cT C g) := free_shown hC k _ (by have := n2 q5; omega) (by have := n2 q5; omega) (fun g2 h2 h3 => h g2 (by have := n2 q5; omega) (by rw [eD, Nat.testBit_or, Nat.testBit_or, if_neg q5, h3]; simp))
          rw [eo, et]
      rw [w3, w2, ← el, z9, z21]
      refine bw_ext (fun t ht => ?_)
      rw [bw_or, bw_and, bw_or, bw_and, bw_not _ ht, bw_and, bw_and, bw_0]
      simp
theorem sh_bit : ∀ m, m < 16 → ((nI m &&& 31).toBitVec.smod 32).toNat = m := by decide +kernel
theorem bit_0 {n m : Nat} (hn : n < 2 ^ 16) (hm : m < 16) : (nI n >>> (nI m &&& 31)) &&& 1 = 0 ↔ n.testBit m = false := by
  rw [pk_shrN (by omega) (nI m &&& 31) m (sh_bit m hm), show (1 : Int32) = nI 1 from rfl, nI_and]
  have e : n / 2 ^ m &&& 1 = n / 2 ^ m % 2 := Nat.and_one_is_mod _
  rw [e]
  have e2 : n.testBit m = decide (n / 2 ^ m % 2 = 1) := Nat.testBit_eq_decide_div_mod_eq
  rw [e2]
  have hlt : n / 2 ^ m % 2 < 2 := Nat.mod_lt _ (by omega)
  rw [nI_z (by omega)]
  constructor
  · intro z
    exact decide_eq_false (by omega)
  · intro z
    have := of_decide_eq_false z
    omega
theorem s_isShown {Q : Int32 → Prop} {QX : String → Prop} {x : Int32} {n : Nat} (h : INV I L b d X B) (f : FC I (xC X)) (hx : x = nI n) (hn : n < cI (xC X) + cG (xC X)) (k : Q 1) : W_L_isShown x I L b d Q QX := by
  subst hx
  have nb := h.nb
  obtain ⟨f1, f2, f3, f4, f5⟩ := f
  have hC := h.C
  have W := WF_ok hC (xr X)
  unfold W_L_isShown
  refine j_wave h rfl (m := 0) rfl hn (by omega) (j_wave h rfl (m := 2) rfl hn (by omega) ?_)
  have e0 : wvF (xC X) (xr X) 0 n = shF (xC X) (xr X) n := rfl
  have e1 : wvF (xC X) (xr X) 1 n = chF (xC X) (xr X) n := rfl
  have e2 : wvF (xC X) (xr X) 2 n = deF (xC X) (xr X) n := rfl
  rw [e0, e2]
  refine lp1 (fun z v => L_L_isShown_21 (nI n) (shF (xC X) (xr X) n) (deF (xC X) (xr X) n) 1 I L b d Q QX z v) (fun v => ∃ t, t ≤ cH (xC X) + 1 ∧ v = nI t) (fun v => cH (xC X) + 1 - v.toNatClampNeg) ?_ _ ⟨0, Nat.zero_le _, rfl⟩
  rintro z v ⟨t, t1, rfl⟩ ih
  show D_L_isShown_21 (nI n) (shF (xC X) (xr X) n) (deF (xC X) (xr X) n) 1 I L b d Q QX _ _
  unfold D_L_isShown_21
  have nx : t ≤ cH (xC X) → B_L_isShown_60 (nI n) (shF (xC X) (xr X) n) (deF (xC X) (xr X) n) 1 (nI t) I L b d Q QX (fun v8 => L_L_isShown_21 (nI n) (shF (xC X) (xr X) n) (deF (xC X) (xr X) n) 1 I L b d Q QX z v8) := by
    intro ht
    unfold B_L_isShown_60
    rw [nI_1]
    refine ih _ ⟨t + 1, by omega, rfl⟩ ?_
    rw [nI_clamp (by omega), nI_clamp (by omega)]
    omega
  refine pk_lt (cH (xC X)) t (fun q => ?_) (fun q => ?_) f1 rfl (by omega) (by omega)
  · clear nx ih
    refine pk_le (cI (xC X)) n (fun q2 => ?_) (fun q2 => ?_) f2 rfl (by omega) (by omega)
    · obtain ⟨g, rfl⟩ : ∃ g, n = cI (xC X) + g := ⟨n - cI (xC X), by omega⟩
      have hg : g < cG (xC X) := by omega
      refine j_dependsOn h rfl hg ?_
      have cl := cD_lt hC hn
      generalize hD : cD (xC X) (cI (xC X) + g) = D at cl
      refine lp2 (fun z u v => L_L_isShown_111 (nI (cI (xC X) + g)) (shF (xC X) (xr X) (cI (xC X) + g)) (nI D) I L b d Q QX z u v) (fun u v => ∃ m, cI (xC X) ≤ m ∧ m ≤ cI (xC X) + g + 1 ∧ v = nI m ∧ (u = 0 ∨ u = 1) ∧ (u = 1 → ∀ g2, cI (xC X) + g2 < m → D.testBit (cI (xC X) + g2) = true → xr X (9 + g2) = 0 ∧ xr X (21 + g2) = 0)) (fun _ v => 20 - v.toNatClampNeg) ?_ _ _ ⟨cI (xC X), Nat.le_refl _, by omega, f2, Or.inr rfl, fun _ g2 h2 => by omega⟩
      rintro z u v ⟨m, m1, m2, rfl, u1, u2⟩ ih
      show D_L_isShown_111 (nI (cI (xC X) + g)) (shF (xC X) (xr X) (cI (xC X) + g)) (nI D) I L b d Q QX _ _ _
      unfold D_L_isShown_111
      refine pk_lt (cI (xC X) + g) m (fun q3 => ?_) (fun q3 => ?_) rfl rfl (by omega) (by omega)
      · refine ⟨fun _ => k, fun eu => ?_⟩
        have eu1 : u = 1 := u1.resolve_left eu
        refine j_wave h rfl (m := 1) rfl hn (by omega) ?_
        rw [e1, free_shown hC _ (cI (xC X) + g) (Nat.lt_succ_self _) hn (fun g2 a c => u2 eu1 g2 (by omega) (by rw [← hD]; exact c))]
        exact ⟨fun e => absurd rfl e, fun _ => k⟩
      · have nxt : ∀ w : Int32, (w = 0 ∨ w = 1) → (w = 1 → ∀ g2, cI (xC X) + g2 < m + 1 → D.testBit (cI (xC X) + g2) = true → xr X (9 + g2) = 0 ∧ xr X (21 + g2) = 0) → B_L_isShown_157 (nI (cI (xC X) + g)) (shF (xC X) (xr X) (cI (xC X) + g)) (nI D) (nI m) w I L b d Q QX (fun v7 v9 => L_L_isShown_111 (nI (cI (xC X) + g)) (shF (xC X) (xr X) (cI (xC X) + g)) (nI D) I L b d Q QX z v7 v9) := by
          intro w w1 w2
          unfold B_L_isShown_157
          rw [nI_1]
          refine ih _ _ ⟨m + 1, by omega, by omega, rfl, w1, w2⟩ ?_
          rw [nI_clamp (by omega), nI_clamp (by omega)]
          omega
        have no := nxt 0 (Or.inl rfl) (fun e => absurd e (by decide))
        refine ⟨fun _ => no, fun eu => ?_⟩
        have eu1 : u = 1 := u1.resolve_left eu
        have yes : (D.testBit m = true → xr X (9 + (m - cI (xC X))) = 0 ∧ xr X (21 + (m - cI (xC X))) = 0) → B_L_isShown_157 (nI (cI (xC X) + g)) (shF (xC X) (xr X) (cI (xC X) + g)) (nI D) (nI m) 1 I L b d Q QX (fun v7 v9 => L_L_isShown_111 (nI (cI (xC X) + g)) (shF (xC X) (xr X) (cI (xC X) + g)) (nI D) I L b d Q QX z v7 v9) := by
          intro hm
          refine nxt 1 (Or.inr rfl) (fun _ g2 h2 h3 => ?_)
          by_cases e : cI (xC X) + g2 = m
          · have := hm (by rw [← e]; exact h3)
            rw [show m - cI (xC X) = g2 by omega] at this
            exact this
          · exact u2 eu1 g2 (by omega) h3
        have bt := bit_0 (n := D) (m := m) (by omega) (by omega)
        refine ⟨fun e => yes (fun e2 => absurd (bt.mp e) (by rw [e2]; decide)), fun e => ?_⟩
        obtain ⟨g3, rfl⟩ : ∃ g3, m = cI (xC X) + g3 := ⟨m - cI (xC X), by omega⟩
        have hg3 : g3 < cG (xC X) := by omega
        refine j_gate h rfl hg3 (k := 7) rfl (by omega) (j_gate h rfl hg3 (k := 8) rfl (by omega) ?_)
        have g7 : gtF (xC X) (xr X) g3 7 = nI (pc (xr X (9 + g3))) := rfl
        have g8 : gtF (xC X) (xr X) g3 8 = nI (pc (xr X (21 + g3) &&& (xr X (9 + g3) ^^^ (-1)))) := rfl
        rw [g7, g8, nI_add]
        have p7 := pc_le (xr X (9 + g3))
        have p8 := pc_le (xr X (21 + g3) &&& (xr X (9 + g3) ^^^ (-1)))
        refine ⟨fun _ => no, fun e5 => yes (fun _ => ?_)⟩
        have e6 := (nI_z (by omega)).mp e5
        have y9 : xr X (9 + g3) = 0 := pc_z.mp (by omega)
        have y21 : xr X (21 + g3) &&& (xr X (9 + g3) ^^^ (-1)) = 0 := pc_z.mp (by omega)
        rw [Nat.add_sub_cancel_left]
        refine ⟨y9, ?_⟩
        rw [y9] at y21
        refine bw_ext (fun t ht => ?_)
        have := congrArg (fun w => bw w t) y21
        simp only [bw_and, bw_not _ ht, bw_0] at this
        rw [bw_0]
        simpa using this
    · obtain ⟨a, c, e⟩ := W.1 n q2
      rw [a, e]
      refine ⟨fun z => absurd rfl z, fun _ => ?_⟩
      refine j_wave h rfl (m := 1) rfl hn (by omega) ?_
      rw [e1, c]
      exact ⟨fun z => absurd rfl z, fun _ => k⟩
  · refine j_stateAt h rfl rfl hn q ⟨fun _ => nx q, fun e => ⟨fun _ => nx q, fun z => absurd ?_ z⟩⟩
    rw [shr1 _ (by omega), shr1 _ (by omega), set_shown hC hn (by omega) e]
end HS4
