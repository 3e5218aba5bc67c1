/-! the law acts, and asks each time -/
section HH5
variable {I J : TI} {L M : TL} {b d t B : Nat} {X : XT} {G : GT}
theorem hiI.tr {K : TI} (h : hiI I J) (h2 : hiI J K) : hiI I K := fun q hq => (h2 q hq).trans (h q hq)
theorem hiI.rf (I : TI) : hiI I I := fun _ _ => rfl
theorem FC.hi {C : CQ} (h : FC I C) (e : hiI I J) : FC J C := by
  unfold FC
  rw [e 436 (by omega)]
  exact h
theorem s_net {Q : Int32 → Prop} {x : Int32} {c : Nat} (f : FC I (xC X)) (nb : cI (xC X) ≤ 4) (hx : x = nI c) (hc : c < 2 ^ 31) (k : Q (nI (cI (xC X) + c % cG (xC X)))) : W_L_net x I L Q := by
  subst hx
  obtain ⟨f1, f2, f3, f4, f5⟩ := f
  unfold W_L_net
  rw [f2, f3, rem_n hc (by omega) (by omega), nI_add]
  exact ⟨nI_ne0 (by omega) (by omega), k⟩
/-- what a list of acts leaves -/
def AK (I J : TI) (M : TL) (b d : Nat) (X X2 : XT) (B : Nat) : Prop := INV J M b d X2 B ∧ xC X2 = xC X ∧ hiI I J ∧ pS (xr X2) = pS (xr X)
theorem s_disp56 {Q : TI → TL → Prop} {QX : String → TI → TL → Prop} {c g u : Nat} {s1 s2 s3 s4 v : Int32} (h : INV I L b d X B) (hB : B + 20000 < 2 ^ 30) (hv : v = nI c) (hc : c < 2 ^ 31) (hp : puA (xC X) (xr X) s2 s3 g u) (h1 : s1 = 0 ∨ s1 = 1) (h4 : s4 = 0 ∨ s4 = 1)
    (k : ∀ J M X2, AK I J M b d X X2 (B + 20000) → Q J M) : B_L_disputes_56 v s1 s2 s3 s4 I L b d Q QX := by
  subst hv
  have same : Q I L := k I L X ⟨h.mono (by omega), rfl, hiI.rf I, rfl⟩
  unfold B_L_disputes_56
  refine j_open h hp h1 h4 (fun k0 J M X2 k1 k2 i2 c2 e2 p2 => ⟨fun e => absurd e (nI_pos (by omega)), fun _ => ?_⟩) (fun z hz => ⟨fun _ => same, fun e => absurd (by rcases hz with rfl | rfl <;> decide) e⟩)
  have s2 : Q J M := k J M X2 ⟨i2.mono (by omega), c2, e2, p2⟩
  refine j_judge i2 (by omega) rfl k1 (fun v2 J3 M3 X3 v3 k3 i3 c3 e3 p3 => ⟨fun _ => ?_, fun e => absurd (by rcases v3 with rfl | rfl <;> decide) e⟩) (fun z hz => ⟨fun e => absurd e (by rcases hz with rfl | rfl <;> decide), fun _ => s2⟩)
  have c23 := c3.trans c2
  have e23 := e2.tr e3
  have p23 := p3.trans p2
  have s3 : Q J3 M3 := k J3 M3 X3 ⟨i3.mono (by omega), c23, e23, p23⟩
  refine ⟨fun _ => ⟨fun _ => s3, fun _ => ?_⟩, fun _ => ?_⟩
  · exact j_appeal i3 (by omega) rfl k3 (fun v4 J4 M4 X4 i4 c4 e4 p4 => k J4 M4 X4 ⟨i4.mono (by omega), c4.trans c23, e23.tr e4, p4.trans p23⟩) (fun _ => s3)
  · exact j_accept i3 rfl k3 (fun v4 J4 M4 X4 i4 c4 e4 p4 => k J4 M4 X4 ⟨i4.mono (by omega), c4.trans c23, e23.tr e4, p4.trans p23⟩) (fun _ => s3)
theorem s_disputes {Q : TI → TL → Prop} {QX : String → TI → TL → Prop} {c : Nat} {x : Int32} (h : INV I L b d X B) (hB : B + 20000 < 2 ^ 30) (f : FC I (xC X)) (hx : x = nI c) (hc : c < 2 ^ 31)
    (k : ∀ J M X2, AK I J M b d X X2 (B + 20000) → Q J M) : W_L_disputes x I L b d Q QX := by
  subst hx
  have nb := h.nb
  obtain ⟨f1, f2, f3, f4, f5⟩ := f
  have same : Q I L := k I L X ⟨h.mono (by omega), rfl, hiI.rf I, rfl⟩
  have dv : ∀ n, c / n ≤ c := fun n => Nat.div_le_self _ _
  have d12 := dv 12
  have d24 := dv 24
  have d48 := dv 48
  have hg : c % cG (xC X) < cG (xC X) := Nat.mod_lt _ (by omega)
  unfold W_L_disputes
  rw [f2, f3, rem_n hc (by omega) (by omega), nI_add]
  refine ⟨nI_ne0 (by omega) (by omega), ?_⟩
  rintro _ rfl
  refine j_gate h rfl hg (k := 9) rfl (by omega) ?_
  have g9 : gtF (xC X) (xr X) (c % cG (xC X)) 9 = nI (fb_ct (pf (xC X) (xr X) (c % cG (xC X))) 64) := rfl
  have n64 := fb_ct_le (pf (xC X) (xr X) (c % cG (xC X))) 64
  rw [g9]
  obtain ⟨n, hn⟩ : ∃ n, n = fb_ct (pf (xC X) (xr X) (c % cG (xC X))) 64 := ⟨_, rfl⟩
  rw [← hn] at n64 ⊢
  have nz : nI n = 0 ↔ n = 0 := nI_z (by omega)
  refine ⟨fun e => ⟨e, ?_⟩, fun _ => same⟩
  have n0 : 0 < n := by
    rcases Nat.eq_zero_or_pos n with z | z
    · exact absurd (nz.mpr z) e
    · exact z
  have e12 : remI (nI c / 12) 2 = nI (c / 12 % 2) := by
    rw [show nI c / 12 = nI (c / 12) from div_n (n := 12) (by omega) (by omega) (by omega)]
    exact rem_n (n := 2) (by omega) (by omega) (by omega)
  have e24 : remI (nI c / 24) (nI n) = nI (c / 24 % n) := by
    rw [show nI c / 24 = nI (c / 24) from div_n (n := 24) (by omega) (by omega) (by omega)]
    exact rem_n (by omega) n0 (by omega)
  have m24 : c / 24 % n < n := Nat.mod_lt _ n0
  obtain ⟨u, u1, u2, u3⟩ := fb_ct_kth (p := pf (xC X) (xr X) (c % cG (xC X))) (n := 64) (k := c / 24 % n) (by omega)
  have hp : puA (xC X) (xr X) (nI (cI (xC X) + c % cG (xC X))) (nI (c / 24 % n)) (c % cG (xC X)) u := ⟨rfl, hg, u2, c / 24 % n, by omega, rfl, u3⟩
  have h12 : nI (c / 12 % 2) = 0 ∨ nI (c / 12 % 2) = 1 := by
    have : c / 12 % 2 = 0 ∨ c / 12 % 2 = 1 := by omega
    rcases this with z | z <;> rw [z]
    · exact Or.inl rfl
    · exact Or.inr rfl
  rw [e12, e24]
  exact ⟨fun _ => s_disp56 h hB rfl hc hp h12 (Or.inl rfl) k, fun _ => s_disp56 h hB rfl hc hp h12 (Or.inr rfl) k⟩
theorem s_purses {Q : Int32 → Prop} {QX : String → Prop} (h : INV I L b d X B) (k : Q (nI (pS (xr X)))) : W_L_purses I L b d Q QX := by
  unfold W_L_purses
  refine s_size h (n := 7) rfl (by omega) (s_size h (n := 8) rfl (by omega) (s_size h (n := 9) rfl (by omega) ?_))
  show Q (nI (un (xr X 1)) + nI (un (xr X 2)) + nI (un (xr X 3)))
  rw [nI_add, nI_add]
  exact k
/-- an act, and what the purses gain by it -/
theorem s_acts {Q : Int32 → TI → TL → Prop} {QX : String → TI → TL → Prop} {m : Nat} {x : Int32} (h : INV I L b d X B) (hB0 : 1000000 ≤ B) (hB : B + 20000 < 2 ^ 30) (f : FC I (xC X)) (hx : x = nI m) (hm : m < 2 ^ 30)
    (k : ∀ v J M X2, INV J M b d X2 (B + 20000) → xC X2 = xC X → hiI I J → nI (pS (xr X2)) = nI (pS (xr X)) + v → Q v J M) : W_L_acts x I L b d Q QX := by
  subst hx
  have nb := h.nb
  have f0 := f
  obtain ⟨f1, f2, f3, f4, f5⟩ := f
  have nil : ∀ (J : TI) (M : TL) (X2 : XT), INV J M b d X2 (B + 20000) → xC X2 = xC X → hiI I J → pS (xr X2) = pS (xr X) → Q 0 J M := fun J M X2 a1 a2 a3 a4 => k 0 J M X2 a1 a2 a3 (by rw [a4, Int32.add_zero])
  have same : Q 0 I L := nil I L X (h.mono (by omega)) rfl (hiI.rf I) rfl
  have dv : ∀ a n, a / n ≤ a := fun a n => Nat.div_le_self _ _
  have d6 := dv m 6
  obtain ⟨c, hc⟩ : ∃ c, c = m / 6 := ⟨_, rfl⟩
  rw [← hc] at d6
  have ec : nI m / 6 = nI c := by rw [hc]; exact div_n (n := 6) (by omega) (by omega) (by omega)
  have e6 : remI (nI m) 6 = nI (m % 6) := rem_n (n := 6) (by omega) (by omega) (by omega)
  have c3 := dv c 3
  have c4 := dv c 4
  have c8 := dv c 8
  have c24 := dv c 24
  have c64 := dv c 64
  have c4k := dv c 4096
  have dn : ∀ n, 0 < n → n < 2 ^ 31 → nI c / nI n = nI (c / n) := fun n a a2 => div_n (by omega) a a2
  have hH1 : (nI (cH (xC X)) : Int32) + 1 = nI (cH (xC X) + 1) := nI_1 _
  have net : ∀ a, a % cG (xC X) < cG (xC X) := fun a => Nat.mod_lt _ (by omega)
  unfold W_L_acts
  rw [ec, e6, f1, f2, hH1]
  refine ⟨fun _ => ?_, fun _ => ?_, fun _ => ?_, fun _ => ?_, fun _ => ?_⟩
  · -- replay
    refine ⟨nI_ne0 (by omega) (by omega), ?_⟩
    rw [rem_n (by omega) (by omega) (by omega)]
    rintro _ rfl
    have hfr : c % (cH (xC X) + 1) < cH (xC X) + 1 := Nat.mod_lt _ (by omega)
    obtain ⟨fr, hfr2⟩ : ∃ fr, fr = c % (cH (xC X) + 1) := ⟨_, rfl⟩
    rw [← hfr2] at hfr ⊢
    rw [pk_sub (by omega)]
    refine ⟨nI_ne0 (by omega) (by omega), ?_⟩
    have e64 : nI c / 64 = nI (c / 64) := dn 64 (by omega) (by omega)
    rw [e64, rem_n (by omega) (by omega) (by omega), nI_add]
    rintro _ rfl
    have hto : c / 64 % (cH (xC X) + 1 - fr) < cH (xC X) + 1 - fr := Nat.mod_lt _ (by omega)
    obtain ⟨tt, htt⟩ : ∃ tt, tt = fr + c / 64 % (cH (xC X) + 1 - fr) := ⟨_, rfl⟩
    rw [← htt]
    have e4k : nI c / 4096 = nI (c / 4096) := dn 4096 (by omega) (by omega)
    rw [e4k]
    obtain ⟨a, ha, ea⟩ := prF_n h.C (n := cI (xC X) + c / 4096 % cG (xC X)) (f := fr) (t := tt) (by have := net (c / 4096); omega) (by omega) (by omega)
    refine s_net f0 nb.2.1 rfl (by omega) ?_
    refine j_cost h rfl (net _) rfl rfl (by omega) (by omega) ?_
    rw [ea]
    refine s_net f0 nb.2.1 rfl (by omega) ?_
    refine j_replay h (by omega) rfl (net _) rfl rfl (by omega) (by omega) ea ha (fun v J M X2 v1 i2 c2 e2 p2 => ⟨fun _ => ?_, fun e => absurd (nI_pos' v1) e⟩) ⟨fun e => absurd e (by decide), fun _ => same⟩
    refine k _ J M X2 (i2.mono (by omega)) c2 e2 ?_
    rw [← p2, ← nI_add, Int32.add_assoc, Int32.add_right_neg, Int32.add_zero]
  · -- deposit
    have e3 : nI c / 3 = nI (c / 3) := dn 3 (by omega) (by omega)
    have m3 : c / 3 % 200 < 200 := Nat.mod_lt _ (by omega)
    have n3 : c % 3 < 3 := Nat.mod_lt _ (by omega)
    rw [e3, show remI (nI (c / 3)) 200 = nI (c / 3 % 200) from rem_n (n := 200) (by omega) (by omega) (by omega), show remI (nI c) 3 = nI (c % 3) from rem_n (n := 3) (by omega) (by omega) (by omega)]
    rintro _ rfl
    refine j_deposit h hB0 (by omega) rfl n3 rfl (by omega) (fun v J M X2 v1 i2 c2 e2 p2 => ⟨fun _ => ?_, fun e => absurd (nI_pos' v1) e⟩) ⟨fun e => absurd e (by decide), fun _ => same⟩
    exact k _ J M X2 (i2.mono (by omega)) c2 e2 (by rw [p2, nI_add])
  · -- setDelay
    have e8 : nI c / 8 = nI (c / 8) := dn 8 (by omega) (by omega)
    have e24 : nI c / 24 = nI (c / 24) := dn 24 (by omega) (by omega)
    have m8 : c / 8 % 3 < 3 := Nat.mod_lt _ (by omega)
    have m24 : c / 24 % 9 < 9 := Nat.mod_lt _ (by omega)
    refine s_net f0 nb.2.1 rfl (by omega) ?_
    rw [e8, e24, show remI (nI (c / 8)) 3 = nI (c / 8 % 3) from rem_n (n := 3) (by omega) (by omega) (by omega), show remI (nI (c / 24)) 9 = nI (c / 24 % 9) from rem_n (n := 9) (by omega) (by omega) (by omega), show (1 : Int32) + nI (c / 24 % 9) = nI (1 + c / 24 % 9) from nI_add 1 _]
    exact j_setDelay h rfl (net _) rfl m8 rfl (by omega) (by omega) (fun r J M X2 i2 c2 e2 p2 => nil J M X2 (i2.mono (by omega)) c2 e2 p2)
  · -- toggle
    have e4 : nI c / 4 = nI (c / 4) := dn 4 (by omega) (by omega)
    have mI : c % cI (xC X) < cI (xC X) := Nat.mod_lt _ (by omega)
    have mH : c / 4 % (cH (xC X) + 1) < cH (xC X) + 1 := Nat.mod_lt _ (by omega)
    refine ⟨nI_ne0 (by omega) (by omega), nI_ne0 (by omega) (by omega), ?_⟩
    rw [e4, rem_n (by omega) (by omega) (by omega), rem_n (by omega) (by omega) (by omega)]
    exact j_toggle h rfl mI rfl (by omega) (fun r J M X2 i2 c2 e2 p2 => nil J M X2 (i2.mono (by omega)) c2 e2 p2)
  · -- disputes
    exact s_disputes h hB f0 rfl (by omega) (fun J M X2 a => nil J M X2 a.1 a.2.1 a.2.2.1 a.2.2.2)
theorem s_holds {Q : Int32 → TI → TL → Prop} {QX : String → TI → TL → Prop} (h : INV I L b d X 1000000) (hL : gL G ≤ 260) (f : FC I (xC X)) (k : ∀ J M, Q 1 J M) : W_L_holds G I L b d Q QX := by
  unfold W_L_holds
  refine s_purses h ?_
  refine lp4 (fun z v3 v4 I L => L_L_holds_9 G b d Q QX z v3 v4 I L) (fun v3 v4 I L => ∃ m X, 12 ≤ m ∧ m ≤ 30 ∧ v4 = nI m ∧ INV I L b d X (1000000 + 20000 * (m - 12)) ∧ FC I (xC X) ∧ v3 = nI (pS (xr X))) (fun _ v4 _ _ => 30 - v4.toNatClampNeg) ?_ _ _ _ _ ⟨12, X, Nat.le_refl _, by omega, rfl, h, f, rfl⟩
  rintro z v3 v4 I L ⟨m, X, m1, m2, rfl, h, f, rfl⟩ ih
  show D_L_holds_9 G b d Q QX _ _ _ I L
  unfold D_L_holds_9
  refine pk_le 30 m (fun q => k _ _) (fun q => ?_) rfl rfl (by omega) (by omega)
  refine s_cell hL rfl (by omega) (fun c hc => ?_)
  refine s_acts h (by omega) (by omega) f rfl hc (fun v J M X2 i2 c2 e2 p2 => ?_)
  have f2 : FC J (xC X2) := by rw [c2]; exact f.hi e2
  refine s_purses i2 ⟨fun _ => ?_, fun e => absurd p2 e⟩
  rw [← p2]
  have nb := i2.nb
  refine lp1 (fun z2 v5 => L_L_holds_43 G (nI (pS (xr X2))) (nI m) J M b d Q QX (fun v3 v4 I L => L_L_holds_9 G b d Q QX z v3 v4 I L) z2 v5) (fun v5 => ∃ n, n ≤ cI (xC X2) + cG (xC X2) ∧ v5 = nI n) (fun v5 => 20 - v5.toNatClampNeg) ?_ _ ⟨0, Nat.zero_le _, rfl⟩
  rintro z2 v5 ⟨n, n1, rfl⟩ ih2
  show D_L_holds_43 G (nI (pS (xr X2))) (nI m) J M b d Q QX _ _ _
  unfold D_L_holds_43 W_L_nets
  rw [f2.2.1, f2.2.2.1, nI_add]
  refine pk_le (cI (xC X2) + cG (xC X2)) n (fun q2 => ?_) (fun q2 => ?_) rfl rfl (by omega) (by omega)
  · rw [nI_1]
    refine ih _ _ _ _ ⟨m + 1, X2, by omega, by omega, rfl, ?_, f2, rfl⟩ ?_
    · exact i2.mono (by omega)
    · rw [nI_clamp (by omega), nI_clamp (by omega)]
      omega
  · refine s_isShown i2 f2 rfl q2 ⟨fun _ => ?_, fun e => absurd e (by decide)⟩
    rw [nI_1]
    refine ih2 _ ⟨n + 1, by omega, rfl⟩ ?_
    rw [nI_clamp (by omega), nI_clamp (by omega)]
    omega
end HH5
