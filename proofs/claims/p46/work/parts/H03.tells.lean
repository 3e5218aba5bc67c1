/-! the law tells the class its bench, whole -/
section HT3
variable {I J : TI} {L M : TL} {b d t B : Nat} {X : XT} {G : GT}
/-- the law's fields agree with the circuit -/
def FC (I : TI) (C : CQ) : Prop := I 436 2 = nI (cH C) ∧ I 436 3 = nI (cI C) ∧ I 436 4 = nI (cG C) ∧ 1 ≤ cG C ∧ cG C ≤ 7
/-- what the law's text has, gates still to come -/
def TG (H l R F : Nat) (ins : List (Nat × List Nat)) (gas : List GA) : List Nat := headT H l R F (insT ins (gasT gas []))
theorem TG_g {H l R F : Nat} {ins : List (Nat × List Nat)} {gas : List GA} (x : GA) : TG H l R F ins gas ++ gaT x [] = TG H l R F ins (gas ++ [x]) := by
  unfold TG
  rw [headT_app, insT_app, gasT_app, gasT_snoc]
  rfl
theorem TG_i {H l R F : Nat} {ins : List (Nat × List Nat)} (x : Nat × List Nat) : TG H l R F ins [] ++ inT x.1 x.2 [] = TG H l R F (ins ++ [x]) [] := by
  unfold TG
  rw [headT_app, insT_app, insT_snoc]
  rfl
theorem TG_p {H l R F a c e : Nat} {ins : List (Nat × List Nat)} {gas : List GA} : TG H l R F ins gas ++ puT a c e = txtT H l R F ins gas a c e := by
  unfold TG txtT
  rw [headT_app, insT_app, gasT_app]
  rfl
/-- ranges of what is told -/
def RG (H l R F i g : Nat) : Prop := (10 ≤ H ∧ H ≤ 50) ∧ (1 ≤ l ∧ l ≤ 9) ∧ R ≤ 3 ∧ F ≤ 8 ∧ (1 ≤ i ∧ i ≤ 3) ∧ (1 ≤ g ∧ g ≤ 7)
theorem s_size {Q : Int32 → Prop} {QX : String → Prop} {n : Nat} {x : Int32} (h : INV I L b d X B) (hx : x = nI n) (hn : n < 10) (k : Q (szF (xC X) (xr X) n)) : W_X8_size x I L b d Q QX := by
  subst hx
  exact c_size h hn k
/-- behind the gates: purses, feeds, load, questions -/
theorem s_close {Q : Int32 → TI → TL → Nat → Nat → Nat → Prop} {QX : String → TI → TL → Nat → Nat → Nat → Prop} {R217 : Int32 → TI → Prop} {H l R F i g : Nat} {ins : List (Nat × List Nat)} {gas : List GA} {v : Int32} (h : INV I L b d X B) (hB : 100000 ≤ B) (hf : xf X = 0) (hL : gL G ≤ 260) (hr : RG H l R F i g)
    (fs : FS I H i g R F) (hT : TW I (TG H l R F ins gas)) (hi : ins.length = i) (hg : gas.length = g) (hio : ∀ x ∈ ins, inOK H x) (hgo : gasOK i gas) (hlen : (TG H l R F ins gas).length ≤ 350) (hv : v = nI g)
    (k : ∀ J M X2, INV J M d b X2 B → FC J (xC X2) → Q 1 J M d b 350) : D_L_tells_217 G L b d t Q QX R217 v I := by
  obtain ⟨r1, r2, r3, r4, r5, r6⟩ := hr
  subst hv
  unfold D_L_tells_217
  refine ⟨fun _ => ?_, fun e => absurd (by rw [fs.2.2.1]; exact Int32.le_refl _) e⟩
  refine s_writes (pl := 11) c_pur rfl hT (by show _ + 6 ≤ 600; omega) (fun J1 t1 o1 => ?_)
  refine s_cell hL (k := 11) rfl (by omega) (fun m1 hm1 => ?_)
  have a1 : m1 % 300 < 300 := Nat.mod_lt _ (by omega)
  have la := num_1000 (v := m1 % 300) (by omega)
  refine s_spaced (show remI (nI m1) 300 = nI (m1 % 300) from rem_n (n := 300) (by omega) (by omega) (by omega)) (by omega) t1 (by simp only [List.length_append]; show _ + 6 + _ ≤ 600; omega) (fun J2 t2 o2 => ?_)
  refine s_cell hL (k := 11) rfl (by omega) (fun m2 hm2 => ?_)
  have a2 : m2 / 300 % 300 < 300 := Nat.mod_lt _ (by omega)
  have lb := num_1000 (v := m2 / 300 % 300) (by omega)
  have dd2 : m2 / 300 ≤ m2 := Nat.div_le_self _ _
  refine s_spaced (show remI (nI m2 / 300) 300 = nI (m2 / 300 % 300) by rw [show nI m2 / 300 = nI (m2 / 300) from div_n (n := 300) (by omega) (by omega) (by omega)]; exact rem_n (n := 300) (by omega) (by omega) (by omega)) (by omega) t2 (by simp only [List.length_append]; show _ + 6 + _ + _ ≤ 600; omega) (fun J3 t3 o3 => ?_)
  refine s_cell hL (k := 11) rfl (by omega) (fun m3 hm3 => ?_)
  have a3 : m3 / 90000 % 900 < 900 := Nat.mod_lt _ (by omega)
  have lc := num_1000 (v := m3 / 90000 % 900) (by omega)
  have dd3 : m3 / 90000 ≤ m3 := Nat.div_le_self _ _
  refine s_spaced (show remI (nI m3 / 90000) 900 = nI (m3 / 90000 % 900) by rw [show nI m3 / 90000 = nI (m3 / 90000) from div_n (n := 90000) (by omega) (by omega) (by omega)]; exact rem_n (n := 900) (by omega) (by omega) (by omega)) (by omega) t3 (by simp only [List.length_append]; show _ + 6 + _ + _ + _ ≤ 600; omega) (fun J4 t4 o4 => ?_)
  refine s_writes (pl := 13) c_sem rfl t4 (by simp only [List.length_append, List.length_cons, List.length_nil]; show _ + 6 + _ + _ + _ + 1 ≤ 600; omega) (fun J5 t5 o5 => ?_)
  generalize m1 % 300 = a at a1 la t5
  generalize m2 / 300 % 300 = c at a2 lb t5
  generalize m3 / 90000 % 900 = e at a3 lc t5
  have et : TG H l R F ins gas ++ wPur ++ num a ++ num c ++ num e ++ [59] = txtT H l R F ins gas a c e := by
    rw [← TG_p]
    simp [puT]
  have elen : (txtT H l R F ins gas a c e).length ≤ 380 := by
    rw [← et]
    simp only [List.length_append, List.length_cons, List.length_nil]
    show _ + 6 + _ + _ + _ + 1 ≤ 380
    omega
  rw [et] at t5
  have oo : WO I J5 := ((((o1.tr o2).tr o3).tr o4).tr o5)
  refine s_feeds (h.wo oo) elen t5.wt hf (fun J6 M6 X6 i6 f6 b6 e6 z6 => ?_)
  have fs6 : FS J6 H i g R F := (fs.wo oo.2).wo e6
  have hRs : Rs (xb X6) (txtT H l R F ins gas a c e).length 0 (txtT H l R F ins gas a c e) := by
    refine ⟨fun j hj => ?_, Nat.zero_add _⟩
    rw [Nat.zero_add, b6 j (by omega)]
    unfold tbF
    rw [if_pos hj]
  obtain ⟨k1, k2, k3, k4, k5, k6⟩ := rd_text (by omega) (by omega) (by omega) (by omega) (by omega) hio (by omega) (by rw [hi]; exact hgo) (by omega) (by omega) (by omega) hRs
  refine j_load i6 hB rfl f6 rfl rfl (by rw [k1]; rfl) (fun J7 M7 X7 i7 c7 r7 e7 z7 hh => ⟨i7.2.2.1.1, i7.2.2.1.2.1, Or.inr rfl, ?_⟩)
  have ep7 : xe X7 = -1 := by rw [e7, k1]; rfl
  have s4 : un (xr X7 4) = 0 := by rw [r7, z7]; rfl
  rw [k2, k3, hi, hg]
  rw [← c7] at k2 k3 k4 k5 k6
  have fs7 : FS J7 H i g R F := by
    unfold FS
    rw [hh 436 (by omega)]
    exact fs6
  obtain ⟨f1, f2, f3, f4, f5⟩ := fs7
  unfold W_L_nets
  rw [f2, f3, nI_add]
  refine ⟨fun e => absurd rfl e, fun _ => s_size i7 (n := 0) rfl (by omega) ⟨fun e => absurd (by show nI (cI (xC X7)) = _; rw [k2, hi]) e, fun _ => s_size i7 (n := 1) rfl (by omega) ⟨fun e => absurd (by show nI (cG (xC X7)) = _; rw [k3, hg]) e, fun _ => s_size i7 (n := 2) rfl (by omega) ⟨fun _ => j_errorPosition i7 ⟨fun e => absurd ep7 e, fun _ => s_size i7 (n := 4) rfl (by omega) ⟨fun e => absurd (by rw [f4]; show nI (cR (xC X7)) = _; rw [k5]) e, fun _ => s_size i7 (n := 5) rfl (by omega) ⟨fun e => absurd (by rw [f5]; show nI (cF (xC X7)) = _; rw [k6]) e, fun _ => s_size i7 (n := 6) rfl (by omega) ⟨fun e => absurd (by show nI (un (xr X7 4)) = _; rw [s4]; rfl) e, fun _ => ?_⟩⟩⟩⟩, fun e => absurd (by rw [f1]; show nI (cH (xC X7)) = _; rw [k4]) e⟩⟩⟩⟩
  refine k J7 M7 X7 i7 ⟨by rw [f1, k4], by rw [f2, k2, hi], by rw [f3, k3, hg], by rw [k3, hg]; exact r6.1, by rw [k3, hg]; exact r6.2⟩
/-- the gates -/
theorem s_gates {Q : Int32 → TI → TL → Nat → Nat → Nat → Prop} {QX : String → TI → TL → Nat → Nat → Nat → Prop} {H l R F i g : Nat} {ins : List (Nat × List Nat)} (h : INV I L b d X B) (hB : 100000 ≤ B) (hf : xf X = 0) (hL : gL G ≤ 260) (hr : RG H l R F i g)
    (fs : FS I H i g R F) (hT : TW I (TG H l R F ins [])) (hi : ins.length = i) (hio : ∀ x ∈ ins, inOK H x) (hlen : (TG H l R F ins []).length ≤ 200)
    (k : ∀ J M X2, INV J M d b X2 B → FC J (xC X2) → Q 1 J M d b 350) : ∃ n, L_L_tells_217 G L b d t Q QX n 0 I := by
  have hr0 := hr
  obtain ⟨r1, r2, r3, r4, r5, r6⟩ := hr
  refine lp2 (fun n v J => L_L_tells_217 G L b d t Q QX n v J) (fun v J => ∃ gas, v = nI gas.length ∧ gas.length ≤ g ∧ gasOK i gas ∧ TW J (TG H l R F ins gas) ∧ WO I J ∧ (TG H l R F ins gas).length ≤ 200 + 20 * gas.length) (fun v _ => 8 - v.toNatClampNeg) ?_ _ _ ⟨[], rfl, Nat.zero_le _, trivial, hT, WO.rf I, hlen⟩
  rintro n v J ⟨gas, rfl, g1, g2, g3, g4, g5⟩ ih
  show D_L_tells_217 G L b d t Q QX _ _ J
  have fsJ : FS J H i g R F := fs.wo g4.2
  by_cases q : gas.length = g
  · exact s_close (h.wo g4) hB hf hL hr0 fsJ g3 hi q hio g2 (by omega) (by rw [q]) k
  · unfold D_L_tells_217
    refine ⟨fun e => ?_, fun _ => ?_⟩
    · rw [fsJ.2.2.1] at e
      have := (nI_leI (a := g) (b := gas.length) (by omega) (by omega)).mp e
      omega
    · refine s_cell hL (k := 4 + gas.length) (nI_add 4 _) (by omega) (fun m hm => ?_)
      rw [fsJ.2.1, nI_add]
      refine s_gate (n := i + gas.length) rfl hm rfl (by omega) (by omega) g3 (by omega) (fun J2 t2 o2 => ?_)
      rw [TG_g] at t2
      have len := gaF_len (c := m) (n := i + gas.length) (by omega) (by omega)
      refine ih _ _ ⟨gas ++ [gaF m (i + gas.length)], ?_, ?_, gasOK_snoc _ gas i g2 (gaF_ok (by omega)), t2, g4.tr o2, ?_⟩ ?_
      · rw [List.length_append]; exact nI_1 _
      · rw [List.length_append]; show gas.length + 1 ≤ g; omega
      · rw [← TG_g, List.length_append, List.length_append]
        show _ + _ ≤ 200 + 20 * (gas.length + 1)
        omega
      · rw [nI_1, nI_clamp (by omega), nI_clamp (by omega)]; omega
/-- the inputs -/
theorem s_inputs {Q : Int32 → TI → TL → Nat → Nat → Nat → Prop} {QX : String → TI → TL → Nat → Nat → Nat → Prop} {H l R F i g : Nat} (h : INV I L b d X B) (hB : 100000 ≤ B) (hf : xf X = 0) (hL : gL G ≤ 260) (hr : RG H l R F i g)
    (fs : FS I H i g R F) (hT : TW I (TG H l R F [] [])) (hlen : (TG H l R F [] []).length ≤ 20)
    (k : ∀ J M X2, INV J M d b X2 B → FC J (xC X2) → Q 1 J M d b 350) : ∃ n, L_L_tells_118 G L b d t Q QX n 0 I := by
  have hr0 := hr
  obtain ⟨r1, r2, r3, r4, r5, r6⟩ := hr
  refine lp2 (fun n v J => L_L_tells_118 G L b d t Q QX n v J) (fun v J => ∃ ins : List (Nat × List Nat), v = nI ins.length ∧ ins.length ≤ i ∧ (∀ x ∈ ins, inOK H x) ∧ TW J (TG H l R F ins []) ∧ WO I J ∧ (TG H l R F ins []).length ≤ 20 + 35 * ins.length) (fun v _ => 8 - v.toNatClampNeg) ?_ _ _ ⟨[], rfl, Nat.zero_le _, (fun x hx => nomatch hx), hT, WO.rf I, hlen⟩
  rintro n v J ⟨ins, rfl, g1, g2, g3, g4, g5⟩ ih
  show D_L_tells_118 G L b d t Q QX _ _ J
  unfold D_L_tells_118
  have fsJ : FS J H i g R F := fs.wo g4.2
  refine pk_le i ins.length (fun q => ?_) (fun q => ?_) fsJ.2.1 rfl (by omega) (by omega)
  · exact s_gates (h.wo g4) hB hf hL hr0 fsJ g3 (by omega) g2 (by omega) k
  · refine s_cell hL (k := 1 + ins.length) (nI_add 1 _) (by omega) (fun m hm => ?_)
    refine s_writes (pl := 2) c_inp rfl g3 (by show _ + 5 ≤ 600; omega) (fun J1 t1 o1 => ?_)
    have e2 : remI (nI m) 2 = nI (m % 2) := rem_n (n := 2) (by omega) (by omega) (by omega)
    have h2 : m % 2 < 2 := Nat.mod_lt _ (by omega)
    have l2 := num_10 (v := m % 2) (by omega)
    refine s_spaced e2 (by omega) t1 (by rw [List.length_append]; show _ + 5 + _ ≤ 600; omega) (fun J2 t2 o2 => ?_)
    obtain ⟨b2, hb2⟩ : ∃ b2, b2 = m % 2 := ⟨_, rfl⟩
    rw [← hb2] at t2 h2 l2
    obtain ⟨T, hTT⟩ : ∃ T, T = TG H l R F ins [] ++ wInp ++ num b2 := ⟨_, rfl⟩
    rw [← hTT] at t2
    have lT : T.length ≤ 27 + 35 * ins.length := by
      rw [hTT, List.length_append, List.length_append]
      show _ + 5 + _ ≤ _
      omega
    refine lp3 (fun n v6 v7 J => L_L_tells_157 G (nI ins.length) (nI m) L b d t Q QX (fun v4 I => L_L_tells_118 G L b d t Q QX _ v4 I) n v6 v7 J) (fun v6 v7 K => ∃ c fl s, v7 = nI c ∧ c ≤ 9 ∧ v6 = nI s ∧ s ≤ 8 * c ∧ flOK H 0 fl ∧ lsT 0 fl ≤ s ∧ fl.length ≤ c ∧ TW K (T ++ flN fl) ∧ WO I K ∧ (flN fl).length ≤ 3 * c) (fun _ v7 _ => 10 - v7.toNatClampNeg) ?_ _ _ _ ⟨0, [], 0, rfl, Nat.zero_le _, rfl, Nat.zero_le _, trivial, Nat.zero_le _, Nat.zero_le _, by rw [show flN [] = [] from rfl, List.append_nil]; exact t2, (g4.tr o1).tr o2, Nat.zero_le _⟩
    rintro n2 v6 v7 K ⟨c, fl, s, rfl, c1, rfl, c2, c3, c4, c5, c6, c7, c8⟩ ih2
    show D_L_tells_157 G _ _ L b d t Q QX _ _ _ _ K
    unfold D_L_tells_157
    have fsK : FS K H i g R F := fs.wo c7.2
    refine pk_le 9 c (fun q => ?_) (fun q => ?_) rfl rfl (by omega) (by omega)
    · clear ih2
      refine s_writes (pl := 13) c_sem rfl c6 (by rw [List.length_append]; show _ + _ + 1 ≤ 600; omega) (fun K2 t3 o3 => ?_)
      have eT : T ++ flN fl ++ [59] = TG H l R F (ins ++ [(b2, fl)]) [] := by
        rw [← TG_i, hTT]
        unfold inT
        rw [flN_T]
        simp
      rw [nI_1]
      refine ih _ _ ⟨ins ++ [(b2, fl)], ?_, ?_, fun x hx => ?_, by rw [← eT]; exact t3, c7.tr o3, ?_⟩ ?_
      · rw [List.length_append]; rfl
      · rw [List.length_append]; show ins.length + 1 ≤ i; omega
      · rcases List.mem_append.mp hx with y | y
        · exact g2 x y
        · rw [List.mem_singleton.mp y]
          exact ⟨by show b2 ≤ 1; omega, by show fl.length ≤ 61; omega, c3⟩
      · rw [← eT]
        simp only [List.length_append, List.length_cons, List.length_nil]
        omega
      · rw [nI_clamp (by omega), nI_clamp (by omega)]; omega
    · clear ih
      obtain ⟨w, hw, ew⟩ := pk_andE ((nI m) >>> ((3 * nI c) &&& 31)) (m := 7) 3 (by decide)
      rw [ew, show (1 : Int32) + nI w = nI (1 + w) from nI_add 1 w, nI_add]
      rintro _ rfl
      have hw8 : w < 8 := hw
      rw [fsK.1]
      refine pk_lt H (s + (1 + w)) (fun q2 => ?_) (fun q2 => ?_) rfl rfl (by omega) (by omega)
      · show _
        unfold B_L_tells_196
        rw [nI_1]
        refine ih2 _ _ _ ⟨c + 1, fl, s + (1 + w), rfl, by omega, rfl, by omega, c3, by omega, by omega, c6, c7, by omega⟩ ?_
        rw [nI_clamp (by omega), nI_clamp (by omega)]; omega
      · have l3 := num_100 (v := s + (1 + w)) (by omega)
        refine s_spaced rfl (by omega) c6 (by rw [List.length_append]; omega) (fun K2 t3 o3 => ?_)
        unfold B_L_tells_196
        rw [nI_1]
        refine ih2 _ _ _ ⟨c + 1, fl ++ [s + (1 + w)], s + (1 + w), rfl, by omega, rfl, by omega, flOK_snoc fl 0 c3 (by omega) q2, by rw [lsT_snoc]; exact Nat.le_refl _, ?_, ?_, c7.tr o3, ?_⟩ ?_
        · rw [List.length_append]; show fl.length + 1 ≤ c + 1; omega
        · rw [flN_snoc, ← List.append_assoc]; exact t3
        · rw [flN_snoc, List.length_append]; omega
        · rw [nI_clamp (by omega), nI_clamp (by omega)]; omega
/-- the telling, whole -/
theorem s_tells {Q : Int32 → TI → TL → Nat → Nat → Nat → Prop} {QX : String → TI → TL → Nat → Nat → Nat → Prop} (h : INV I L b d X B) (hB : 100000 ≤ B) (hf : xf X = 0) (hL : gL G ≤ 260) (h0 : I 436 1 = 0)
    (k : ∀ J M X2, INV J M d b X2 B → FC J (xC X2) → Q 1 J M d b 350) : W_L_tells G I L b d t Q QX := by
  unfold W_L_tells
  refine s_cell hL (k := 0) rfl (by omega) (fun m hm => ?_)
  rintro _ rfl _ rfl _ rfl
  have dv : ∀ n, m / n ≤ m := fun n => Nat.div_le_self _ _
  have d1 := dv 41
  have d2 := dv 123
  have d3 := dv 861
  have d4 := dv 3444
  have d5 := dv 30996
  have e1 : (10 : Int32) + remI (nI m) 41 = nI (10 + m % 41) := by rw [show remI (nI m) 41 = nI (m % 41) from rem_n (n := 41) (by omega) (by omega) (by omega)]; exact nI_add 10 _
  have e2 : (1 : Int32) + remI (nI m / 41) 3 = nI (1 + m / 41 % 3) := by
    rw [show nI m / 41 = nI (m / 41) from div_n (n := 41) (by omega) (by omega) (by omega), show remI (nI (m / 41)) 3 = nI (m / 41 % 3) from rem_n (n := 3) (by omega) (by omega) (by omega)]
    exact nI_add 1 _
  have e3 : (1 : Int32) + remI (nI m / 123) 7 = nI (1 + m / 123 % 7) := by
    rw [show nI m / 123 = nI (m / 123) from div_n (n := 123) (by omega) (by omega) (by omega), show remI (nI (m / 123)) 7 = nI (m / 123 % 7) from rem_n (n := 7) (by omega) (by omega) (by omega)]
    exact nI_add 1 _
  have e4 : remI (nI m / 861) 4 = nI (m / 861 % 4) := by
    rw [show nI m / 861 = nI (m / 861) from div_n (n := 861) (by omega) (by omega) (by omega)]
    exact rem_n (n := 4) (by omega) (by omega) (by omega)
  have e5 : remI (nI m / 3444) 9 = nI (m / 3444 % 9) := by
    rw [show nI m / 3444 = nI (m / 3444) from div_n (n := 3444) (by omega) (by omega) (by omega)]
    exact rem_n (n := 9) (by omega) (by omega) (by omega)
  have e6 : (1 : Int32) + remI (nI m / 30996) 9 = nI (1 + m / 30996 % 9) := by
    rw [show nI m / 30996 = nI (m / 30996) from div_n (n := 30996) (by omega) (by omega) (by omega), show remI (nI (m / 30996)) 9 = nI (m / 30996 % 9) from rem_n (n := 9) (by omega) (by omega) (by omega)]
    exact nI_add 1 _
  rw [e1, e2, e3, e4, e5, e6]
  have hr : RG (10 + m % 41) (1 + m / 30996 % 9) (m / 861 % 4) (m / 3444 % 9) (1 + m / 41 % 3) (1 + m / 123 % 7) := by
    unfold RG
    omega
  generalize 10 + m % 41 = H at *
  generalize 1 + m / 30996 % 9 = l at *
  generalize m / 861 % 4 = R at *
  generalize m / 3444 % 9 = F at *
  generalize 1 + m / 41 % 3 = i at *
  generalize 1 + m / 123 % 7 = g at *
  have fs : FS (up2 (up2 (up2 (up2 (up2 I 436 2 (nI H)) 436 3 (nI i)) 436 4 (nI g)) 436 5 (nI R)) 436 6 (nI F)) H i g R F := by
    unfold FS
    simp [up2_at]
  have z1 : (up2 (up2 (up2 (up2 (up2 I 436 2 (nI H)) 436 3 (nI i)) 436 4 (nI g)) 436 5 (nI R)) 436 6 (nI F)) 436 1 = 0 := by
    simp [up2_at, h0]
  have iv : INV (up2 (up2 (up2 (up2 (up2 I 436 2 (nI H)) 436 3 (nI i)) 436 4 (nI g)) 436 5 (nI R)) 436 6 (nI F)) L b d X B := h.low (fun q hq => by rw [up2_row (by omega), up2_row (by omega), up2_row (by omega), up2_row (by omega), up2_row (by omega)]) (fun _ _ => rfl)
  generalize up2 (up2 (up2 (up2 (up2 I 436 2 (nI H)) 436 3 (nI i)) 436 4 (nI g)) 436 5 (nI R)) 436 6 (nI F) = I0 at fs z1 iv
  have t0 : TW I0 [] := ⟨z1, by simp, fun i hi => by simp at hi⟩
  have hr0 := hr
  obtain ⟨r1, r2, r3, r4, r5, r6⟩ := hr
  have lH := num_100 (v := H) (by omega)
  have ll := num_10 (v := l) (by omega)
  have lR := num_10 (v := R) (by omega)
  have lF := num_10 (v := F) (by omega)
  refine s_writes (pl := 1) c_ben rfl t0 (by show 0 + 5 ≤ 600; omega) (fun J1 t1 o1 => ?_)
  have f1 := fs.wo o1.2
  refine s_spaced f1.1 (by omega) t1 (by rw [List.length_append]; show 0 + 5 + _ ≤ 600; omega) (fun J2 t2 o2 => ?_)
  refine s_spaced rfl (by omega) t2 (by simp only [List.length_append]; show 0 + 5 + _ + _ ≤ 600; omega) (fun J3 t3 o3 => ?_)
  have o13 := (o1.tr o2).tr o3
  have f3 := fs.wo o13.2
  refine s_spaced f3.2.2.2.1 (by omega) t3 (by simp only [List.length_append]; show 0 + 5 + _ + _ + _ ≤ 600; omega) (fun J4 t4 o4 => ?_)
  have o14 := o13.tr o4
  have f4 := fs.wo o14.2
  refine s_spaced f4.2.2.2.2 (by omega) t4 (by simp only [List.length_append]; show 0 + 5 + _ + _ + _ + _ ≤ 600; omega) (fun J5 t5 o5 => ?_)
  refine s_writes (pl := 13) c_sem rfl t5 (by simp only [List.length_append, List.length_cons, List.length_nil]; show 0 + 5 + _ + _ + _ + _ + 1 ≤ 600; omega) (fun J6 t6 o6 => ?_)
  have o16 := (o14.tr o5).tr o6
  have eT : [] ++ wBen ++ num H ++ num l ++ num R ++ num F ++ [59] = TG H l R F [] [] := by
    show _ = headT H l R F []
    simp [headT]
  rw [eT] at t6
  have lT : (TG H l R F [] []).length ≤ 20 := by
    rw [← eT]
    simp only [List.length_append, List.length_cons, List.length_nil]
    show 0 + 5 + _ + _ + _ + _ + 1 ≤ 20
    omega
  exact s_inputs (iv.wo o16) hB hf hL hr0 (fs.wo o16.2) t6 lT k
end HT3
