/-! the waves of the reference -/
theorem tx_n {n : Nat} (h : n ≠ 16) : tx n = nI n := if_neg h
theorem tx_16 : tx 16 = -1 := if_pos rfl
theorem nI_nm1 {n : Nat} (h : n < 2 ^ 31) : ¬ nI n = -1 := by
  intro e
  have := congrArg Int32.toInt e
  rw [nI_toInt h, show (-1 : Int32).toInt = -1 from rfl] at this
  omega
/-- where the memory of longs is the same but for some rows -/
def sameL (S : List Nat) (L L' : TL) : Prop := ∀ a, a ∉ S → L' a = L a
theorem sameL.rf (S : List Nat) (L : TL) : sameL S L L := fun _ _ => rfl
theorem sameL.up {S : List Nat} {L L' : TL} (h : sameL S L L') {a j : Nat} {x : Int64} (ha : a ∈ S) : sameL S L (up2 L' a j x) := fun k hk => by
  rw [up2_row (show k ≠ a from fun e => hk (e ▸ ha))]
  exact h k hk
theorem sameL.tr {S : List Nat} {L L' L2 : TL} (h : sameL S L L') (h2 : sameL S L' L2) : sameL S L L2 := fun k hk => (h2 k hk).trans (h k hk)
theorem s_made {I : TI} {L : TL} {Q : Int64 → Prop} {C : CQ} {g : Nat} {x : Int32} {a b : Int64} (hM : MC I C) (hC : CV C) (hx : x = nI g) (hg : g < cG C) (k : Q (idl (cK C g) (cH C) a b)) : W_X9_made x a b I L Q := by
  subst hx
  have hG : cG C ≤ 12 := hC.2.1
  have hk : cK C g ≤ 6 := (hC.2.2.2.2.2.1 g hg).1
  unfold W_X9_made
  refine s_times rfl hM.2.2.1 (Nat.zero_le _) (by have := hC.2.2.1; omega) ⟨pk_in g 12 (by omega), ?_⟩
  rw [pk_cl g rfl (by omega), (hM.2.2.2.2.2 g hg).1]
  generalize cK C g = q at hk k
  have z : ∀ c : Nat, c < 7 → nI q = nI c → q = c := fun c hc e => (nI_eq (by omega) (by omega)).mp e
  refine ⟨fun e => ?_, fun e => ?_, fun e => ?_, fun e => ?_, fun e => ?_, fun e => ?_, fun e => ?_⟩
  · have := z 0 (by omega) e; subst this; exact k
  · have := z 1 (by omega) e; subst this; exact k
  · have := z 2 (by omega) e; subst this; exact k
  · have := z 3 (by omega) e; subst this; exact k
  · have := z 4 (by omega) e; subst this; exact k
  · have := z 5 (by omega) e; subst this; exact k
  · have h6 : q = 6 := by
      rcases e with e | e
      · exact absurd e (nI_pos (by omega))
      · have : 5 < q := (nI_ltI (by omega) (by omega)).mp e
        omega
    subst h6
    exact k
theorem s_ideal {I : TI} {L : TL} {Q : Int64 → Prop} {C : CQ} {g : Nat} {x : Int32} {p : Nat} (hC : CV C) (hx : x = tx (cT C g)) (hg : g < cG C) (k : ∀ v, (cT C g ≠ 16 → v = L p (cT C g)) → Q v) : W_X9_ideal p x I L Q := by
  subst hx
  unfold W_X9_ideal
  have h5 := hC.2.2.2.2.2.1 g hg
  have hG : cG C ≤ 12 := hC.2.1
  have hI := hC.1
  by_cases e : cT C g = 16
  · rw [e, tx_16]
    refine ⟨fun h => absurd rfl h, fun _ => k 0 (fun h => absurd e h)⟩
  · have hlt : cT C g < cI C + g := by
      rcases Nat.lt_or_ge (cK C g) 5 with q | q
      · exact h5.2.2.1 q
      · exact absurd (h5.2.2.2 q) e
    rw [tx_n e]
    refine ⟨fun _ => ⟨pk_in (cT C g) 16 (by omega) rfl, ?_⟩, fun h => absurd h (nI_nm1 (by omega))⟩
    rw [pk_cl (cT C g) rfl (by omega)]
    exact k _ (fun _ => rfl)
theorem idl_t {C : CQ} {g : Nat} {v a : Int64} {x : Nat → Int64} (hC : CV C) (hg : g < cG C) (hv : cT C g ≠ 16 → v = x (cT C g)) : idl (cK C g) (cH C) a v = idl (cK C g) (cH C) a (x (cT C g)) := by
  have h5 := hC.2.2.2.2.2.1 g hg
  by_cases e : cT C g = 16
  · refine idl_u ?_ _ _ _
    rcases Nat.lt_or_ge (cK C g) 5 with q | q
    · have := h5.2.2.1 q
      have := hC.1
      have := hC.2.1
      omega
    · exact q
  · rw [hv e]
theorem lor_shl {u : Int64} {b : Bool} {j t : Nat} (hj : j < 64) (ht : t < 64) : bw (u ||| shlL (bi b).toInt64 (nI j)) t = (bw u t || (decide (t = j) && b)) := by
  rw [bw_or, bw_shl _ hj ht, bi_l]
  cases b with
  | false =>
    rw [if_neg (by decide), bw_0]
    simp
  | true =>
    rw [if_pos rfl, show (1 : Int64) = lN 1 from rfl]
    by_cases h2 : j ≤ t
    · rw [bw_lN 1 (by omega)]
      by_cases h3 : t = j
      · subst h3; simp
      · have : t - j = (t - j - 1) + 1 := by omega
        rw [this, Nat.testBit_succ]
        simp [h3]
    · have : t ≠ j := by omega
      simp [h2, this]
theorem s_late {I : TI} {L : TL} {Q : Int64 → Prop} {H by0 : Nat} {x : Int32} {w : Int64} (hH : I 436 7 = nI H) (hl : H ≤ 60) (hx : x = nI by0) (hb : by0 < 100) (k : Q (lat H by0 w)) : W_X9_late w x I L Q := by
  subst hx
  unfold W_X9_late
  refine lp2 (fun n u v => L_X9_late_6 w (nI by0) I L Q n u v) (fun u v => ∃ j, j ≤ H + 1 ∧ v = nI j ∧ ∀ t, t < 64 → bw u t = (decide (t < j) && bw w (t - by0))) (fun _ v => H + 2 - v.toNatClampNeg) ?_ _ _ ⟨0, Nat.zero_le _, rfl, fun t _ => by simp [bw_0]⟩
  rintro n u v ⟨j, h1, rfl, h2⟩ ih
  have nxt : ∀ q, q = j - by0 → (∀ z, z = (u ||| shlL (bi (bw w q)).toInt64 (nI j)) → L_X9_late_6 w (nI by0) I L Q n z (nI j + 1)) ∨ j = H + 1 := by
    intro q hq
    rcases Nat.lt_or_ge H j with e | e
    · exact Or.inr (by omega)
    · refine Or.inl ?_
      rintro z rfl
      refine ih _ _ ⟨j + 1, by omega, nI_1 j, ?_⟩ ?_
      · intro t ht
        rw [lor_shl (by omega) ht, h2 t ht, hq]
        by_cases a : t < j
        · have b : t ≠ j := by omega
          have c : t < j + 1 := by omega
          simp [a, b, c]
        · by_cases b : t = j
          · subst b; simp
          · have c : ¬ t < j + 1 := by omega
            simp [a, b, c]
      · rw [nI_1, nI_clamp (by omega), nI_clamp (by omega)]
        omega
  refine pk_lt H j (fun hc => ?_) (fun hc => ?_) hH rfl (by omega) (by omega)
  · have e : u = lat H by0 w := by
      apply bw_ext
      intro t ht
      unfold lat
      rw [bw_mkw _ ht, h2 t ht]
      congr 2
      apply propext
      omega
    rw [e]
    exact k
  · refine pk_le by0 j (fun hc2 => ?_) (fun hc2 => ?_) rfl rfl (by omega) (by omega)
    · refine s_bit (pk_sub hc2) (by omega) ?_
      rcases nxt (j - by0) rfl with q | q
      · exact q
      · omega
    · refine s_bit (t := 0) rfl (by omega) ?_
      rcases nxt 0 (by omega) with q | q
      · exact q
      · omega
theorem s_steady {I : TI} {L : TL} {Q : Int32 → Prop} {t d : Nat} {x y : Int32} {w : Int64} (hx : x = nI t) (hy : y = nI d) (ht : t < 64) (hd : d < 100) (k : Q (bi (stb w t d))) : W_X9_isSteady w x y I L Q := by
  subst hx; subst hy
  unfold W_X9_isSteady
  refine pk_le d t (fun hc => ?_) (fun hc => ?_) rfl rfl (by omega) (by omega)
  · rw [pk_sub hc]
    refine lp1 (fun n v => L_X9_isSteady_12 w (nI t) I L Q n v) (fun v => ∃ j, t - d ≤ j ∧ j ≤ t ∧ v = nI j ∧ ∀ i, t - d ≤ i → i < j → bw w i = bw w t) (fun v => t - v.toNatClampNeg) ?_ _ ⟨t - d, Nat.le_refl _, Nat.sub_le _ _, rfl, fun i h1 h2 => by omega⟩
    rintro n v ⟨j, h1, h2, rfl, h3⟩ ih
    refine pk_le t j (fun hc2 => ?_) (fun hc2 => ?_) rfl rfl (by omega) (by omega)
    · have e : stb w t d = true := stb_iff.mpr ⟨hc, fun i a b => h3 i a (by omega)⟩
      rw [e] at k
      exact k
    · refine s_bit rfl (by omega) (s_bit rfl (by omega) ⟨fun e => ?_, fun e => ?_⟩)
      · rw [bi_inj] at e
        refine ih _ ⟨j + 1, by omega, by omega, nI_1 j, fun i a b => ?_⟩ ?_
        · by_cases q : i = j
          · subst q; exact e
          · exact h3 i a (by omega)
        · rw [nI_1, nI_clamp (by omega), nI_clamp (by omega)]
          omega
      · rw [bi_inj] at e
        have e2 : stb w t d = false := by
          rw [← Bool.not_eq_true, stb_iff]
          rintro ⟨_, q⟩
          exact e (q j h1 hc2)
        rw [e2] at k
        exact k
  · have e2 : stb w t d = false := by
      rw [← Bool.not_eq_true, stb_iff]
      rintro ⟨q, _⟩
      omega
    rw [e2] at k
    exact k
theorem s_dearOf {I : TI} {L : TL} {Q : Int64 → Prop} {H g : Nat} {x : Int32} {w : Int64} (hH : I 436 7 = nI H) (hl : H ≤ 60) (hx : x = nI g) (hg : g < 12) (hd : ∀ w, w < 2 → dl (L 437) g w < 100) (k : Q (drF H (dl (L 437) g 0) (dl (L 437) g 1) w)) : W_X9_dearOf x w I L Q := by
  subst hx
  unfold W_X9_dearOf
  refine s_bit (t := 0) rfl (by omega) ?_
  have hrow : ∀ v, v < 2 → (L 437 (45 + 3 * g + v)).toInt32 = nI (dl (L 437) g v) := fun v _ => un_i _
  refine lp3 (fun n u v z => L_X9_dearOf_15 (nI g) w I L Q n u v z) (fun u v z => ∃ j, j ≤ H ∧ z = nI (j + 1) ∧ v = bi (lvl w (dl (L 437) g 0) (dl (L 437) g 1) j) ∧ ∀ t, t < 64 → bw u t = (decide (t ≤ j) && lvl w (dl (L 437) g 0) (dl (L 437) g 1) t)) (fun _ _ z => H + 2 - z.toNatClampNeg) ?_ _ _ _ ⟨0, Nat.zero_le _, rfl, rfl, fun t _ => ?_⟩
  · rintro n u v z ⟨j, h1, rfl, rfl, h2⟩ ih
    refine pk_lt H (j + 1) (fun hc => ?_) (fun hc => ?_) hH rfl (by omega) (by omega)
    · have e : u = drF H (dl (L 437) g 0) (dl (L 437) g 1) w := by
        apply bw_ext
        intro t ht
        unfold drF
        rw [bw_mkw _ ht, h2 t ht, show j = H by omega]
      rw [e]
      exact k
    · have fin : ∀ b : Bool, b = lvl w (dl (L 437) g 0) (dl (L 437) g 1) (j + 1) → B_X9_dearOf_80 (nI g) w u (bi b) (nI (j + 1)) I L Q (fun v4 v6 v7 => L_X9_dearOf_15 (nI g) w I L Q n v4 v6 v7) := by
        rintro b hb z rfl
        refine ih _ _ _ ⟨j + 1, by omega, nI_1 _, congrArg bi hb, fun t ht => ?_⟩ ?_
        · rw [lor_shl (by omega) ht, h2 t ht]
          by_cases a : t ≤ j
          · have b1 : t ≠ j + 1 := by omega
            have c : t ≤ j + 1 := by omega
            simp [a, b1, c]
          · by_cases b1 : t = j + 1
            · subst b1; simp [hb]
            · have c : ¬ t ≤ j + 1 := by omega
              simp [a, b1, c]
        · rw [nI_1, nI_clamp (by omega), nI_clamp (by omega)]
          omega
      have mid : ∀ (b : Bool) (v : Nat), b = bw w (j + 1) → v = (if bw w (j + 1) = true then 0 else 1) → B_X9_dearOf_53 (nI g) w u (bi (lvl w (dl (L 437) g 0) (dl (L 437) g 1) j)) (nI (j + 1)) (bi b) ((45 : Int32) + ((3 : Int32) * nI g)) (nI v) I L Q (fun v4 v6 v7 => L_X9_dearOf_15 (nI g) w I L Q n v4 v6 v7) := by
        intro b v hb hv
        have hv2 : v < 2 := by rw [hv]; split <;> omega
        have ei : (45 : Int32) + ((3 : Int32) * nI g) + nI v = nI (45 + 3 * g + v) := by
          rw [show (3 : Int32) = nI 3 from rfl, show (45 : Int32) = nI 45 from rfl, pk_mul, nI_add, nI_add]
        have el : lvl w (dl (L 437) g 0) (dl (L 437) g 1) (j + 1) = if stb w (j + 1) (dl (L 437) g v) = true then bw w (j + 1) else lvl w (dl (L 437) g 0) (dl (L 437) g 1) j := by
          show (if stb w (j + 1) (if bw w (j + 1) = true then dl (L 437) g 0 else dl (L 437) g 1) = true then _ else _) = _
          rw [hv]
          cases bw w (j + 1) <;> rfl
        refine ⟨pk_in _ 241 (by omega) ei, ?_⟩
        rw [pk_cl _ ei (by omega), hrow v hv2]
        rintro z rfl
        refine ⟨fun e => ?_, fun e => ?_⟩
        · rw [bi_inj] at e
          refine fin _ ?_
          rw [el, ← hb, e]
          split <;> rfl
        · refine s_steady rfl rfl (by omega) (hd v hv2) ⟨fun e2 => ?_, fun e2 => ?_⟩
          · rw [bi_0] at e2
            refine fin _ ?_
            rw [el, if_neg (by rw [e2]; decide)]
          · rw [bi_0, Bool.not_eq_false] at e2
            refine fin _ ?_
            rw [el, if_pos e2, hb]
      refine s_bit rfl (by omega) ⟨fun e => ?_, fun e => ?_⟩
      · rw [bi_1] at e
        exact mid _ 1 rfl (by rw [if_neg e])
      · rw [bi_1] at e
        exact mid _ 0 rfl (by rw [if_pos e])
  · rw [bw_and, show (1 : Int64) = win 0 0 from rfl]
    by_cases h : t < 64
    · rw [bw_win (by omega) h]
      cases t with
      | zero => simp [lvl]
      | succ m => simp
    · rw [bw_big (by omega)]
      simp
      omega
def wvS : List Nat := [444, 445, 446]
theorem s_waves {I : TI} {L : TL} {Q : TL → Prop} {C : CQ} (hM : MC I C) (hC : CV C) (hd : ∀ g, g < cG C → ∀ w, w < 3 → dl (L 437) g w < 100) (k : ∀ L', sameL wvS L L' → WEq C (L 437) (L' 444) (L' 445) (L' 446) → Q L') : W_X9_waves I L Q := by
  have hI := hC.1
  have hG := hC.2.1
  have hH := hC.2.2.1
  unfold W_X9_waves
  refine lp2 (fun n v l => L_X9_waves_2 I Q n v l) (fun v l => ∃ j, j ≤ cI C ∧ v = nI j ∧ sameL wvS L l ∧ ∀ n, n < j → l 444 n = L 437 (5 + n) ∧ l 445 n = L 437 (5 + n) ∧ l 446 n = L 437 (5 + n)) (fun v _ => cI C + 1 - v.toNatClampNeg) ?_ _ _ ⟨0, Nat.zero_le _, rfl, sameL.rf _ _, fun n hn => absurd hn (Nat.not_lt_zero _)⟩
  rintro n v l ⟨j, h1, rfl, h2, h3⟩ ih
  refine pk_le (cI C) j (fun hc => ?_) (fun hc => ?_) hM.1 rfl (by omega) (by omega)
  · clear ih
    have ej : j = cI C := by omega
    subst ej
    refine lp2 (fun n v l => L_X9_waves_60 I Q n v l) (fun v l => ∃ j, j ≤ cG C ∧ v = nI j ∧ sameL wvS L l ∧ WEqn C (L 437) j (l 444) (l 445) (l 446)) (fun v _ => cG C + 1 - v.toNatClampNeg) ?_ _ _ ⟨0, Nat.zero_le _, rfl, h2, h3, fun g hg => absurd hg (Nat.not_lt_zero _)⟩
    clear h2 h3
    rintro n v l ⟨j, h1, rfl, h2, h3⟩ ih
    have hr : l 437 = L 437 := h2 437 (by decide)
    refine pk_le (cG C) j (fun hc => ?_) (fun hc => ?_) hM.2.1 rfl (by omega) (by omega)
    · have ej : j = cG C := by omega
      subst ej
      exact k l h2 h3
    · obtain ⟨g1, g2, g3⟩ := hM.2.2.2.2.2 j hc
      obtain ⟨n1, n2, n3, n4⟩ := hC.net hc
      have e2 : (45 : Int32) + (3 : Int32) * nI j + 2 = nI (45 + 3 * j + 2) := by
        rw [show (3 : Int32) = nI 3 from rfl, show (45 : Int32) = nI 45 from rfl, show (2 : Int32) = nI 2 from rfl, pk_mul, nI_add, nI_add]
      have e21 : (21 : Int32) + nI j = nI (21 + j) := nI_add 21 j
      have e33 : (33 : Int32) + nI j = nI (33 + j) := nI_add 33 j
      have e9 : (9 : Int32) + nI j = nI (9 + j) := nI_add 9 j
      have eo : (nI (cO C j)).toNatClampNeg = cO C j := nI_clamp (by omega)
      have ej : (nI j).toNatClampNeg = j := nI_clamp (by omega)
      have en : (nI (cI C + j)).toNatClampNeg = cI C + j := nI_clamp (by omega)
      have ro : ∀ a b c x y z, (up2 (up2 (up2 l 446 a x) 445 b y) 444 c z) 437 = L 437 := by
        intro a b c x y z
        rw [up2_row (by decide), up2_row (by decide), up2_row (by decide), hr]
      have ro2 : ∀ a b x y, (up2 (up2 l 446 a x) 445 b y) 437 = L 437 := by
        intro a b x y
        rw [up2_row (by decide), up2_row (by decide), hr]
      rw [e2, e21, e33, e9, hM.1, nI_add, ej, g2, eo, en, nI_clamp (show 45 + 3 * j + 2 < 2 ^ 31 by omega), nI_clamp (show 21 + j < 2 ^ 31 by omega), nI_clamp (show 33 + j < 2 ^ 31 by omega), nI_clamp (show 9 + j < 2 ^ 31 by omega)]
      have v12 : vp_in (nI j) 12 := pk_in j 12 (by omega) rfl
      have vo : vp_in (nI (cO C j)) 16 := pk_in (cO C j) 16 (by omega) rfl
      have vn : vp_in (nI (cI C + j)) 16 := pk_in (cI C + j) 16 (by omega) rfl
      refine ⟨pk_in _ 241 (by omega) rfl, ?_⟩
      rintro _ rfl
      refine ⟨v12, vo, v12, ?_⟩
      refine s_ideal hC g3 hc (fun v1 hv1 => ?_)
      refine s_made hM hC rfl hc ?_
      refine s_dearOf (H := cH C) hM.2.2.1 (by omega) rfl (by omega) (fun w hw => by rw [hr]; exact hd j hc w (by omega)) ?_
      refine ⟨vn, v12, vo, v12, ?_⟩
      refine s_ideal hC g3 hc (fun v2 hv2 => ?_)
      refine s_made hM hC rfl hc ?_
      refine s_late (by0 := dl (L 437) j 2) hM.2.2.1 (by omega) (by rw [hr]; exact un_i _) (hd j hc 2 (by omega)) ?_
      refine ⟨vn, ?_⟩
      rintro _ rfl
      refine ⟨v12, vo, v12, ?_⟩
      refine s_ideal hC g3 hc (fun v3 hv3 => ?_)
      refine s_made hM hC rfl hc ?_
      refine s_late (by0 := dl (L 437) j 2) hM.2.2.1 (by omega) (by rw [hr]; exact un_i _) (hd j hc 2 (by omega)) ?_
      refine ⟨pk_in _ 241 (by omega) rfl, pk_in _ 241 (by omega) rfl, pk_in _ 241 (by omega) rfl, ?_⟩
      rintro _ rfl
      refine ⟨pk_in _ 241 (by omega) rfl, vn, pk_in _ 241 (by omega) rfl, vn, ?_⟩
      rintro _ rfl
      rw [up2_row (show (445 : Nat) ≠ 446 by decide)] at hv2
      rw [up2_row (show (444 : Nat) ≠ 445 by decide), up2_row (show (444 : Nat) ≠ 446 by decide)] at hv3
      rw [idl_t (x := l 446) hC hc hv1, idl_t (x := l 445) hC hc hv2, idl_t (x := l 444) hC hc hv3, hr, ro2]
      refine ih _ _ ⟨j + 1, by omega, nI_1 j, ((h2.up (by decide)).up (by decide)).up (by decide), ?_⟩ (by rw [nI_1, nI_clamp (by omega), nI_clamp (by omega)]; omega)
      refine WEqn.step hC hc h3 rfl rfl rfl (fun n => ?_) (fun n => ?_) (fun n => ?_)
      · rw [up2_at, up2_row (show (444 : Nat) ≠ 445 by decide), up2_row (show (444 : Nat) ≠ 446 by decide), up2_row (show (446 : Nat) ≠ 445 by decide), up2_s]
        rfl
      · rw [up2_row (show (445 : Nat) ≠ 444 by decide), up2_at, up2_row (show (445 : Nat) ≠ 446 by decide)]
        rfl
      · rw [up2_row (show (446 : Nat) ≠ 444 by decide), up2_row (show (446 : Nat) ≠ 445 by decide), up2_at]
  · have e5 : (5 : Int32) + nI j = nI (5 + j) := nI_add 5 j
    have hr : l 437 = L 437 := h2 437 (by decide)
    rw [e5, nI_clamp (show 5 + j < 2 ^ 31 by omega), nI_clamp (show j < 2 ^ 31 by omega)]
    have v5 : vp_in (nI (5 + j)) 241 := pk_in _ 241 (by omega) rfl
    have vj : vp_in (nI j) 16 := pk_in _ 16 (by omega) rfl
    refine ⟨v5, vj, ?_⟩
    rintro _ rfl
    refine ⟨v5, vj, ?_⟩
    rintro _ rfl
    refine ⟨v5, vj, ?_⟩
    rintro _ rfl
    rw [up2_row (show (437 : Nat) ≠ 445 by decide), up2_row (show (437 : Nat) ≠ 444 by decide), hr]
    refine ih _ _ ⟨j + 1, by omega, nI_1 j, ((h2.up (by decide)).up (by decide)).up (by decide), fun n hn => ?_⟩ (by rw [nI_1, nI_clamp (by omega), nI_clamp (by omega)]; omega)
    rw [up2_row (show (444 : Nat) ≠ 446 by decide), up2_row (show (444 : Nat) ≠ 445 by decide), up2_at, up2_row (show (445 : Nat) ≠ 446 by decide), up2_at, up2_row (show (445 : Nat) ≠ 444 by decide), up2_at, up2_row (show (446 : Nat) ≠ 445 by decide), up2_row (show (446 : Nat) ≠ 444 by decide)]
    by_cases q : n = j
    · subst q
      rw [if_pos rfl, if_pos rfl, if_pos rfl]
      exact ⟨rfl, rfl, rfl⟩
    · rw [if_neg q, if_neg q, if_neg q]
      exact h3 n (by omega)
