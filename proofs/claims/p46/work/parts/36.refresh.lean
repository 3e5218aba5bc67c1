/-! refresh and showInto -/
def shG (C : CQ) (r : RW) (se : Nat → Int64) (g : Nat) (x : Nat → Int64) (d : Int64) : Int64 := (((latC C r g x &&& (r (21 + g) ^^^ (-1))) ||| (r (33 + g) &&& r (21 + g))) &&& (se g ^^^ (-1))) ||| (d &&& se g)
def SEqn (C : CQ) (r : RW) (se : Nat → Int64) (j : Nat) (sh de : Nat → Int64) : Prop := (∀ n, n < cI C → sh n = r (5 + n)) ∧ ∀ g, g < j → sh (cI C + g) = shG C r se g sh (de (cI C + g))
def DEqn (C : CQ) (r : RW) (j : Nat) (ch de : Nat → Int64) : Prop := (∀ n, n < cI C → ch n = r (5 + n) ∧ de n = r (5 + n)) ∧
  ∀ g, g < j → de (cI C + g) = drF (cH C) (dl r g 0) (dl r g 1) (idl (cK C g) (cH C) (de (cO C g)) (de (cT C g))) ∧ ch (cI C + g) = latC C r g ch
theorem WEqn.of {C : CQ} {r : RW} {j : Nat} {sh ch de : Nat → Int64} (h : DEqn C r j ch de) (h2 : SEqn C r (fun g => r (9 + g)) j sh de) : WEqn C r j sh ch de :=
  ⟨fun n hn => ⟨h2.1 n hn, (h.1 n hn).1, (h.1 n hn).2⟩, fun g hg => ⟨(h.2 g hg).1, (h.2 g hg).2, h2.2 g hg⟩⟩
theorem WEqn.d {C : CQ} {r : RW} {j : Nat} {sh ch de : Nat → Int64} (h : WEqn C r j sh ch de) : DEqn C r j ch de := ⟨fun n hn => (h.1 n hn).2, fun g hg => ⟨(h.2 g hg).1, (h.2 g hg).2.1⟩⟩
theorem WEqn.s {C : CQ} {r : RW} {j : Nat} {sh ch de : Nat → Int64} (h : WEqn C r j sh ch de) : SEqn C r (fun g => r (9 + g)) j sh de := ⟨fun n hn => (h.1 n hn).1, fun g hg => (h.2 g hg).2.2⟩
theorem DEqn.step {C : CQ} {r : RW} {j : Nat} {ch de ch2 de2 : Nat → Int64} {D E : Int64} (hC : CV C) (hj : j < cG C) (h : DEqn C r j ch de)
    (hD : D = drF (cH C) (dl r j 0) (dl r j 1) (idl (cK C j) (cH C) (de (cO C j)) (de (cT C j)))) (hE : E = latC C r j ch)
    (b : ∀ n, ch2 n = if n = cI C + j then E else ch n) (c : ∀ n, de2 n = if n = cI C + j then D else de n) : DEqn C r (j + 1) ch2 de2 := by
  have e : ∀ n, n < cI C + j → ch2 n = ch n ∧ de2 n = de n := fun n hn => by
    rw [b, c, if_neg (by omega), if_neg (by omega)]
    exact ⟨rfl, rfl⟩
  refine ⟨fun n hn => ?_, fun g hg => ?_⟩
  · rw [(e n (by omega)).1, (e n (by omega)).2]
    exact h.1 n hn
  · by_cases q : g < j
    · have hg2 : g < cG C := by omega
      rw [(e _ (show cI C + g < cI C + j by omega)).1, (e _ (show cI C + g < cI C + j by omega)).2, (h.2 g q).1, (h.2 g q).2, idl_ext hC hg2 (x := de2) (y := de) (fun n hn => (e n (by omega)).2), latC_ext hC hg2 (x := ch2) (y := ch) (fun n hn => (e n (by omega)).1)]
      exact ⟨rfl, rfl⟩
    · have e2 : g = j := by omega
      subst e2
      rw [b (cI C + g), c (cI C + g), if_pos rfl, if_pos rfl]
      refine ⟨?_, ?_⟩
      · rw [hD, idl_ext hC hj (x := de2) (y := de) (fun n hn => (e n hn).2)]
      · rw [hE, latC_ext hC hj (x := ch2) (y := ch) (fun n hn => (e n hn).1)]
theorem DEqn.ext {C : CQ} {r : RW} {j : Nat} {ch de ch2 de2 : Nat → Int64} (h : DEqn C r j ch de) (e1 : ch2 = ch) (e2 : de2 = de) : DEqn C r j ch2 de2 := by
  rw [e1, e2]
  exact h
theorem SEqn.step {C : CQ} {r : RW} {se : Nat → Int64} {j : Nat} {sh de sh2 : Nat → Int64} {S : Int64} (hC : CV C) (hj : j < cG C) (h : SEqn C r se j sh de) (hS : S = shG C r se j sh (de (cI C + j))) (a : ∀ n, sh2 n = if n = cI C + j then S else sh n) : SEqn C r se (j + 1) sh2 de := by
  have e : ∀ n, n < cI C + j → sh2 n = sh n := fun n hn => by rw [a, if_neg (by omega)]
  refine ⟨fun n hn => ?_, fun g hg => ?_⟩
  · rw [e n (by omega)]
    exact h.1 n hn
  · by_cases q : g < j
    · have hg2 : g < cG C := by omega
      rw [e _ (show cI C + g < cI C + j by omega), h.2 g q]
      unfold shG
      rw [latC_ext hC hg2 (x := sh2) (y := sh) (fun n hn => e n (by omega))]
    · have e2 : g = j := by omega
      subst e2
      rw [a (cI C + g), if_pos rfl, hS]
      unfold shG
      rw [latC_ext hC hj (x := sh2) (y := sh) (fun n hn => e n hn)]
/-- where the ints are the same but for some rows -/
def sameI (S : List Nat) (I J : TI) : Prop := ∀ a, a ∉ S → J a = I a
theorem sameI.rf (S : List Nat) (I : TI) : sameI S I I := fun _ _ => rfl
theorem sameI.up {S : List Nat} {I J : TI} (h : sameI S I J) {a j : Nat} {x : Int32} (ha : a ∈ S) : sameI S I (up2 J a j x) := fun k hk => by
  rw [up2_row (show k ≠ a from fun e => hk (e ▸ ha))]
  exact h k hk
theorem sameI.tr {S : List Nat} {I J K : TI} (h : sameI S I J) (h2 : sameI S J K) : sameI S I K := fun k hk => (h2 k hk).trans (h k hk)
theorem nin1 {a b : Nat} (h : a ≠ b) : a ∉ [b] := fun q => h (List.mem_singleton.mp q)
theorem nin2 {a b c : Nat} (h : a ≠ b) (h2 : a ≠ c) : a ∉ [b, c] := fun q => by
  rcases List.mem_cons.mp q with e | e
  · exact h e
  · exact h2 (List.mem_singleton.mp e)
theorem nin3 {a b c d : Nat} (h : a ≠ b) (h2 : a ≠ c) (h3 : a ≠ d) : a ∉ [b, c, d] := fun q => by
  rcases List.mem_cons.mp q with e | e
  · exact h e
  · exact nin2 h2 h3 e
theorem in1 {a : Nat} {l : List Nat} : a ∈ a :: l := List.mem_cons_self
theorem in2 {a b : Nat} {l : List Nat} : a ∈ b :: a :: l := List.mem_cons_of_mem _ in1
theorem in3 {a b c : Nat} {l : List Nat} : a ∈ b :: c :: a :: l := List.mem_cons_of_mem _ in2
theorem s_showInto {I : TI} {L : TL} {Q : TL → Prop} {C : CQ} {r : RW} {b T : Nat} {x : Int32} {m : Int64} {se : Nat → Int64} (h : CC I (b + 1) C) (hC : CV C) (hS : SC I L (b + 6) C r) (hV : DV C r) (hv : ∀ g, g < cG C → (r (33 + g) &&& r (21 + g)) = r (33 + g))
    (hT : T = b + 37 ∨ T = b + 40) (hse : ∀ g, g < cG C → se g = if nI (cI C + g) = x then r (9 + g) ||| m else r (9 + g)) (k : ∀ L', sameL [T] L L' → SEqn C r se (cG C) (L' T) (L (b + 39)) → Q L') : W_X0_showInto b T x m I L Q := by
  have hI := hC.1
  have hG := hC.2.1
  have h4 : ∀ n, n < cI C → L (b + 11) n = r (5 + n) := fun n hn => (hS.2.2.2.1 n hn).1
  have h5 : ∀ g, g < cG C → L (b + 12) (cI C + g) = r (9 + g) ∧ L (b + 13) (cI C + g) = r (21 + g) ∧ L (b + 14) (cI C + g) = r (33 + g) := fun g hg => ⟨(hS.2.2.2.2.1 g hg).1, (hS.2.2.2.2.1 g hg).2.1, (hS.2.2.2.2.1 g hg).2.2.1⟩
  unfold W_X0_showInto
  refine lp2 (fun n v l => L_X0_showInto_3 b T x m I Q n v l) (fun v l => ∃ j, j ≤ cI C ∧ v = nI j ∧ sameL [T] L l ∧ ∀ n, n < j → l T n = r (5 + n)) (fun v _ => cI C + 1 - v.toNatClampNeg) ?_ _ _ ⟨0, Nat.zero_le _, rfl, sameL.rf _ _, fun n hn => absurd hn (Nat.not_lt_zero _)⟩
  rintro n v l ⟨j, h1, rfl, h2, h3⟩ ih
  refine pk_le (cI C) j (fun hc => ?_) (fun hc => ?_) h.1 rfl (by omega) (by omega)
  · clear ih
    have ej : j = cI C := by omega
    subst ej
    rw [h.1]
    refine lp2 (fun n v l => L_X0_showInto_44 b T x m I Q n v l) (fun v l => ∃ j, j ≤ cG C ∧ v = nI (cI C + j) ∧ sameL [T] L l ∧ SEqn C r se j (l T) (L (b + 39))) (fun v _ => cI C + cG C + 1 - v.toNatClampNeg) ?_ _ _ ⟨0, Nat.zero_le _, rfl, h2, h3, fun g hg => absurd hg (Nat.not_lt_zero _)⟩
    clear h2 h3
    rintro n v l ⟨j, h1, rfl, h2, h3⟩ ih
    show D_X0_showInto_44 b T x m I Q _ (nI (cI C + j)) l
    unfold D_X0_showInto_44
    refine s_nets2 h ?_
    refine pk_le (cI C + cG C) (cI C + j) (fun hc => ?_) (fun hc => ?_) rfl rfl (by omega) (by omega)
    · have ej : j = cG C := by omega
      subst ej
      exact k l h2 h3
    · have hj : j < cG C := by omega
      obtain ⟨q1, q2, q3⟩ := h5 j hj
      have l13 : l (b + 13) = L (b + 13) := h2 _ (nin1 (by omega))
      have l12 : l (b + 12) = L (b + 12) := h2 _ (nin1 (by omega))
      have l14 : l (b + 14) = L (b + 14) := h2 _ (nin1 (by omega))
      have l39 : l (b + 39) = L (b + 39) := h2 _ (nin1 (by omega))
      have vn : vp_in (nI (cI C + j)) 16 := pk_in _ 16 (by omega) rfl
      rw [pk_cl (cI C + j) rfl (by omega), l13, l12, q1, q2]
      refine ⟨vn, ?_⟩
      rintro _ rfl
      have fin : ∀ s, s = se j → B_X0_showInto_99 b T x m (nI (cI C + j)) (r (21 + j)) s I l Q (fun v5 L => L_X0_showInto_44 b T x m I Q n v5 L) := by
        rintro s rfl
        unfold B_X0_showInto_99
        refine s_lateWave h hC hS.dc hV rfl hj ⟨vn, ?_⟩
        rw [pk_cl (cI C + j) rfl (by omega), l14, q3, l39]
        rintro _ rfl
        refine ⟨vn, vn, ?_⟩
        rintro _ rfl
        refine ih _ _ ⟨j + 1, by omega, nI_1 _, h2.up in1, SEqn.step hC hj h3 rfl (fun n => ?_)⟩ (by rw [nI_1, nI_clamp (by omega), nI_clamp (by omega)]; omega)
        rw [up2_at]
        unfold shG
        rw [hv j hj]
      refine ⟨fun e => ⟨vn, fin _ ?_⟩, fun e => ⟨vn, fin _ ?_⟩⟩
      · rw [hse j hj, if_neg e]
      · rw [hse j hj, if_pos e]
  · have l11 : l (b + 11) = L (b + 11) := h2 _ (nin1 (by omega))
    rw [pk_cl j rfl (by omega), l11, h4 j hc]
    refine ⟨pk_in j 4 (by omega) rfl, pk_in j 16 (by omega) rfl, ?_⟩
    rintro _ rfl
    refine ih _ _ ⟨j + 1, by omega, nI_1 j, h2.up in1, fun n hn => ?_⟩ (by rw [nI_1, nI_clamp (by omega), nI_clamp (by omega)]; omega)
    rw [up2_at]
    by_cases q : n = j
    · subst q
      rw [if_pos rfl]
    · rw [if_neg q]
      exact h3 n (by omega)
def PEqn (C : CQ) (r : RW) (j : Nat) (pa : Nat → Nat) : Prop := (∀ n, n < cI C → pa n = 0) ∧ ∀ g, g < j → pa (cI C + g) = max (pa (cO C g)) (if cT C g = 16 then 0 else pa (cT C g)) + max (dl r g 0) (dl r g 1)
theorem PEqn.one {C : CQ} {r : RW} {pa pb : Nat → Nat} (hC : CV C) : ∀ (j : Nat), j ≤ cG C → PEqn C r j pa → PEqn C r j pb → ∀ n, n < cI C + j → pb n = pa n
  | 0, _, h, h2, n, hn => by rw [h.1 n (by omega), h2.1 n (by omega)]
  | j + 1, hj, h, h2, n, hn => by
    have ih := PEqn.one hC j (by omega) ⟨h.1, fun g hg => h.2 g (by omega)⟩ ⟨h2.1, fun g hg => h2.2 g (by omega)⟩
    by_cases q : n < cI C + j
    · exact ih n q
    · have e : n = cI C + j := by omega
      subst e
      obtain ⟨n1, n2, n3, n4⟩ := hC.net (show j < cG C by omega)
      rw [h.2 j (by omega), h2.2 j (by omega), ih _ n1]
      by_cases e : cT C j = 16
      · rw [if_pos e, if_pos e]
      · rw [if_neg e, if_neg e, ih _ (n2 e)]
theorem PEqn.bd {C : CQ} {r : RW} {pa : Nat → Nat} (hC : CV C) (hV : DV C r) : ∀ (j : Nat), j ≤ cG C → PEqn C r j pa → ∀ n, n < cI C + j → pa n ≤ 9 * (n + 1)
  | 0, _, h, n, hn => by rw [h.1 n (by omega)]; omega
  | j + 1, hj, h, n, hn => by
    have ih := PEqn.bd hC hV j (by omega) ⟨h.1, fun g hg => h.2 g (by omega)⟩
    by_cases q : n < cI C + j
    · exact ih n q
    · have e : n = cI C + j := by omega
      subst e
      obtain ⟨n1, n2, n3, n4⟩ := hC.net (show j < cG C by omega)
      have v0 := hV j (by omega) 0 (by omega)
      have v1 := hV j (by omega) 1 (by omega)
      have i1 := ih _ n1
      rw [h.2 j (by omega)]
      by_cases e : cT C j = 16
      · rw [if_pos e]
        omega
      · have i2 := ih _ (n2 e)
        have := n2 e
        rw [if_neg e]
        omega
theorem mxI_n {a b : Nat} (ha : a < 2 ^ 31) (hb : b < 2 ^ 31) : mxI (nI a) (nI b) = nI (max a b) := by
  unfold mxI
  by_cases h : a < b
  · rw [if_pos (nI_lt h hb), Nat.max_eq_right (Nat.le_of_lt h)]
  · rw [if_neg (nI_nlt (Nat.not_lt.mp h) ha), Nat.max_eq_left (Nat.not_lt.mp h)]
theorem s_longestPath {I : TI} {L : TL} {Q : Int32 → Prop} {C : CQ} {r : RW} {b g : Nat} {x : Int32} {pa : Nat → Nat} (h : CC I (b + 1) C) (hC : CV C) (hD : DC I b C r) (hV : DV C r) (hx : x = nI (cI C + g)) (hg : g < cG C) (hp : ∀ n, n < cI C + g → I (b + 41) n = nI (pa n) ∧ pa n < 1000)
    (k : Q (nI (max (pa (cO C g)) (if cT C g = 16 then 0 else pa (cT C g)) + max (dl r g 0) (dl r g 1)))) : W_X0_longestPath b x I L Q := by
  subst hx
  obtain ⟨n1, n2, n3, hn⟩ := hC.net hg
  obtain ⟨g1, g2, g3⟩ := h.2.2.2.2.2.1 g hg
  replace g2 : I (b + 3) (cI C + g) = nI (cO C g) := g2
  replace g3 : I (b + 4) (cI C + g) = tx (cT C g) := g3
  have vn : vp_in (nI (cI C + g)) 16 := pk_in _ 16 hn rfl
  have v0 := hV g hg 0 (by omega)
  have v1 := hV g hg 1 (by omega)
  have o1 := hp _ n1
  unfold W_X0_longestPath
  rw [pk_cl (cI C + g) rfl (by omega), g2, g3, pk_cl (cO C g) rfl (by omega), o1.1]
  refine ⟨vn, ?_⟩
  rintro _ rfl
  refine ⟨vn, pk_in (cO C g) 16 (by omega) rfl, ?_⟩
  have fin : ∀ (s : Int32) (q : Nat), s = nI q → q < 1000 → q = (if cT C g = 16 then 0 else pa (cT C g)) → B_X0_longestPath_39 b (nI (cI C + g)) (nI (pa (cO C g))) s I L Q := by
    rintro s q rfl hq e
    unfold B_X0_longestPath_39
    refine s_swing (v := false) hC hD rfl rfl hg (s_swing (v := true) hC hD rfl rfl hg ?_)
    rw [mxI_n (by omega) (by omega), mxI_n (by simp; omega) (by simp; omega), nI_add, e]
    rw [show max (dl r g (if false = true then 0 else 1)) (dl r g (if true = true then 0 else 1)) = max (dl r g 0) (dl r g 1) from Nat.max_comm _ _]
    exact k
  by_cases e : cT C g = 16
  · rw [e, tx_16]
    exact ⟨fun q => absurd rfl q, fun _ => fin 0 0 rfl (by omega) (by rw [if_pos e])⟩
  · have o2 := hp _ (n2 e)
    have := n2 e
    rw [tx_n e]
    refine ⟨fun _ => ⟨pk_in (cT C g) 16 (by omega) rfl, ?_⟩, fun q => absurd q (nI_nm1 (by omega))⟩
    rw [pk_cl (cT C g) rfl (by omega)]
    exact fin _ _ o2.1 o2.2 (by rw [if_neg e])
/-- a bench whose waves are made -/
def BW (I : TI) (L : TL) (b : Nat) (C : CQ) (r : RW) : Prop := WEq C r (L (b + 37)) (L (b + 38)) (L (b + 39)) ∧ ∃ pa, PEqn C r (cG C) pa ∧ ∀ n, n < cI C + cG C → I (b + 41) n = nI (pa n)
theorem s_refresh {I : TI} {L : TL} {Q : TI → TL → Prop} {C : CQ} {r : RW} {b B : Nat} (h : CC I (b + 1) C) (hC : CV C) (hS : SC I L (b + 6) C r) (hr : RV C B r)
    (k : ∀ J M, sameI [b + 41] I J → sameL [b + 37, b + 38, b + 39] L M → BW J M b C r → Q J M) : W_X0_refresh b I L Q := by
  have hI := hC.1
  have hG := hC.2.1
  have hV : DV C r := fun g hg => (hr.2.2.2.2.1 g hg).2.2.2
  have h4 : ∀ n, n < cI C → L (b + 11) n = r (5 + n) := fun n hn => (hS.2.2.2.1 n hn).1
  unfold W_X0_refresh
  refine lp3 (fun n v i l => L_X0_refresh_2 b Q n v i l) (fun v i l => ∃ j, j ≤ cI C ∧ v = nI j ∧ sameI [b + 41] I i ∧ sameL [b + 38, b + 39] L l ∧ ∀ n, n < j → l (b + 38) n = r (5 + n) ∧ l (b + 39) n = r (5 + n) ∧ i (b + 41) n = 0) (fun v _ _ => cI C + 1 - v.toNatClampNeg) ?_ _ _ _ ⟨0, Nat.zero_le _, rfl, sameI.rf _ _, sameL.rf _ _, fun n hn => absurd hn (Nat.not_lt_zero _)⟩
  rintro n v i l ⟨j, h1, rfl, hi, h2, h3⟩ ih
  have hci : CC i (b + 1) C := h.fr (fun q a c => hi q (nin1 (by omega)))
  refine pk_le (cI C) j (fun hc => ?_) (fun hc => ?_) hci.1 rfl (by omega) (by omega)
  · clear ih
    have ej : j = cI C := by omega
    subst ej
    rw [hci.1]
    refine lp3 (fun n v i l => L_X0_refresh_64 b Q n v i l) (fun v i l => ∃ j pa, j ≤ cG C ∧ v = nI (cI C + j) ∧ sameI [b + 41] I i ∧ sameL [b + 38, b + 39] L l ∧ DEqn C r j (l (b + 38)) (l (b + 39)) ∧ PEqn C r j pa ∧ ∀ n, n < cI C + j → i (b + 41) n = nI (pa n)) (fun v _ _ => cI C + cG C + 1 - v.toNatClampNeg) ?_ _ _ _ ⟨0, fun _ => 0, Nat.zero_le _, rfl, hi, h2, ⟨fun n hn => ⟨(h3 n hn).1, (h3 n hn).2.1⟩, fun g hg => absurd hg (Nat.not_lt_zero _)⟩, ⟨fun _ _ => rfl, fun g hg => absurd hg (Nat.not_lt_zero _)⟩, fun n hn => (h3 n hn).2.2⟩
    clear hi h2 h3 hci
    rintro n v i l ⟨j, pa, h1, rfl, hi, h2, h3, h6, h7⟩ ih
    have hci : CC i (b + 1) C := h.fr (fun q a c => hi q (nin1 (by omega)))
    have hsi : SC i l (b + 6) C r := hS.fr hr.2.2.1 (fun q a c => hi q (nin1 (by omega))) (fun q a c => h2 q (nin2 (by omega) (by omega)))
    show D_X0_refresh_64 b Q _ (nI (cI C + j)) i l
    unfold D_X0_refresh_64
    refine s_nets2 hci ?_
    refine pk_le (cI C + cG C) (cI C + j) (fun hc => ?_) (fun hc => ?_) rfl rfl (by omega) (by omega)
    · have ej : j = cG C := by omega
      subst ej
      refine s_showInto (r := r) (se := fun g => r (9 + g)) hci hC hsi hV (fun g hg => (hr.2.2.2.2.1 g hg).2.2.1) (Or.inl rfl) (fun g hg => ?_) (fun M hM hE => ?_)
      · rw [if_neg (nI_nm1 (by have := (hC.net hg).2.2.2; omega))]
      · refine k i M hi (fun q hq => ?_) ⟨?_, pa, h6, h7⟩
        · rw [hM q (nin1 (fun e => hq (e ▸ in1))), h2 q (nin2 (fun e => hq (e ▸ in2)) (fun e => hq (e ▸ in3)))]
        · have e8 : M (b + 38) = l (b + 38) := hM _ (nin1 (by omega))
          have e9 : M (b + 39) = l (b + 39) := hM _ (nin1 (by omega))
          unfold WEq
          rw [e8, e9]
          exact WEqn.of h3 hE
    · have hj : j < cG C := by omega
      have vn : vp_in (nI (cI C + j)) 16 := pk_in _ 16 (by omega) rfl
      refine s_lateWave hci hC hsi.dc hV rfl hj ⟨vn, ?_⟩
      rw [pk_cl (cI C + j) rfl (by omega)]
      refine s_dearWave hci hC hsi.dc hV rfl hj ⟨vn, ?_⟩
      rintro _ rfl
      have hbd := PEqn.bd hC hV j (Nat.le_of_lt hj) h6
      refine s_longestPath (pa := pa) hci hC hsi.dc hV rfl hj (fun n hn => ⟨h7 n hn, by have := hbd n hn; omega⟩) ⟨vn, ?_⟩
      refine ih _ _ _ ⟨j + 1, fun n => if n = cI C + j then max (pa (cO C j)) (if cT C j = 16 then 0 else pa (cT C j)) + max (dl r j 0) (dl r j 1) else pa n, by omega, nI_1 _, hi.up in1, (h2.up in1).up in2, DEqn.step hC hj h3 rfl rfl (fun n => ?_) (fun n => ?_), ?_, fun n hn => ?_⟩ (by rw [nI_1, nI_clamp (by omega), nI_clamp (by omega)]; omega)
      · rw [up2_row (show b + 38 ≠ b + 39 by omega), up2_at]
      · rw [up2_at, up2_row (show b + 39 ≠ b + 38 by omega)]
      · refine ⟨fun n hn => ?_, fun g hg => ?_⟩
        · dsimp only
          rw [if_neg (show n ≠ cI C + j by omega)]
          exact h6.1 n hn
        · have ne : ∀ m, m < cI C + j → (if m = cI C + j then max (pa (cO C j)) (if cT C j = 16 then 0 else pa (cT C j)) + max (dl r j 0) (dl r j 1) else pa m) = pa m := fun m hm => if_neg (by omega)
          obtain ⟨n1, n2, n3, n4⟩ := hC.net (show g < cG C by omega)
          have eo := ne (cO C g) (by omega)
          have et : (if cT C g = 16 then 0 else (if cT C g = cI C + j then max (pa (cO C j)) (if cT C j = 16 then 0 else pa (cT C j)) + max (dl r j 0) (dl r j 1) else pa (cT C g))) = (if cT C g = 16 then 0 else pa (cT C g)) := by
            by_cases e : cT C g = 16
            · rw [if_pos e, if_pos e]
            · have := n2 e
              rw [if_neg e, if_neg e, ne _ (by omega)]
          show (if cI C + g = cI C + j then _ else pa (cI C + g)) = max (if cO C g = cI C + j then _ else pa (cO C g)) (if cT C g = 16 then 0 else (if cT C g = cI C + j then _ else pa (cT C g))) + max (dl r g 0) (dl r g 1)
          rw [eo, et]
          by_cases q : g = j
          · subst q
            rw [if_pos rfl]
          · rw [if_neg (by omega)]
            exact h6.2 g (by omega)
      · rw [up2_at]
        dsimp only
        by_cases q : n = cI C + j
        · rw [if_pos q, if_pos q]
        · rw [if_neg q, if_neg q]
          exact h7 n (by omega)
  · have l11 : l (b + 11) = L (b + 11) := h2 _ (nin2 (by omega) (by omega))
    have v4 : vp_in (nI j) 4 := pk_in j 4 (by omega) rfl
    have v16 : vp_in (nI j) 16 := pk_in j 16 (by omega) rfl
    rw [pk_cl j rfl (by omega), l11, h4 j hc]
    refine ⟨v4, v16, ?_⟩
    rintro _ rfl
    refine ⟨v4, v16, ?_⟩
    rintro _ rfl
    rw [up2_row (show b + 11 ≠ b + 38 by omega), l11, h4 j hc]
    refine ⟨v16, ih _ _ _ ⟨j + 1, by omega, nI_1 j, hi.up in1, (h2.up in1).up in2, fun n hn => ?_⟩ (by rw [nI_1, nI_clamp (by omega), nI_clamp (by omega)]; omega)⟩
    rw [up2_row (show b + 38 ≠ b + 39 by omega), up2_at, up2_at, up2_row (show b + 39 ≠ b + 38 by omega), up2_at]
    by_cases q : n = j
    · subst q
      rw [if_pos rfl, if_pos rfl, if_pos rfl]
      exact ⟨rfl, rfl, rfl⟩
    · rw [if_neg q, if_neg q, if_neg q]
      exact h3 n (by omega)
