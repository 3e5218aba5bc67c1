/-! the law writes its text -/
section HW
variable {I J : TI} {L M : TL}
/-- what is written so far -/
def TW (I : TI) (T : List Nat) : Prop := I 436 1 = nI T.length ∧ T.length ≤ 600 ∧ ∀ i, i < T.length → I 437 i = nI (T.getD i 0) ∧ T.getD i 0 < 128
/-- but for the text all is as it was -/
def WO (I J : TI) : Prop := (∀ a, a ≠ 436 → a ≠ 437 → J a = I a) ∧ ∀ j, j ≠ 1 → J 436 j = I 436 j
theorem WO.rf (I : TI) : WO I I := ⟨fun _ _ _ => rfl, fun _ _ => rfl⟩
theorem WO.tr {K : TI} (h : WO I J) (h2 : WO J K) : WO I K := ⟨fun a a1 a2 => (h2.1 a a1 a2).trans (h.1 a a1 a2), fun j hj => (h2.2 j hj).trans (h.2 j hj)⟩
theorem TW.app {T w : List Nat} (h : TW I T) (hl : T.length + w.length ≤ 600) (h1 : J 436 1 = nI (T.length + w.length)) (h2 : ∀ i, i < T.length → J 437 i = I 437 i) (h3 : ∀ i, i < w.length → J 437 (T.length + i) = nI (w.getD i 0) ∧ w.getD i 0 < 128) : TW J (T ++ w) := by
  have e : (T ++ w).length = T.length + w.length := List.length_append
  refine ⟨by rw [e, h1], by rw [e]; exact hl, fun i hi => ?_⟩
  rw [e] at hi
  by_cases q : i < T.length
  · rw [h2 i q, gd_l q]
    exact h.2.2 i q
  · obtain ⟨j, rfl⟩ : ∃ j, i = T.length + j := ⟨i - T.length, by omega⟩
    rw [gd_r]
    exact h3 j (by omega)
/-- a constant text -/
def cst (pl : Nat) (w : List Nat) : Prop := pl < nJS ∧ lenJS.getD pl 0 = w.length ∧ ∀ j, j < w.length → sch pl j = nI (w.getD j 0) ∧ w.getD j 0 < 128
theorem s_writes {Q : TI → Prop} {x pl : Nat} {T w : List Nat} (hc : cst pl w) (hx : x = 458 + pl) (h : TW I T) (hl : T.length + w.length ≤ 600) (k : ∀ J, TW J (T ++ w) → WO I J → Q J) : W_L_writes x I L Q := by
  obtain ⟨c1, c2, c3⟩ := hc
  refine ⟨pl, T.length, hx, c1, h.1, by rw [c2]; exact hl, fun J j1 j2 j3 j4 j5 => k J ?_ ⟨j1, j2⟩⟩
  rw [c2] at j3 j5
  exact h.app hl j3 j4 (fun i hi => ⟨by rw [j5 i hi]; exact (c3 i hi).1, (c3 i hi).2⟩)
theorem c_spc : cst 12 [32] := by unfold cst; decide +kernel
theorem c_sem : cst 13 [59] := by unfold cst; decide +kernel
theorem c_ben : cst 1 wBen := by unfold cst; decide +kernel
theorem c_inp : cst 2 wInp := by unfold cst; decide +kernel
theorem c_pur : cst 11 wPur := by unfold cst; decide +kernel
theorem c_gat : ∀ k, k < 7 → cst (14 + k) (wGat ++ 32 :: wKi k) := by unfold cst; decide +kernel
theorem num_10 {v : Nat} (h : v < 10) : (num v).length = 2 := by unfold num digs; rw [if_pos h]; rfl
theorem num_100 {v : Nat} (h : v < 100) : (num v).length ≤ 3 := by
  unfold num digs
  split
  · simp
  · first | simp | (rw [if_pos h]; simp)
theorem num_1000 {v : Nat} (h : v < 1000) : (num v).length ≤ 4 := by
  have := (digs_ok h).2.1
  show (digs v).length + 1 ≤ 4
  omega
/-- one figure -/
theorem s_fig {Q : TI → Prop} {n o v : Nat} {T : List Nat} (ho : 0 < o) (ho2 : o ≤ 100) (hv : v < 1000) (h : TW I T) (hl : T.length + 1 ≤ 600) (k : ∀ J, TW J (T ++ [48 + v / o % 10]) → WO I J → L_L_spaced_24 (nI v) L Q n (nI (o / 10)) J) : L_L_spaced_24 (nI v) L Q (n + 1) (nI o) I := by
  show D_L_spaced_24 _ _ _ _ _ _
  unfold D_L_spaced_24
  have e1 : nI v / nI o = nI (v / o) := pk_div (by omega) ho (by omega)
  have hq : v / o < 1000 := Nat.lt_of_le_of_lt (Nat.div_le_self _ _) hv
  have e2 : remI (nI (v / o)) 10 = nI (v / o % 10) := pk_rem (a := v / o) (d := 10) (by omega) (by omega) (by omega)
  have e3 : nI o / 10 = nI (o / 10) := pk_div (a := o) (d := 10) (by omega) (by omega) (by omega)
  have e4 : (48 : Int32) + nI (v / o % 10) = nI (48 + v / o % 10) := nI_add 48 _
  have hm : v / o % 10 < 10 := Nat.mod_lt _ (by omega)
  refine ⟨fun e => absurd e (nI_nle ho (by omega)), fun _ => ⟨nI_ne0 ho (by omega), ?_, ?_⟩⟩
  · rw [h.1]
    exact pk_in T.length 600 (by omega) rfl
  · rw [e1, e2, e3, e4, h.1, pk_cl T.length rfl (by omega)]
    rintro _ rfl
    rw [up2_row (by decide), h.1, nI_1]
    refine k _ (h.app (w := [48 + v / o % 10]) hl up2_s (fun i hi => ?_) (fun i hi => ?_)) ⟨fun a a1 a2 => by rw [up2_row a1, up2_row a2], fun j hj => by rw [up2_n (Or.inr hj), up2_row (by decide)]⟩
    · rw [up2_row (by decide), up2_n (Or.inr (by omega))]
    · have : i = 0 := by simp at hi; omega
      subst this
      rw [up2_row (by decide), Nat.add_zero, up2_s]
      exact ⟨rfl, by show 48 + v / o % 10 < 128; omega⟩
theorem s_figE {Q : TI → Prop} {n : Nat} {v : Int32} (k : Q I) : L_L_spaced_24 v L Q (n + 1) (nI 0) I := by
  show D_L_spaced_24 _ _ _ _ _ _
  unfold D_L_spaced_24
  exact ⟨fun _ => k, fun e => absurd (by decide) e⟩
theorem s_big {Q : TI → Prop} {n o v : Nat} (ho : 0 < o) (ho2 : o ≤ 100) (hv : v < 1000) (h : 9 < v / o) (k : L_L_spaced_8 (nI v) I L Q n (nI (o * 10))) : L_L_spaced_8 (nI v) I L Q (n + 1) (nI o) := by
  show D_L_spaced_8 _ _ _ _ _ _
  unfold D_L_spaced_8
  have hq : v / o < 1000 := Nat.lt_of_le_of_lt (Nat.div_le_self _ _) hv
  have e1 : nI v / nI o = nI (v / o) := pk_div (by omega) ho (by omega)
  refine ⟨nI_ne0 ho (by omega), fun e => ?_, fun _ => ?_⟩
  · rw [e1] at e
    have := (nI_leI (a := v / o) (b := 9) (by omega) (by omega)).mp e
    omega
  · rw [show nI o * 10 = nI (o * 10) from pk_mul o 10]
    exact k
theorem s_small {Q : TI → Prop} {n m o v : Nat} (ho : 0 < o) (ho2 : o ≤ 100) (hv : v < 1000) (h : v / o ≤ 9) (k : L_L_spaced_24 (nI v) L Q m (nI o) I) : L_L_spaced_8 (nI v) I L Q (n + 1) (nI o) := by
  show D_L_spaced_8 _ _ _ _ _ _
  unfold D_L_spaced_8
  have e1 : nI v / nI o = nI (v / o) := pk_div (by omega) ho (by omega)
  refine ⟨nI_ne0 ho (by omega), fun _ => ⟨m, k⟩, fun e => ?_⟩
  rw [e1] at e
  exact absurd (nI_le (b := 9) h (by omega)) e
theorem s_spaced {Q : TI → Prop} {x : Int32} {v : Nat} {T : List Nat} (hx : x = nI v) (hv : v < 1000) (h : TW I T) (hl : T.length + (num v).length ≤ 600) (k : ∀ J, TW J (T ++ num v) → WO I J → Q J) : W_L_spaced x I L Q := by
  subst hx
  have l0 : (num v).length = (digs v).length + 1 := rfl
  have d1 := (digs_ok hv).1
  unfold W_L_spaced
  refine s_writes (pl := 12) c_spc rfl h (by simp only [List.length_cons, List.length_nil]; omega) (fun J1 t1 o1 => ⟨4, ?_⟩)
  have l1 : (T ++ [32]).length = T.length + 1 := by simp
  have fin : ∀ J2 T2, TW J2 T2 → WO J1 J2 → T2 = T ++ num v → Q J2 := fun J2 T2 a c e => k J2 (e ▸ a) (o1.tr c)
  show L_L_spaced_8 (nI v) J1 L Q 4 (nI 1)
  by_cases h1 : v < 10
  · have ed : digs v = [48 + v] := if_pos h1
    rw [ed] at l0
    refine s_small (n := 3) (m := 2) (by omega) (by omega) hv (by omega) (s_fig (by omega) (by omega) hv t1 (by rw [l1]; simp at l0; omega) (fun J2 t2 o2 => s_figE (fin J2 _ t2 o2 ?_)))
    unfold num
    rw [ed, show v / 1 % 10 = v by omega]
    simp
  · by_cases h2 : v < 100
    · have ed : digs v = [48 + v / 10, 48 + v % 10] := by unfold digs; rw [if_neg h1, if_pos h2]
      rw [ed] at l0
      simp at l0
      refine s_big (n := 3) (by omega) (by omega) hv (by omega) (s_small (n := 2) (m := 3) (by omega) (by omega) hv (by omega) (s_fig (by omega) (by omega) hv t1 (by rw [l1]; omega) (fun J2 t2 o2 => s_fig (by omega) (by omega) hv t2 (by simp only [List.length_append, List.length_cons, List.length_nil]; omega) (fun J3 t3 o3 => s_figE (fin J3 _ t3 (o2.tr o3) ?_)))))
      unfold num
      rw [ed, show v / (1 * 10) % 10 = v / 10 by omega, show v / (1 * 10 / 10) % 10 = v % 10 by omega]
      simp
    · have ed : digs v = [48 + v / 100, 48 + v / 10 % 10, 48 + v % 10] := by unfold digs; rw [if_neg h1, if_neg h2]
      rw [ed] at l0
      simp at l0
      refine s_big (n := 3) (by omega) (by omega) hv (by omega) (s_big (n := 2) (by omega) (by omega) hv (by omega) (s_small (n := 1) (m := 4) (by omega) (by omega) hv (by omega) (s_fig (by omega) (by omega) hv t1 (by rw [l1]; omega) (fun J2 t2 o2 => s_fig (by omega) (by omega) hv t2 (by simp only [List.length_append, List.length_cons, List.length_nil]; omega) (fun J3 t3 o3 => s_fig (by omega) (by omega) hv t3 (by simp only [List.length_append, List.length_cons, List.length_nil]; omega) (fun J4 t4 o4 => s_figE (fin J4 _ t4 ((o2.tr o3).tr o4) ?_)))))))
      unfold num
      rw [ed, show v / (1 * 10 * 10) % 10 = v / 100 by omega, show v / (1 * 10 * 10 / 10) % 10 = v / 10 % 10 by omega, show v / (1 * 10 * 10 / 10 / 10) % 10 = v % 10 by omega]
      simp
theorem s_word {Q : Nat → Prop} {x : Int32} {k : Nat} (hx : x = nI k) (hk : k < 7) (q : Q (458 + (14 + k))) : W_L_word x I L Q := by
  subst hx
  unfold W_L_word
  have z : ∀ m, m < 10 → nI k = nI m → k = m := fun m hm e => (nI_eq (by omega) (by omega)).mp e
  have go : ∀ m, m < 10 → nI k = nI m → Q (458 + (14 + m)) := fun m hm e => by rw [← z m hm e]; exact q
  refine ⟨fun e0 => ⟨fun e1 => ⟨fun e2 => ⟨fun e3 => ⟨fun e4 => ⟨fun e5 => ?_, go 5 (by omega)⟩, go 4 (by omega)⟩, go 3 (by omega)⟩, go 2 (by omega)⟩, go 1 (by omega)⟩, go 0 (by omega)⟩
  have n : ∀ m, m < 10 → ¬ nI k = nI m → k ≠ m := fun m hm e z2 => e (by rw [z2])
  have := n 0 (by omega) e0
  have := n 1 (by omega) e1
  have := n 2 (by omega) e2
  have := n 3 (by omega) e3
  have := n 4 (by omega) e4
  have := n 5 (by omega) e5
  have : k = 6 := by omega
  subst this
  exact q
end HW
