/-! buffer, error, text; format, formattedByte -/
section IO
variable {I J : TI} {L M : TL} {b d B : Nat} {X : XT}
def ioX (X : XT) (f : Nat × (Nat → Nat)) (e : Int32) (l : Nat × (Nat → Int32)) : XT := (X.1, X.2.1, X.2.2.1, X.2.2.2.1, f, e, l)
theorem ioX_V (h : XV X B) {f : Nat × (Nat → Nat)} {e : Int32} {l : Nat × (Nat → Int32)} (hf : f.1 ≤ 600 ∧ ∀ i, i < f.1 → f.2 i < 256) (hl : l.1 ≤ 61) : XV (ioX X f e l) B := ⟨h.1, h.2.1, h.2.2.1, h.2.2.2.1, hf, hl⟩
theorem CI.io (h : CI I L b d X) (hV : XV X B) {f : Nat × (Nat → Nat)} {e : Int32} {l : Nat × (Nat → Int32)} (eI : ∀ q, q < 436 → q ≠ 0 → (q < 344 ∨ 351 < q) → J q = I q) (e2 : ∀ q, q < 436 → M q = L q) (h7 : J 0 7 = nI f.1) (hb : ∀ i, i < f.1 → J 350 i = (nI (f.2 i)).toInt8.toInt32) (h9 : J 0 9 = e) (h8 : J 0 8 = nI l.1) (ht : ∀ i, i < l.1 → J 351 i = l.2 i) : CI J M b d (ioX X f e l) := by
  obtain ⟨h1, h2, ⟨h3, nx, h4, h5, h6⟩, hs, -⟩ := h
  have hbl := bn_lt h1.1
  refine ⟨h1, h2.fr hV.2.1.2.2.1 (fun k a c => eI k (by omega) (by omega) (by omega)) (fun k a c => e2 k (by omega)), ⟨by rw [eI 1 (by omega) (by omega) (by omega)]; exact h3, nx, h4, by rw [eI 1 (by omega) (by omega) (by omega)]; exact h5, fun j hj => ?_⟩, ⟨fun q => by rw [eI 1 (by omega) (by omega) (by omega)]; exact hs.1 q, fun s hs2 => ?_⟩, ⟨h7, hb⟩, h9, h8, ht⟩
  · have hm : (nx + 10 - xk X + j) % 10 < 10 := Nat.mod_lt _ (by omega)
    have hm2 : (nx + 10 - xk X + j) % 10 ≤ 9 := by omega
    exact (h6 j hj).fr (hV.2.2.1.2 j hj).2.2.1 (fun k a c => eI k (by omega) (by omega) (by omega)) (fun k a c => e2 k (by omega))
  · rw [eI 1 (by omega) (by omega) (by omega)]
    exact ⟨(hs.2 s hs2).1, (hs.2 s hs2).2.fr (hV.2.2.2.1 s hs2).2.2.1 (fun k a c => eI k (by omega) (by omega) (by omega)) (fun k a c => e2 k (by omega))⟩
theorem MI.io (h : MI I L X) {f : Nat × (Nat → Nat)} {e : Int32} {l : Nat × (Nat → Int32)} (e4 : J 441 = I 441 ∧ J 442 = I 442 ∧ J 443 = I 443) (e5 : ∀ j, 5 ≤ j → j ≤ 11 → J 436 j = I 436 j) (e2 : M 437 = L 437 ∧ M 439 = L 439 ∧ M 440 = L 440) (h7 : J 436 22 = nI f.1) (hb : ∀ i, i < f.1 → J 447 i = nI (f.2 i)) (h9 : J 436 30 = e) (h8 : J 436 36 = nI l.1) (ht : ∀ i, i < l.1 → J 452 i = l.2 i) : MI J M (ioX X f e l) := by
  obtain ⟨h1, h2, h3, h4, -⟩ := h
  refine ⟨?_, by rw [e2.1]; exact h2, ?_, ?_, ⟨h7, hb⟩, h9, h8, ht⟩
  · unfold MC at *
    rw [e5 10 (by omega) (by omega), e5 11 (by omega) (by omega), e5 7 (by omega) (by omega), e5 8 (by omega) (by omega), e5 9 (by omega) (by omega), e4.1, e4.2.1, e4.2.2]
    exact h1
  · rw [e5 6 (by omega) (by omega), e2.2.2]
    exact h3
  · rw [e5 5 (by omega) (by omega), e2.2.1]
    exact h4
theorem n_noWave1 {K : TI → TL → Prop} {Q : Int32 → TI → TL → Prop} {x y : Int32} {n m : Nat} (h : IM K I L X B) (hx : x = nI n) (hy : y = nI m) (hn : n < cI (xC X) + cG (xC X)) (hm : m < 3) (k : ∀ M, IM K (up2 I 436 0 0) M X B → M 456 = L 456 → WEq (xC X) (xr X) (M 444) (M 445) (M 446) → Q 0 (up2 I 436 0 0) M) : W_X9_noWave x y I L Q := by
  refine s_noWave h.mc h.C (by rw [h.row]; exact h.r) (fun _ _ M hM hW => k M (h.thr.wv (roL.wv hM)) (hM 456 (by decide)) (by rw [← h.row]; exact hW)) (fun e => ?_)
  subst hx; subst hy
  exact absurd ⟨rgi (Nat.zero_le _) hn, rgi (Nat.zero_le _) hm⟩ e
/-- the sign of a time -/
def sgF (C : CQ) (r : RW) (n w t : Nat) : Int32 := if w = 0 then (if stF C r n t = 1 then (if bw (wvF C r w n) t = true then 104 else 108) else if stF C r n t = 2 then (if bw (wvF C r w n) t = true then 72 else 76) else (if bw (wvF C r w n) t = true then 49 else 48)) else (if bw (wvF C r w n) t = true then 49 else 48)
def cvb (x : Int32) : Int32 := (x.toInt8.toInt32).toInt8.toInt32
theorem s_letter {Q : Int32 → Prop} {st x : Int32} {v : Bool} (hx : x = bi v) (k : Q (if st = 1 then (if v = true then 104 else 108) else if st = 2 then (if v = true then 72 else 76) else (if v = true then 49 else 48))) : W_X8_letter st x I L Q := by
  subst hx
  unfold W_X8_letter
  refine ⟨fun e => ?_, fun e => ?_, fun e => ?_⟩
  · rw [if_pos e] at k
    cases v
    · exact ⟨fun q => absurd rfl q, fun _ => k⟩
    · exact ⟨fun _ => k, fun q => absurd q (by decide)⟩
  · rw [if_neg (by rw [e]; decide), if_pos e] at k
    cases v
    · exact ⟨fun q => absurd rfl q, fun _ => k⟩
    · exact ⟨fun _ => k, fun q => absurd q (by decide)⟩
  · rw [if_neg e.1, if_neg e.2] at k
    cases v
    · exact ⟨fun q => absurd rfl q, fun _ => k⟩
    · exact ⟨fun _ => k, fun q => absurd q (by decide)⟩
theorem s_signOf {Q : Int32 → Prop} {C : CQ} {r : RW} {n w t : Nat} {x y z : Int32} (hM : MC I C) (hC : CV C) (hr : L 437 = r) (hW : WEq C r (L 444) (L 445) (L 446)) (hx : x = nI n) (hy : y = nI w) (hz : z = nI t) (hn : n < cI C + cG C) (hw : w < 3) (ht : t < 64) (k : Q (sgF C r n w t)) : W_X9_signOf x y z I L Q := by
  have hI := hC.1
  have hG := hC.2.1
  unfold W_X9_signOf
  refine s_waveOf hC hW hx hy hn hw (s_bit hz ht ?_)
  subst hx
  unfold sgF at k
  generalize bw (wvF C r w n) t = v at k
  have e48 : (48 : Int32) + bi v = if v = true then 49 else 48 := by cases v <;> decide
  rw [e48, hM.1, hr]
  refine pk_lt 0 w (fun q => ?_) (fun q => ?_) rfl hy (by omega) (by omega)
  · rw [if_neg (by omega)] at k
    exact k
  · rw [if_pos (by omega)] at k
    by_cases qn : n < cI C
    · have hneg : nI n - nI (cI C) < 0 := pk_sneg (by omega) qn
      refine ⟨fun e => absurd hneg (lt_nle.mpr e), fun _ => ?_⟩
      have : stF C r n t = 0 := by unfold stF; rw [if_pos qn]
      rw [this, if_neg (by decide), if_neg (by decide)] at k
      exact k
    · obtain ⟨g, rfl⟩ : ∃ g, n = cI C + g := ⟨n - cI C, by omega⟩
      have es : stF C r (cI C + g) t = if bw (r (9 + g)) t = true then 2 else bi (bw (r (21 + g)) t) := by
        unfold stF
        rw [if_neg qn, Nat.add_sub_cancel_left]
      rw [es] at k
      rw [pk_sub (Nat.le_add_right _ _), Nat.add_sub_cancel_left, show (9 : Int32) + nI g = nI (9 + g) from nI_add 9 g, show (21 : Int32) + nI g = nI (21 + g) from nI_add 21 g, pk_cl (9 + g) rfl (by omega), pk_cl (21 + g) rfl (by omega)]
      refine ⟨fun _ => ⟨pk_in _ 241 (by omega) rfl, s_bit hz ht ⟨fun e => ⟨pk_in _ 241 (by omega) rfl, s_bit hz ht ⟨fun e2 => ?_, fun e2 => ?_⟩⟩, fun e => ?_⟩⟩, fun e => absurd (nI_pos' (by omega)) e⟩
      · rw [bi_1] at e e2
        rw [if_neg e, if_neg (fun z => e2 (bi_1.mp z)), if_neg (by rcases bi_01 (bw (r (21 + g)) t) with z | z <;> rw [z] <;> decide)] at k
        exact k
      · rw [bi_1] at e e2
        rw [if_neg e, if_pos (bi_1.mpr e2)] at k
        cases v
        · exact ⟨fun _ => k, fun q => absurd q (by decide)⟩
        · exact ⟨fun q => absurd rfl q, fun _ => k⟩
      · rw [bi_1] at e
        rw [if_pos e, if_neg (by decide), if_pos rfl] at k
        cases v
        · exact ⟨fun _ => k, fun q => absurd q (by decide)⟩
        · exact ⟨fun q => absurd rfl q, fun _ => k⟩
end IO
