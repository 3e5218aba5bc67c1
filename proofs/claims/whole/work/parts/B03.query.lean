/-! query -/
section QUERY
variable {I J : TI} {L M : TL} {b d B : Nat} {X : XT} {c : Nat → Nat} {ln : Nat} {S : PS}
/-- the first net of a set -/
def fsF (g : Nat → Bool) : Nat → Nat → Int32
  | 0, _ => -1
  | n + 1, j => if g j = true then nI j else fsF g n (j + 1)
theorem fsF_at {g : Nat → Bool} : ∀ (n j k : Nat), j ≤ k → k < j + n → g k = true → (∀ i, j ≤ i → i < k → g i = false) → fsF g n j = nI k
  | 0, j, k, h1, h2, _, _ => absurd h2 (by omega)
  | n + 1, j, k, h1, h2, h3, h4 => by
    unfold fsF
    by_cases q : j = k
    · subst q
      rw [if_pos h3]
    · rw [if_neg (by rw [h4 j (Nat.le_refl _) (by omega)]; decide)]
      exact fsF_at n (j + 1) k (by omega) (by omega) h3 (fun i a1 a2 => h4 i (by omega) a2)
theorem fsF_no {g : Nat → Bool} : ∀ (n j : Nat), (∀ i, j ≤ i → i < j + n → g i = false) → fsF g n j = -1
  | 0, _, _ => rfl
  | n + 1, j, h => by
    unfold fsF
    rw [if_neg (by rw [h j (Nat.le_refl _) (by omega)]; decide)]
    exact fsF_no n (j + 1) (fun i a1 a2 => h i (by omega) (by omega))
theorem first_ex {g : Nat → Bool} : ∀ n, (∃ k, k < n ∧ g k = true ∧ ∀ i, i < k → g i = false) ∨ ∀ i, i < n → g i = false
  | 0 => Or.inr (fun i hi => absurd hi (Nat.not_lt_zero _))
  | n + 1 => by
    rcases first_ex (g := g) n with ⟨k, h1, h2, h3⟩ | h
    · exact Or.inl ⟨k, by omega, h2, h3⟩
    · cases e : g n with
      | true => exact Or.inl ⟨n, Nat.lt_succ_self _, e, h⟩
      | false =>
        refine Or.inr (fun i hi => ?_)
        by_cases q : i = n
        · rw [q]; exact e
        · exact h i (by omega)
def qyF (many : Bool) (g : Nat → Bool) (N : Nat) : Int32 := if many = true then nI (fb_ct g N) else fsF g N 0
/-- behind the first word -/
def qS1 (c : Nat → Nat) (ln : Nat) : PS := if (wdB c (tS0 c ln) 257011 || wdB c (tS0 c ln) 3379448) = true then advF c ln (tS0 c ln) else failF 1 (tS0 c ln)
theorem tS0_y : PY (tS0 c ln) := tkN_y
theorem qS1_v : PX c ln (qS1 c ln) ∧ PY (qS1 c ln) := by
  unfold qS1
  split
  · exact ⟨tS0_v.adv, tS0_y.adv⟩
  · exact ⟨tS0_v.fail (by omega), tS0_y.fail⟩
def qRs (C : CQ) (r : RW) (c : Nat → Nat) (ln : Nat) : PS × QS := nqL C r c ln 201 (qS1 c ln) q0
def qG (R : PS × QS) (k : Nat) : Bool := R.2.2.1 k || R.2.2.2 k
theorem wd_two {w u : Nat} (h : wdB c S w = true) (hne : w ≠ u) : wdB c S u = false := by
  cases e : wdB c S u with
  | false => rfl
  | true =>
    unfold wdB at h e
    exact absurd ((of_decide_eq_true h).2.2.2.symm.trans (of_decide_eq_true e).2.2.2) hne
theorem nqL_ff {C : CQ} {r : RW} (h : er S ≠ 0) : (nqL C r c ln 201 S q0).1 = S := by
  have e1 : opL c ln 7 S q0 = (S, q0) := opL_f h 7
  have e2 : csC c ln (opL c ln 7 S q0).1 = S := by rw [e1]; exact csC_f h
  have := nqL_f (C := C) (r := r) (n := 200) (S := S) (q := q0) (by rw [e2]; exact h)
  rw [e2] at this
  exact this
theorem m_query {Q : Int32 → TI → TL → Prop} {n : Nat} {many : Bool} {R : PS × QS} {e : Int32} (hV : XV (ioX X (0, xb X) e (xl X, xt X)) B) (hM : MI I L X) (hCI : CI I L b d (ioX X (0, xb X) e (xl X, xt X))) (hV0 : XV X B) (hn : n ≤ xf X ∧ n ≤ 200) (hc : txV (xb X) n) (hR : R = qRs (xC X) (xr X) (xb X) n) (he : e = ep R.1) (hm : many = wdB (xb X) (tS0 (xb X) n) 257011) (vR : PV n R.1)
    (bad : er R.1 ≠ 0 → ∀ J M, INV J M b d (ioX X (0, xb X) e (xl X, xt X)) B → M 456 = L 456 → J 436 0 = 0 → Q ((-1000000000 : Int32) - nI (er R.1)) J M)
    (good : er R.1 = 0 → ∀ J M, INV J M b d (ioX X (0, xb X) e (xl X, xt X)) B → M 456 = L 456 → J 436 0 = 0 → Q (qyF many (qG R) (cI (xC X) + cG (xC X))) J M) : W_X9_query (nI n) I L Q := by
  have hC := hV0.1
  have nbI := hC.1
  have nbG := hC.2.1
  have hf := hV0.2.2.2.2.1.1
  obtain ⟨mc, mr, ⟨mk9, mh⟩, ms, ⟨m7, m8⟩, m9, m10, m11⟩ := id hM
  have f0 : (up2 I 436 0 0) 436 0 = 0 := up2_s
  have fj : ∀ j, j ≠ 0 → (up2 I 436 0 0) 436 j = I 436 j := fun j hj => up2_n (Or.inr hj)
  have fq : ∀ q, q ≠ 436 → (up2 I 436 0 0) q = I q := fun q hq => up2_row hq
  unfold W_X9_query
  generalize up2 I 436 0 0 = I1 at f0 fj fq
  have f22 : I1 436 22 = nI (xf X) := by rw [fj 22 (by decide)]; exact m7
  have less : ∀ (P : Int32 → Prop), P (nI (min (xf X) 200)) → W_X9_lesser (I1 436 22) 200 I1 L P := by
    intro P hP
    unfold W_X9_lesser
    refine pk_le 200 (xf X) (fun q => ?_) (fun q => ?_) rfl f22 (by omega) (by omega)
    · rw [Nat.min_eq_right q] at hP; exact hP
    · rw [Nat.min_eq_left (by omega)] at hP
      rw [f22]; exact hP
  refine less _ ?_
  refine s_in (a := 0) (c := min (xf X) 200 + 1) rfl rfl (by congr 1; exact (nI_pred _).symm) (by omega) (by omega) (by omega) (fun _ => s_fails1 ⟨fun _ => ?_, fun z => absurd rfl z⟩) (fun z => absurd (rgi (Nat.zero_le _) (by omega)) z)
  refine m_starts (c := xb X) hc rfl (fun i hi => ?_) (fun J2 M2 d1 d2 d3 d4 t2 => ?_)
  · rw [fq 447 (by decide)]
    exact m8 i (by omega)
  -- behind the first word
  have tail : ∀ (v2 : Int32) J3 M3, (er R.1 = 0 → (many = false → ¬ v2 = 0) ∧ (many = true → v2 = 0)) → rI J2 J3 → tL M2 M3 → TR J3 M3 (xb X) n (qS1 (xb X) n) → B_X9_query_65 v2 J3 M3 Q := by
    intro v2 J3 M3 hv o3 p3 t3
    obtain ⟨v1, y1⟩ := qS1_v (c := xb X) (ln := n)
    -- the state behind the text
    have inv : ∀ J M, rI J3 J → tL M3 M → TR J M (xb X) n R.1 → INV J M b d (ioX X (0, xb X) e (xl X, xt X)) B ∧ M 456 = L 456 ∧ J 436 0 = 0 := by
      intro J M o p t
      have jr : ∀ q, q ≠ 436 → q ≠ 453 → q ≠ 454 → J q = I q := fun q a1 a2 a3 => by rw [o.1 q a1 a2 a3, o3.1 q a1 a2 a3, d1 q a1, fq q a1]
      have jj : ∀ j, (j < 22 ∨ (30 < j ∧ j < 40)) → J 436 j = I1 436 j := fun j hj => by rw [o.2 j (by omega), o3.2 j (by omega), d2 j (by omega)]
      have lr : ∀ q, q ≠ 436 → M q = L q := fun q a1 => by rw [p q a1, p3 q a1, d4 q a1]
      have mi : MI J M (ioX X (0, xb X) e (xl X, xt X)) := hM.io ⟨jr 441 (by decide) (by decide) (by decide), jr 442 (by decide) (by decide) (by decide), jr 443 (by decide) (by decide) (by decide)⟩ (fun j a1 a2 => by rw [jj j (by omega), fj j (by omega)]) ⟨lr 437 (by decide), lr 439 (by decide), lr 440 (by decide)⟩ (by rw [o.2 22 (by omega), o3.2 22 (by omega), d3]; rfl) (fun i hi => absurd hi (Nat.not_lt_zero _)) (by rw [he]; exact t.1.2.2.2.2.2.2.2) (by rw [jj 36 (by omega), fj 36 (by decide)]; exact m10) (fun i hi => by rw [jr 452 (by decide) (by decide) (by decide)]; exact m11 i hi)
      exact ⟨⟨hV, mi, hCI.low hV (fun q hq => jr q (by omega) (by omega) (by omega)) (fun q hq => lr q (by omega))⟩, lr 456 (by decide), by rw [jj 0 (by omega), f0]⟩
    unfold B_X9_query_65
    have eR : nqL (xC X) (xr X) (xb X) n 201 (qS1 (xb X) n) q0 = R := hR.symm
    refine m_readsQ (r := xr X) hC rfl hc hn.2 t3 v1 y1 (fun e1 J M o p t => ?_) (fun e1 J M cs ws o9 o p t rq lc ev => ?_)
    · rw [eR] at e1 t
      obtain ⟨i1, i2, i3⟩ := inv J M o p t
      refine m_good t vR (fun _ => ⟨fun z => absurd rfl z, fun _ => ?_⟩) (fun z => absurd z e1)
      rw [t.1.2.2.2.2.2.2.1]
      exact bad e1 J M i1 i2 i3
    · rw [eR] at e1 t ev
      obtain ⟨hv0, hv1⟩ := hv e1
      obtain ⟨i1, i2, i3⟩ := inv J M o p t
      refine m_good t vR (fun z => absurd e1 z) (fun _ => ⟨fun _ => ?_, fun z => absurd z (by decide)⟩)
      refine m_waves i1 (fun M4 i4 e4 hW => ?_)
      have hW : WEq (xC X) (xr X) (M4 444) (M4 445) (M4 446) := hW
      have gk := good e1
      generalize hg : qG R = g at gk
      have ev : ∀ k, k < cI (xC X) + cG (xC X) → evl (xC X) (xr X) k cs = some [b2 (g k)] := fun k hk => by rw [← hg]; exact ev k hk
      refine lp3 (fun z u w i => L_X9_query_94 v2 M4 Q z u w i) (fun u w i => ∃ j, w = nI j ∧ j ≤ cI (xC X) + cG (xC X) ∧ u = nI (fb_ct g j) ∧ hoI J i ∧ (many = false → ∀ i2, i2 < j → g i2 = false)) (fun _ w _ => cI (xC X) + cG (xC X) - w.toNatClampNeg) ?_ _ _ _ ⟨0, rfl, Nat.zero_le _, rfl, hoI.rf J, fun _ i2 hi2 => absurd hi2 (Nat.not_lt_zero _)⟩
      rintro z u w i ⟨j, rfl, j1, rfl, oi, nf⟩ ih
      have ii := inv_ho i4 oi
      have iz : i 436 0 = 0 := by rw [oi.2 0 (by decide) (by decide) (by decide)]; exact i3
      have ml : M4 456 = L 456 := by rw [e4, i2]
      show D_X9_query_94 v2 M4 Q (fun v3 v4 I => L_X9_query_94 v2 M4 Q z v3 v4 I) (nI (fb_ct g j)) (nI j) i
      unfold D_X9_query_94
      refine s_nets9 ii.mc ?_
      refine pk_le _ j (fun q => ?_) (fun q => ?_) rfl rfl (by show cI (xC X) + cG (xC X) < 2 ^ 31; omega) (by omega)
      · have q : cI (xC X) + cG (xC X) ≤ j := q
        have ej : j = cI (xC X) + cG (xC X) := by omega
        have kk := gk i M4 ii ml iz
        cases hmany : many with
        | true =>
          rw [hmany] at kk
          refine ⟨fun _ => ?_, fun y => absurd (hv1 hmany) y⟩
          rw [ej]
          exact kk
        | false =>
          rw [hmany] at kk
          refine ⟨fun y => absurd y (hv0 hmany), fun _ => ?_⟩
          have k2 : Q (fsF g (cI (xC X) + cG (xC X)) 0) i M4 := kk
          rw [fsF_no _ 0 (fun i2 _ h2 => nf hmany i2 (by omega))] at k2
          exact k2
      · have q : j < cI (xC X) + cG (xC X) := q
        refine m_holds (x := nI j) ii hW rfl q ((rq.ho oi)) lc (ev j q) (fun i5 o5 => ?_)
        have nx : ∀ u2, u2 = nI (fb_ct g (j + 1)) → (many = false → g j = false) → B_X9_query_125 v2 u2 (nI j) i5 M4 Q (fun v3 v4 I => L_X9_query_94 v2 M4 Q z v3 v4 I) := by
          rintro u2 rfl hgj
          unfold B_X9_query_125
          rw [nI_1]
          refine ih _ _ _ ⟨j + 1, rfl, by omega, rfl, oi.tr o5, fun hmf i2 hi2 => ?_⟩ (by rw [nI_clamp (by omega), nI_clamp (by omega)]; omega)
          by_cases y : i2 = j
          · rw [y]; exact hgj hmf
          · exact nf hmf i2 (by omega)
        have fs : fb_ct g (j + 1) = fb_ct g j + (if g j then 1 else 0) := fb_ct_succ g j
        cases hgj : g j with
        | true =>
          rw [hgj, if_pos rfl] at fs
          refine ⟨fun _ => ⟨fun y => nx _ (by rw [nI_1, fs]) (fun hmf => absurd y (hv0 hmf)), fun y => ?_⟩, fun y => absurd y (by decide)⟩
          have hmf : many = false := by
            cases hmany : many with
            | true => exact absurd (hv1 hmany) y
            | false => rfl
          have kk := gk i5 M4 (inv_ho ii o5) ml (by rw [o5.2 0 (by decide) (by decide) (by decide)]; exact iz)
          rw [hmf] at kk
          have k2 : Q (fsF g (cI (xC X) + cG (xC X)) 0) i5 M4 := kk
          rw [fsF_at _ 0 j (Nat.zero_le _) (by omega) hgj (fun i2 _ h2 => nf hmf i2 h2)] at k2
          exact k2
        | false =>
          rw [hgj, if_neg (by decide), Nat.add_zero] at fs
          exact ⟨fun y => absurd rfl y, fun _ => nx _ (by rw [fs]; rfl) (fun _ => hgj)⟩
  refine m_passes (w := 3379448) rfl (by omega) hc t2 tS0_v (fun s1 J3 M3 a3 b3 t3 => ⟨fun _ => ?_, fun z => absurd z (by decide)⟩) (fun s1 => ⟨fun z => absurd rfl z, fun _ => ?_⟩)
  · have sm : wdB (xb X) (tS0 (xb X) n) 257011 = false := wd_two s1 (by decide)
    refine tail 1 J3 M3 (fun _ => ⟨fun _ => by decide, fun z => by rw [hm, sm] at z; cases z⟩) a3.r b3 ?_
    have : qS1 (xb X) n = advF (xb X) n (tS0 (xb X) n) := by unfold qS1; rw [s1, Bool.or_true, if_pos rfl]
    rw [this]; exact t3
  · refine m_passes (w := 257011) rfl (by omega) hc t2 tS0_v (fun s2 J3 M3 a3 b3 t3 => ⟨fun _ => ?_, fun z => absurd z (by decide)⟩) (fun s2 => ⟨fun z => absurd rfl z, fun _ => m_faults (code := 1) rfl t2 tS0_v.1 (fun J3 a3 t3 => ?_)⟩)
    · refine tail 0 J3 M3 (fun _ => ⟨fun z => (by rw [hm, s2] at z; cases z), fun _ => rfl⟩) a3.r b3 ?_
      have : qS1 (xb X) n = advF (xb X) n (tS0 (xb X) n) := by unfold qS1; rw [s2, Bool.true_or, if_pos rfl]
      rw [this]; exact t3
    · -- neither word: a fault, whatever is asked
      have e1 : qS1 (xb X) n = failF 1 (tS0 (xb X) n) := by unfold qS1; rw [s1, s2]; rfl
      refine tail 0 J3 M2 (fun z => ?_) a3.r (tL.rf M2) (by rw [e1]; exact t3)
      have eF : er (failF 1 (tS0 (xb X) n)) ≠ 0 := failF_er (by decide)
      have : R.1 = failF 1 (tS0 (xb X) n) := by
        rw [hR]
        unfold qRs
        rw [e1]
        exact nqL_ff eF
      rw [this] at z
      exact absurd z eF
theorem op_query {p1 : Int32} {t : Nat} {P : Int32 → Int32 → TI → TL → Nat → Prop} (h : INV I L b d X B) (ht : txOK t) (fin : ∀ k r J M t2 X2, txOK t2 → OKL k r.toInt64 J M b d X2 B → P k r J M t2) : W_L_query p1 I L b d t (fun k I1 L1 t1 => W_X9_query p1 I1 L1 (fun r J M => P k r J M t1)) := by
  have hbl := bn_lt h.2.2.1.1
  have nb := h.nb
  have hx := h.1.2.2.2.2.1
  obtain ⟨-, -, -, -, ⟨c7, c8⟩, c9, c10, c11⟩ := id h.2.2
  obtain ⟨-, -, -, -, ⟨m7, m8⟩, m9, m10, m11⟩ := id h.2.1
  have hN : cI (xC X) + cG (xC X) ≤ 16 := by omega
  have refuse : ¬ rg p1 0 (min (xf X) 200 + 1) → W_X9_query p1 I L (fun r J M => P 1 r J M t) := by
    intro hn
    have f22 : (up2 I 436 0 0) 436 22 = nI (xf X) := by rw [up2_n (Or.inr (by decide)), m7]
    unfold W_X9_query W_X9_lesser
    have go : ∀ a, a = nI (min (xf X) 200) → W_X9_in (p1.toInt64) (0 : Int64) (a.toInt64) (up2 I 436 0 0) L (fun (r3687 : Int32) => W_X9_fails r3687 (1 : Int32) (up2 I 436 0 0) L (fun (r3688 : Int32) (I3689 : TI) => (r3688 = 0 → W_X9_starts p1 I3689 L (fun (I3690 : TI) (L3691 : TL) => W_X9_passes (3379448 : Int64) I3690 L3691 (fun (r3692 : Int32) (I3693 : TI) (L3694 : TL) => (¬ r3692 = 0 → B_X9_query_65 r3692 I3693 L3694 (fun r J M => P 1 r J M t)) ∧ (r3692 = 0 → W_X9_passes (257011 : Int64) I3693 L3694 (fun (r3695 : Int32) (I3696 : TI) (L3697 : TL) => (¬ r3695 = 0 → B_X9_query_65 r3692 I3696 L3697 (fun r J M => P 1 r J M t)) ∧ (r3695 = 0 → W_X9_faults (1 : Int32) I3696 L3697 (fun (r3698 : Int32) (I3699 : TI) => B_X9_query_65 r3692 I3699 L3697 (fun r J M => P 1 r J M t)))))))) ∧ (¬ r3688 = 0 → (fun r J M => P 1 r J M t) 0 I3689 L))) := by
      rintro a rfl
      exact s_in (a := 0) (c := min (xf X) 200 + 1) rfl rfl (by congr 1; exact (nI_pred _).symm) (by omega) (by omega) (by omega) (fun e => absurd e hn) (fun _ => s_fails0 ⟨fun z => absurd z (by decide), fun _ => fin _ _ _ _ _ X ht (fin1 h.thr.thr up2_s (by decide))⟩)
    refine pk_le 200 (xf X) (fun q => go _ ?_) (fun q => go _ ?_) rfl f22 (by omega) (by omega)
    · rw [Nat.min_eq_right q]; rfl
    · rw [Nat.min_eq_left (by omega), f22]
  have key := rg_iff (x := p1) (a := 0) (c := min (xf X) 200 + 1) (by omega) (by omega)
  unfold W_L_query W_X8_query
  by_cases hp : rg p1 0 (min (xf X) 200 + 1)
  · obtain ⟨n, -, hn, rfl⟩ := hp
    refine ⟨fun e => absurd e (nI_pos (by omega)), fun _ => ⟨fun e => ?_, fun _ => ⟨fun _ => ?_, fun e => ?_⟩⟩⟩
    · have := (nI_ltI (a := 200) (b := n) (by omega) (by omega)).mp e
      omega
    · have hc : txV (xb X) n := ⟨by omega, fun i hi => hx.2 i (by omega)⟩
      refine c_begin (c := xb X) hc rfl (fun i hi => c8 i (by omega)) (fun J1 a1 t1 => ⟨Or.inr rfl, ?_⟩)
      have o1 : qO I J1 := qO.tk a1
      obtain ⟨v1, y1⟩ := qS1_v (c := xb X) (ln := n)
      have body : ∀ J2, qO J1 J2 → TC J2 (xb X) n (qS1 (xb X) n) → B_X8_query_87 (bi (wdB (xb X) (tS0 (xb X) n) 257011)) J2 L b d 350 (fun (r3818 : Int32) (I3819 : TI) (t3820 : Nat) => txOK t3820 ∧ ((fun k I1 L1 t1 => W_X9_query (nI n) I1 L1 (fun r J M => P k r J M t1)) 0 I3819 (up2 L 456 0 (r3818.toInt64)) t3820)) (fun (e9 : String) (I8 : TI) (t8 : Nat) => (e9 = "java/lang/IllegalArgumentException" ∧ (fun k I1 L1 t1 => W_X9_query (nI n) I1 L1 (fun r J M => P k r J M t1)) 1 I8 L t8)) := by
        intro J2 o2 t2
        unfold B_X8_query_87
        refine c_netsOf (inv_qO h (o1.tr o2)) hc t2 v1 (fun J3 o3 t3 v3 => ?_)
        obtain ⟨R, hR⟩ : ∃ R, R = qRs (xC X) (xr X) (xb X) n := ⟨_, rfl⟩
        have eR : nqL (xC X) (xr X) (xb X) n 201 (qS1 (xb X) n) q0 = R := hR.symm
        rw [eR] at t3 v3
        rw [eR, show (fun k => R.2.2.1 k || R.2.2.2 k) = qG R from rfl]
        show W_X7_failed (up2 (up2 J3 0 7 0) 0 9 ((up2 J3 0 7 0) 344 7)) L _
        have e9 : (up2 J3 0 7 0) 344 7 = ep R.1 := by rw [up2_row (by decide)]; exact t3.1.2.2.2.2.2.2
        rw [e9]
        have r0 : ∀ q, q ≠ 0 → (up2 (up2 J3 0 7 0) 0 9 (ep R.1)) q = J3 q := fun q y => by rw [up2_row y, up2_row y]
        have g7 : (up2 (up2 J3 0 7 0) 0 9 (ep R.1)) 0 7 = 0 := by rw [up2_n (Or.inr (by decide)), up2_s]
        have g9 : (up2 (up2 J3 0 7 0) 0 9 (ep R.1)) 0 9 = ep R.1 := up2_s
        have go : ∀ j, j ≠ 7 → j ≠ 9 → (up2 (up2 J3 0 7 0) 0 9 (ep R.1)) 0 j = J3 0 j := fun j y1 y2 => by rw [up2_n (Or.inr y2), up2_n (Or.inr y1)]
        generalize up2 (up2 J3 0 7 0) 0 9 (ep R.1) = J4 at r0 g7 g9 go
        have t4 : TC J4 (xb X) n R.1 := t3.fr (r0 344 (by decide)) (r0 350 (by decide))
        have i4 : ∀ q, q ≠ 0 → q ≠ 344 → (q < 346 ∨ 349 < q) → J4 q = I q := fun q y1 y2 y3 => by rw [r0 q y1, o3 q y2 y3, o2 q y2 y3, o1 q y2 y3]
        have j0 : ∀ j, j ≠ 7 → j ≠ 9 → J4 0 j = I 0 j := fun j y1 y2 => by rw [go j y1 y2, o3 0 (by decide) (by omega), o2 0 (by decide) (by omega), o1 0 (by decide) (by omega)]
        have v6 : XV (ioX X (0, xb X) (ep R.1) (xl X, xt X)) B := ioX_V h.1 ⟨Nat.zero_le _, fun i hi => absurd hi (Nat.not_lt_zero _)⟩ h.1.2.2.2.2.2
        have ci : ∀ u, CI J4 (up2 L 456 0 u) b d (ioX X (0, xb X) (ep R.1) (xl X, xt X)) := fun u => h.2.2.io h.1 (fun q y1 y2 y3 => i4 q y2 (by omega) (by omega)) (fun q y1 => up2_row (by omega)) (by rw [g7]; rfl) (fun i hi => absurd hi (Nat.not_lt_zero _)) g9 (by rw [j0 8 (by decide) (by decide)]; exact c10) (fun i hi => by rw [i4 351 (by decide) (by decide) (by omega)]; exact c11 i hi)
        have mi : ∀ u, MI J4 (up2 L 456 0 u) X := fun u => h.2.1.hi (fun q hq => i4 q (by omega) (by omega) (by omega)) (fun q hq hq2 => up2_row hq2)
        have run : er R.1 = 0 → ∀ u, u = qyF (wdB (xb X) (tS0 (xb X) n) 257011) (qG R) (cI (xC X) + cG (xC X)) → txOK 350 ∧ W_X9_query (nI n) J4 (up2 L 456 0 (u.toInt64)) (fun r J M => P 0 r J M 350) := by
          intro e0 u hu
          refine ⟨Or.inr rfl, m_query v6 (mi _) (ci _) h.1 ⟨by omega, by omega⟩ hc hR rfl rfl v3.1 (fun z => absurd e0 z) (fun _ J M i1 i2 i3 => fin _ _ J M 350 _ (Or.inr rfl) ⟨i3, fun _ => ?_, i1⟩)⟩
          rw [i2, up2_s, hu]
        refine c_failed t4 v3.1 (fun e0 => ⟨fun _ => ?_, fun z => absurd rfl z⟩) (fun e0 => ⟨fun z => absurd z (by decide), fun _ => ?_⟩)
        · have run := run e0
          generalize wdB (xb X) (tS0 (xb X) n) 257011 = many at run ⊢
          generalize qG R = g at run ⊢
          cases many with
          | true =>
            refine ⟨fun z => absurd z (by decide), fun _ => s_bcI rfl (mkn_32 g hN) (run _ ?_)⟩
            rw [mk_ct hN]
            rfl
          | false =>
            refine ⟨fun _ => ⟨fun z => ?_, fun z => run _ ?_⟩, fun z => absurd rfl z⟩
            · rcases first_ex (g := g) (cI (xC X) + cG (xC X)) with ⟨k, k1, k2, k3⟩ | k0
              · refine s_ntI rfl (mkn_32 g hN) (j := k) ?_ (fun i hi => ?_) (run _ ?_)
                · rw [mkn_tb g _ k k1]; exact k2
                · rw [mkn_tb g _ i (by omega)]; exact k3 i hi
                · exact (fsF_at _ 0 k (Nat.zero_le _) (by omega) k2 (fun i _ hi => k3 i hi)).symm
              · exact absurd ((mk_z hN g).mpr k0) z
            · exact (fsF_no _ 0 (fun i _ hi => (mk_z hN g).mp z i (by omega))).symm
        · have e6 : J4 344 6 = nI (er R.1) := t4.1.2.2.2.2.2.1
          rw [e6]
          refine ⟨Or.inr rfl, m_query v6 (mi _) (ci _) h.1 ⟨by omega, by omega⟩ hc hR rfl rfl v3.1 (fun _ J M i1 i2 i3 => fin _ _ J M 350 _ (Or.inr rfl) ⟨i3, fun _ => ?_, i1⟩) (fun z => absurd z e0)⟩
          rw [i2, up2_s]
      refine c_isWord w_many rfl hc t1 tS0_v (fun s1 => ⟨fun _ => ?_, fun z => absurd z (by decide)⟩) (fun s1 => ⟨fun z => absurd rfl z, fun _ => c_isWord w_first rfl hc t1 tS0_v (fun s2 => ⟨fun z => absurd z (by decide), fun _ => ?_⟩) (fun s2 => ⟨fun _ => c_fail (code := 1) t1 tS0_v.1 rfl (fun J2 a2 t2 => ?_), fun z => absurd rfl z⟩)⟩)
      · have e1 : qS1 (xb X) n = advF (xb X) n (tS0 (xb X) n) := by unfold qS1; rw [s1, Bool.true_or, if_pos rfl]
        have body := body
        rw [s1] at body
        unfold B_X8_query_69
        exact c_adv hc t1 tS0_v.1 (fun J2 a2 t2 => body J2 (qO.tk a2) (by rw [e1]; exact t2))
      · have e1 : qS1 (xb X) n = advF (xb X) n (tS0 (xb X) n) := by unfold qS1; rw [s2, Bool.or_true, if_pos rfl]
        have body := body
        rw [s1] at body
        unfold B_X8_query_69
        exact c_adv hc t1 tS0_v.1 (fun J2 a2 t2 => body J2 (qO.tk a2) (by rw [e1]; exact t2))
      · have e1 : qS1 (xb X) n = failF 1 (tS0 (xb X) n) := by unfold qS1; rw [s1, s2]; rfl
        have body := body
        rw [s1] at body
        exact body J2 (qO.tk a2) (by rw [e1]; exact t2)
    · rw [c7] at e
      exact absurd (nI_le (show n ≤ xf X by omega) (by omega)) e
  · refine ⟨fun _ => ⟨rfl, refuse hp⟩, fun a1 => ⟨fun _ => ⟨rfl, refuse hp⟩, fun a2 => ⟨fun a3 => absurd (key.mpr ⟨lt_nle.mp a1, ?_⟩) hp, fun _ => ⟨rfl, refuse hp⟩⟩⟩⟩
    rw [c7, Int32.le_iff_toInt_le, nI_toInt (by omega)] at a3
    rw [lt_nle, Int32.le_iff_toInt_le, show (200 : Int32).toInt = 200 from rfl] at a2
    rw [Int32.lt_iff_toInt_lt, nI_toInt (by omega)]
    omega
end QUERY
