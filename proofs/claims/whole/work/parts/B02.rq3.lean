/-! the reference reads a whole query, and holds it at a net -/
section RQ3
variable {I J : TI} {L M : TL} {b d B N : Nat} {X : XT} {c : Nat → Nat} {ln : Nat} {S : PS} {C : CQ} {r : RW}
theorem px_opL : ∀ (n : Nat) (S : PS) (q : QS), PX c ln S → PX c ln (opL c ln n S q).1
  | 0, _, _, v => v
  | n + 1, S, q, v => by
    rw [opL_s]
    split
    · split
      · exact px_opL n _ _ v.adv
      · exact px_opL n _ _ (v.fail (by omega))
    · exact v
theorem nI_m1 (n : Nat) : nI (n + 1) + (-1) = nI n := by
  have := nI_pred n
  rw [Int32.sub_eq_add_neg] at this
  exact this
theorem m_push {P : TI → Prop} {cs ws : List Nat} {o n : Nat} {x : Int32} (hx : x = nI n) (hn : n ≤ 25) (h : RQ I cs ws o) (hl : ws.length < 200) (k : ∀ J, wI I J → RQ J cs (n :: ws) o → P J) : vp_in (I 436 41) 200 ∧ (∀ I2 : TI, I2 = (up2 (up2 I 454 ((I 436 41).toNatClampNeg) x) 436 41 (((up2 I 454 ((I 436 41).toNatClampNeg) x) 436 41) + 1)) → P I2) := by
  subst hx
  obtain ⟨h1, h2, h3, h4, h5⟩ := h
  have f : (up2 I 454 ws.length (nI n)) 436 41 = nI ws.length := by rw [up2_row (by decide)]; exact h2
  rw [pk_cl _ h2 (by omega), f, nI_1]
  refine ⟨pk_in _ 200 hl h2, ?_⟩
  rintro _ rfl
  refine k _ ⟨fun q a _ e => by rw [up2_row a, up2_row e], fun j hj => by rw [up2_n (Or.inr (by omega)), up2_row (by decide)]⟩ ⟨?_, up2_s, ?_, cdR_fr _ h4 (fun i hi => by rw [up2_row (by decide), up2_row (by decide)]), ⟨⟨?_, hn⟩, wtR_fr ws h5 (fun i hi => by rw [up2_row (by decide), up2_n (Or.inr (by omega))])⟩⟩
  · rw [up2_n (Or.inr (by decide)), up2_row (by decide)]; exact h1
  · rw [up2_n (Or.inr (by decide)), up2_row (by decide)]; exact h3
  · rw [up2_row (by decide), up2_s]
theorem m_readsQ {Q : TI → TL → Prop} (hC : CV C) (hN : N = cI C + cG C) (hc : txV c ln) (h2 : ln ≤ 200) (h : TR I L c ln S) (v : PX c ln S) (y : PY S)
    (kB : er (nqL C r c ln 201 S q0).1 ≠ 0 → ∀ J M, rI I J → tL L M → TR J M c ln (nqL C r c ln 201 S q0).1 → Q J M)
    (kG : er (nqL C r c ln 201 S q0).1 = 0 → ∀ J M cs ws o, rI I J → tL L M → TR J M c ln (nqL C r c ln 201 S q0).1 → RQ J cs ws o → cs.length ≤ 200 → (∀ k, k < N → evl C r k cs = some [b2 ((nqL C r c ln 201 S q0).2.2.1 k || (nqL C r c ln 201 S q0).2.2.2 k)]) → Q J M) : W_X9_reads I L Q := by
  generalize hR : nqL C r c ln 201 S q0 = R at kB kG
  have w0 : wI I (up2 (up2 (up2 I 436 40 0) 436 42 0) 436 41 0) := ⟨fun q a _ _ => by rw [up2_row a, up2_row a, up2_row a], fun j hj => by rw [up2_n (Or.inr (by omega)), up2_n (Or.inr (by omega)), up2_n (Or.inr (by omega))]⟩
  have rq0 : RQ (up2 (up2 (up2 I 436 40 0) 436 42 0) 436 41 0) [] [] 0 := by
    refine ⟨?_, up2_s, ?_, trivial, trivial⟩
    · rw [up2_n (Or.inr (by decide)), up2_n (Or.inr (by decide)), up2_s]; rfl
    · rw [up2_n (Or.inr (by decide)), up2_s]; rfl
  unfold W_X9_reads
  generalize up2 (up2 (up2 I 436 40 0) 436 42 0) 436 41 0 = I1 at w0 rq0
  have t0 := w0.t h
  have step : ∀ v1, (v1 = 1 ∧ er S = 0) ∨ (v1 = 0 ∧ er S ≠ 0) → ∃ n, L_X9_reads_20 Q n v1 I1 L := by
    intro v1 hv1
    rcases hv1 with ⟨rfl, e0⟩ | ⟨rfl, e0⟩
    · refine lp3 (fun n v i l => L_X9_reads_20 Q n v i l) (fun v i l => ∃ (m : Bool) (n : Nat) (S2 : PS) (q2 : QS), v = bi m ∧ rI I i ∧ tL L l ∧ TR i l c ln S2 ∧ PX c ln S2 ∧ PY S2 ∧ er S2 = 0 ∧ ((m = true ∧ (∃ es s cs, DQ C r N i S2 q2 es s cs) ∧ 201 ≤ n + ts S2 ∧ nqL C r c ln n S2 q2 = R) ∨ (m = false ∧ gnB c S2 = false ∧ R = (gnS c ln S2 q2, q2) ∧ ∃ es s cs e f hh, AQ C r N i S2 e f hh es s cs ∧ q2 = (mpE es, e, fun k => f k && hh k)))) (fun v i _ => if v = 0 then 0 else 1 + (200 - (i 436 25).toNatClampNeg)) ?_ _ _ _ ⟨true, 201, S, q0, rfl, w0.r, tL.rf L, t0, v, y, e0, Or.inl ⟨rfl, ⟨[], 0, [], ⟨rfl, ⟨fun _ => rfl, fun _ => ⟨by omega, fun _ _ _ => ⟨rfl, rfl⟩, fun z => absurd z (by decide), fun z => absurd z (by decide)⟩⟩, trivial, fun _ _ => rfl⟩, rq0, by decide, Nat.zero_le _⟩, by omega, hR⟩⟩
      rintro z v1 i l ⟨m, n, S2, q2, rfl, oi, ol, ti, vi, yi, ei, cas⟩ ih
      have l2 := ts_le vi
      have i25 : i 436 25 = nI (ts S2) := ti.1.2.2.1
      show D_X9_reads_20 Q (fun v1 I L => L_X9_reads_20 Q z v1 I L) (bi m) i l
      unfold D_X9_reads_20
      rcases cas with ⟨rfl, ⟨es, s, cs, di⟩, hn, eR⟩ | ⟨rfl, gB, eR, es, s, cs, e, f, hh, ai, eq⟩
      · refine ⟨fun z2 => absurd z2 (by decide), fun _ => ?_⟩
        obtain ⟨n', rfl⟩ : ∃ n', n = n' + 1 := ⟨n - 1, by omega⟩
        refine m_cmpRead hC hN hc h2 ti vi yi ei di (fun e3 J M a b t => ?_) (fun e3 v3 y3 J M es2 s2 cs2 a b t a1 c9 => ?_)
        · have eq := nqL_f (C := C) (r := r) (n := n') e3
          rw [eR] at eq
          rw [← eq] at t e3
          exact m_good t (by rw [eq]; exact (px_csC (by
            have : PX c ln (opL c ln 7 S2 q2).1 := px_opL 7 S2 q2 vi
            exact this)).1) (fun _ => ⟨fun z2 => absurd rfl z2, fun _ => kB e3 J M (oi.tr a) (ol.tr b) t⟩) (fun z2 => absurd z2 e3)
        · refine m_good t v3.1 (fun z2 => absurd e3 z2) (fun _ => ⟨fun _ => ?_, fun z2 => absurd z2 (by decide)⟩)
          refine m_closes hc h2 t v3 y3 e3 c9 (fun J2 M2 Sd e f hh es3 s3 cs3 hD a2 b2 t2 vd yd ed tsd aq => ?_)
          have hD : nqD C r c ln S2 q2 = (Sd, (mpE es3, e, fun k => f k && hh k)) := hD
          have e5 : nqL C r c ln (n' + 1) S2 q2 = (if gnB c (nqD C r c ln S2 q2).1 = true then nqL C r c ln n' (gnS c ln (nqD C r c ln S2 q2).1 (nqD C r c ln S2 q2).2) (gnQ c (nqD C r c ln S2 q2).1 (nqD C r c ln S2 q2).2) else (gnS c ln (nqD C r c ln S2 q2).1 (nqD C r c ln S2 q2).2, gnQ c (nqD C r c ln S2 q2).1 (nqD C r c ln S2 q2).2)) := rfl
          rw [hD, eR] at e5
          replace e5 : R = (if gnB c Sd = true then nqL C r c ln n' (gnS c ln Sd (mpE es3, e, fun k => f k && hh k)) (gnQ c Sd (mpE es3, e, fun k => f k && hh k)) else (gnS c ln Sd (mpE es3, e, fun k => f k && hh k), gnQ c Sd (mpE es3, e, fun k => f k && hh k))) := e5
          obtain ⟨af, rq, ho, hl⟩ := id aq
          have ld := ts_le vd
          -- a word that goes on
          have joinG : ∀ (x : Nat) (lo : Nat) (q3 : QS) (s4 : Nat), (x = 24 ∧ lo = 2 ∨ x = 25 ∧ lo = 1) → gnB c Sd = true → tk Sd = 1 → gnQ c Sd (mpE es3, e, fun k => f k && hh k) = q3 → DUE C r N q3 es3 s4 (stC lo (lvW s3 ++ wOf es3) cs3) → x :: stW lo (lvW s3 ++ wOf es3) = lvW s4 ++ wOf es3 → stO lo (lvW s3 ++ wOf es3) es3.length = es3.length → B_X9_reads_71 (nI x) J2 M2 Q (fun v1 I L => L_X9_reads_20 Q z v1 I L) := by
            intro x lo q3 s4 hx gB tk1 eq3 du ew eo
            rw [if_pos gB] at e5
            have eS : gnS c ln Sd (mpE es3, e, fun k => f k && hh k) = advF c ln Sd := by unfold gnS; rw [if_pos gB]
            rw [eS, eq3] at e5
            have at1 := adv_ts vd ed yd (by omega)
            have lt1 := ts_lt vd (by omega)
            have sx : strN x = lo := by rcases hx with ⟨rfl, rfl⟩ | ⟨rfl, rfl⟩ <;> rfl
            have x0 : ¬ nI x = 0 := by rcases hx with ⟨rfl, rfl⟩ | ⟨rfl, rfl⟩ <;> decide
            unfold B_X9_reads_71
            refine ⟨fun z2 => absurd z2 x0, fun _ => ?_⟩
            unfold B_X9_reads_81
            refine ⟨fun _ => ?_, fun z2 => absurd z2 (by decide)⟩
            refine m_strength rfl (by omega) ?_
            rw [sx]
            refine m_settles rfl (by omega) rq (by omega) (c23_lw s3 es3) (by omega) t2 vd.1 ed (fun I4 w4 q4 => ?_)
            have len := st_len lo (lvW s3 ++ wOf es3) cs3
            rw [eo] at q4
            refine m_push rfl (by omega) q4 (by omega) (fun I5 w5 q5 => ?_)
            rw [ew] at q5
            refine m_next hc ((w4.tr w5).t t2) vd.1 ed (fun I6 M6 a6 b6 t6 => ?_)
            have eA : er (advF c ln Sd) = 0 := by rw [advF_e]; exact ed
            have hlen : (lvW s4 ++ wOf es3).length = (stW lo (lvW s3 ++ wOf es3)).length + 1 := by rw [← ew]; rfl
            refine ih _ _ _ ⟨true, n', advF c ln Sd, q3, rfl, (((oi.tr a).tr a2).tr (w4.tr w5).r).tr a6.f.r, ((ol.tr b).tr b2).tr b6, t6, vd.adv, yd.adv, eA, Or.inl ⟨rfl, ⟨es3, s4, _, du, q5.f a6.f, ho, by omega⟩, by omega, e5.symm⟩⟩ ?_
            have j25 : I6 436 25 = nI (ts (advF c ln Sd)) := t6.1.2.2.1
            have ladv := ts_le vd.adv
            rw [if_neg (by decide), if_neg (by decide), j25, i25, nI_clamp (by omega), nI_clamp (by omega)]
            omega
          refine m_isWord (w := 1111) rfl (by omega) t2 vd hc.1 (fun s1 => ⟨fun z2 => absurd z2 (by decide), fun _ => ?_⟩) (fun s1 => ⟨fun _ => ?_, fun z2 => absurd rfl z2⟩)
          · obtain ⟨s4, g1, g2, g3⟩ := settle2 af
            exact joinG 24 2 _ s4 (Or.inl ⟨rfl, rfl⟩) (by unfold gnB; rw [s1]; rfl) (wdB_tk s1) (by unfold gnQ; rw [if_pos s1]) g3 g1 (g2 _)
          · refine m_isWord (w := 423) rfl (by omega) t2 vd hc.1 (fun s2 => ⟨fun z2 => absurd z2 (by decide), fun _ => ?_⟩) (fun s2 => ⟨fun _ => ?_, fun z2 => absurd rfl z2⟩)
            · obtain ⟨g1, g2⟩ := settleO af
              exact joinG 25 1 _ 1 (Or.inr ⟨rfl, rfl⟩) (by unfold gnB; rw [s2, Bool.or_true]) (wdB_tk s2) (by unfold gnQ; rw [if_neg (by rw [s1]; decide), if_pos s2]) g2 g1 ((settle1 af).2.1 _)
            · have gB : gnB c Sd = false := by unfold gnB; rw [s1, s2]; rfl
              rw [if_neg (by rw [gB]; decide)] at e5
              have eQ : gnQ c Sd (mpE es3, e, fun k => f k && hh k) = (mpE es3, e, fun k => f k && hh k) := by unfold gnQ; rw [if_neg (by rw [s1]; decide), if_neg (by rw [s2]; decide)]
              rw [eQ] at e5
              unfold B_X9_reads_71 B_X9_reads_81
              refine ⟨fun _ => ⟨fun z2 => absurd rfl z2, fun _ => ?_⟩, fun z2 => absurd rfl z2⟩
              refine ih _ _ _ ⟨false, 0, Sd, _, rfl, (oi.tr a).tr a2, (ol.tr b).tr b2, t2, vd, yd, ed, Or.inr ⟨rfl, gB, e5, es3, s3, cs3, e, f, hh, aq, rfl⟩⟩ ?_
              rw [if_pos rfl, if_neg (by decide)]
              omega
      · refine ⟨fun _ => ?_, fun z2 => absurd rfl z2⟩
        obtain ⟨af, rq, ho, hl⟩ := id ai
        have bad : ¬ (q2.1.length = 0 ∧ enB S2 = true) → B_X9_reads_145 i l Q := by
          intro z2
          have eS : gnS c ln S2 q2 = failF 1 S2 := by unfold gnS; rw [if_neg (by rw [gB]; decide), if_neg z2]
          have eF : er (failF 1 S2) ≠ 0 := failF_er (by decide)
          have eR1 : R.1 = failF 1 S2 := by rw [eR]; exact eS
          unfold B_X9_reads_145
          refine m_faults (code := 1) rfl ti vi.1 (fun J a t => ?_)
          unfold B_X9_reads_151
          exact m_settlesE t (failF_v vi.1 (by omega)) eF (kB (by rw [eR1]; exact eF) J l (oi.tr a.r) ol (by rw [eR1]; exact t))
        have ql : q2.1.length = es.length := by rw [eq]; exact mpE_len es
        have tk3 := vi.1.2.1.1
        refine m_good ti vi.1 (fun z2 => absurd ei z2) (fun _ => ⟨fun z2 => absurd z2 (by decide), fun _ => ?_⟩)
        refine m_isInside rq (by omega) (fun h1 => ⟨fun _ => bad (fun z2 => ?_), fun z2 => absurd z2 (by decide)⟩) (fun h1 => ⟨fun z2 => absurd rfl z2, fun _ => ?_⟩)
        · have := (in_w af.1).mp h1
          cases es with
          | nil => exact this rfl
          | cons x rs =>
            rw [ql] at z2
            exact absurd z2.1 (Nat.succ_ne_zero _)
        · have es0 : es = [] := by
            cases es with
            | nil => rfl
            | cons x rs => exact absurd ((in_w af.1).mpr (by simp)) h1
          have e26 : i 436 26 = nI (tk S2) := ti.1.2.2.2.1
          have e0t : nI (tk S2) = 0 ↔ tk S2 = 0 := nI_eq (b := 0) (by omega) (by omega)
          rw [e26]
          refine ⟨fun z2 => ?_, fun z2 => bad (fun z3 => ?_)⟩
          · have en : enB S2 = true := by unfold enB; exact decide_eq_true ⟨ei, e0t.mp z2⟩
            have eS : gnS c ln S2 q2 = S2 := by unfold gnS; rw [if_neg (by rw [gB]; decide), if_pos ⟨by rw [ql, es0]; rfl, en⟩]
            have eR1 : R.1 = S2 := by rw [eR]; exact eS
            have eR2 : R.2 = q2 := by rw [eR]
            unfold B_X9_reads_151
            refine m_settles (lo := 1) rfl (by omega) rq (by omega) (c23_lw s es) (by omega) ti vi.1 ei (fun I4 w4 q4 => ?_)
            have len := st_len 1 (lvW s ++ wOf es) cs
            refine kG (by rw [eR1]; exact ei) I4 l _ _ _ (oi.tr w4.r) ol (by rw [eR1]; exact w4.t ti) q4 (by omega) (fun k hk => ?_)
            have := (settle1 af).2.2 k hk
            rw [this, es0, eR2, eq]
            rfl
          · unfold enB at z3
            exact z2 (e0t.mpr (of_decide_eq_true z3.2).2)
    · have e1 : opL c ln 7 S q0 = (S, q0) := opL_f e0 7
      have e2 : csC c ln (opL c ln 7 S q0).1 = S := by rw [e1]; exact csC_f e0
      have eq := nqL_f (C := C) (r := r) (n := 200) (S := S) (q := q0) (by rw [e2]; exact e0)
      rw [hR, e2] at eq
      refine ⟨1, ?_⟩
      show D_X9_reads_20 Q (fun v1 I L => L_X9_reads_20 Q 0 v1 I L) 0 I1 L
      unfold D_X9_reads_20
      refine ⟨fun _ => m_good t0 v.1 (fun _ => ⟨fun _ => ?_, fun z => absurd rfl z⟩) (fun z => absurd z e0), fun z => absurd rfl z⟩
      unfold B_X9_reads_151
      exact m_settlesE t0 v.1 e0 (kB (by rw [eq]; exact e0) I1 L w0.r (tL.rf L) (by rw [eq]; exact t0))
  exact m_good t0 v.1 (fun z => step 0 (Or.inr ⟨rfl, z⟩)) (fun z => step 1 (Or.inl ⟨rfl, z⟩))
/-! holding -/
def skR (I : TI) : List Nat → Prop
  | [] => True
  | x :: r => (I 455 r.length = nI x ∧ x < 20000) ∧ skR I r
theorem skR_fr : ∀ s : List Nat, skR I s → (∀ i, i < s.length → J 455 i = I 455 i) → skR J s
  | [], _, _ => trivial
  | x :: r, h, e => ⟨⟨by rw [e r.length (Nat.lt_succ_self _)]; exact h.1.1, h.1.2⟩, skR_fr r h.2 (fun i hi => e i (Nat.lt_succ_of_lt hi))⟩
theorem cdR_at : ∀ (p : List Nat) {x : Nat} {s : List Nat}, cdR I (p ++ x :: s) → I 453 s.length = nI x ∧ x < 20000
  | [], _, _, h => h.1
  | _ :: p, _, _, h => cdR_at p h.2
theorem last_ex : ∀ l : List Nat, l ≠ [] → ∃ p x, l = p ++ [x]
  | [], h => absurd rfl h
  | [x], _ => ⟨[], x, rfl⟩
  | x :: y :: l, _ => by
    obtain ⟨p, z, e⟩ := last_ex (y :: l) (by simp)
    exact ⟨x :: p, z, by rw [e]; rfl⟩
theorem evl_suf {k : Nat} : ∀ (p : List Nat) {q s : List Nat}, evl C r k (p ++ q) = some s → ∃ t, evl C r k q = some t
  | [], _, s, h => ⟨s, h⟩
  | x :: p, q, s, h => by
    have h : (evl C r k (p ++ q)).bind (stp C r k x) = some s := h
    cases e : evl C r k (p ++ q) with
    | none => rw [e] at h; cases h
    | some t => exact evl_suf p e
theorem jn_le (x a b : Nat) : jn x a b ≤ 1 := by
  unfold jn
  split
  · exact b2_le _
  · split
    · exact b2_le _
    · split
      · exact b2_le _
      · split
        · exact b2_le _
        · exact b2_le _
theorem m_joined {Q : Int32 → Prop} {x a e : Nat} {u v w : Int32} (hu : u = nI x) (hv : v = nI a) (hw : w = nI e) (h1 : 20 ≤ x) (h2 : x ≤ 25) (h3 : x ≠ 23) (ha : a < 20000) (he : e < 20000) (k : Q (nI (jn x a e))) : W_X9_joined u v w I L Q := by
  subst hu; subst hv; subst hw
  have z : ∀ m, m < 100 → (nI x = nI m ↔ x = m) := fun m hm => nI_eq (by omega) (by omega)
  have s2 : nI a + nI e = nI (a + e) := nI_add a e
  unfold W_X9_joined B_X9_joined_82
  have any : x ≠ 20 → x ≠ 21 → x ≠ 22 → x ≠ 24 → ((nI a + nI e) ≤ 0 → Q 0) ∧ (¬ (nI a + nI e) ≤ 0 → Q 1) := by
    intro y1 y2 y3 y4
    unfold jn at k
    rw [if_neg y1, if_neg y2, if_neg y3, if_neg y4] at k
    rw [s2]
    refine pk_le (a + e) 0 (fun q => ?_) (fun q => ?_) rfl rfl (by omega) (by omega)
    · rw [decide_eq_false (by omega)] at k; exact k
    · rw [decide_eq_true (by omega)] at k; exact k
  refine ⟨fun y => ?_, fun y => ?_, fun y => ?_, fun y => absurd ((z 23 (by omega)).mp y) h3, fun y => ?_, fun y => ?_⟩
  · have : x = 20 := (z 20 (by omega)).mp y
    subst this
    refine pk_le e a (fun q => ?_) (fun q => ?_) rfl rfl (by omega) (by omega)
    · have k : Q (nI (b2 (decide (a < e)))) := k
      rw [decide_eq_false (by omega)] at k; exact k
    · have k : Q (nI (b2 (decide (a < e)))) := k
      rw [decide_eq_true (by omega)] at k; exact k
  · have : x = 21 := (z 21 (by omega)).mp y
    subst this
    have k : Q (nI (b2 (decide (a = e)))) := k
    have ee : nI a = nI e ↔ a = e := nI_eq (by omega) (by omega)
    refine ⟨fun q => ?_, fun q => ?_⟩
    · rw [decide_eq_false (fun y2 => q (ee.mpr y2))] at k; exact k
    · rw [decide_eq_true (ee.mp q)] at k; exact k
  · have : x = 22 := (z 22 (by omega)).mp y
    subst this
    refine pk_le a e (fun q => ?_) (fun q => ?_) rfl rfl (by omega) (by omega)
    · have k : Q (nI (b2 (decide (e < a)))) := k
      rw [decide_eq_false (by omega)] at k; exact k
    · have k : Q (nI (b2 (decide (e < a)))) := k
      rw [decide_eq_true (by omega)] at k; exact k
  · have : x = 24 := (z 24 (by omega)).mp y
    subst this
    have k : Q (nI (b2 (decide (a + e = 2)))) := k
    have ee : nI a + nI e = 2 ↔ a + e = 2 := by rw [s2]; exact nI_eq (b := 2) (by omega) (by omega)
    refine ⟨fun q => ?_, fun q => ?_⟩
    · rw [decide_eq_false (fun y2 => q (ee.mpr y2))] at k; exact k
    · rw [decide_eq_true (ee.mp q)] at k; exact k
  · refine any (fun q => ?_) (fun q => ?_) (fun q => ?_) (fun q => ?_)
    all_goals
      subst q
      exact absurd y (by decide)
/-- rows that holding leaves -/
def hoI (I J : TI) : Prop := (∀ q, q ≠ 436 → q ≠ 455 → J q = I q) ∧ ∀ j, j ≠ 18 → j ≠ 19 → j ≠ 20 → J 436 j = I 436 j
theorem hoI.rf (I : TI) : hoI I I := ⟨fun _ _ _ => rfl, fun _ _ _ _ => rfl⟩
theorem hoI.tr {K : TI} (h : hoI I J) (h2 : hoI J K) : hoI I K := ⟨fun q a b => (h2.1 q a b).trans (h.1 q a b), fun j a b d => (h2.2 j a b d).trans (h.2 j a b d)⟩
theorem hoI.up {j : Nat} {x : Int32} (h : hoI I J) : hoI I (up2 J 455 j x) := ⟨fun q a b => by rw [up2_row b]; exact h.1 q a b, fun k a b d => by rw [up2_row (by decide)]; exact h.2 k a b d⟩
theorem fpI.ho (h : fpI I J) : hoI I J := ⟨fun q a _ => h.1 q (nin1 a), h.2⟩
theorem inv_ho (h : INV I L b d X B) (e : hoI I J) : INV J L b d X B := by
  refine ⟨h.1, ?_, h.2.2.low h.1 (fun k hk => e.1 k (by omega) (by omega)) (fun _ _ => rfl)⟩
  have hm := h.2.1
  unfold MI MC at *
  rw [e.2 10 (by omega) (by omega) (by omega), e.2 11 (by omega) (by omega) (by omega), e.2 7 (by omega) (by omega) (by omega), e.2 8 (by omega) (by omega) (by omega), e.2 9 (by omega) (by omega) (by omega), e.1 441 (by omega) (by omega), e.1 442 (by omega) (by omega), e.1 443 (by omega) (by omega), e.2 6 (by omega) (by omega) (by omega), e.2 5 (by omega) (by omega) (by omega), e.2 22 (by omega) (by omega) (by omega), e.1 447 (by omega) (by omega), e.2 30 (by omega) (by omega) (by omega), e.2 36 (by omega) (by omega) (by omega), e.1 452 (by omega) (by omega)]
  exact hm
theorem RQ.ho {cs ws : List Nat} {o : Nat} (h : RQ I cs ws o) (e : hoI I J) : RQ J cs ws o := h.fr (fun j _ _ => e.2 j (by omega) (by omega) (by omega)) (e.1 453 (by decide) (by decide)) (e.1 454 (by decide) (by decide))
theorem m_holds {Q : Int32 → TI → Prop} {k : Nat} {g : Bool} {cs ws : List Nat} {o : Nat} {x : Int32} (hi : INV I L b d X B) (hW : WEq (xC X) (xr X) (L 444) (L 445) (L 446)) (hx : x = nI k) (hk : k < cI (xC X) + cG (xC X)) (h : RQ I cs ws o) (hl : cs.length ≤ 200) (he : evl (xC X) (xr X) k cs = some [b2 g]) (q : ∀ J, hoI I J → Q (bi g) J) : W_X9_holds x I L Q := by
  subst hx
  have nb := hi.nb
  unfold W_X9_holds
  refine lp3 (fun n u v i => L_X9_holds_4 (nI k) L Q n u v i) (fun u v i => ∃ pre suf s, cs = pre ++ suf ∧ v = nI suf.length ∧ u = nI s.length ∧ evl (xC X) (xr X) k suf = some s ∧ s.length ≤ suf.length ∧ skR i s ∧ hoI I i) (fun _ v _ => cs.length - v.toNatClampNeg) ?_ _ _ _ ⟨cs, [], [], (List.append_nil cs).symm, rfl, rfl, rfl, Nat.le_refl _, trivial, hoI.rf I⟩
  rintro n u v i ⟨pre, suf, s, ecs, rfl, rfl, ev, ls, si, oi⟩ ih
  have inv := inv_ho hi oi
  have rq := h.ho oi
  have e40 : i 436 40 = nI cs.length := rq.1
  have lcs : cs.length = pre.length + suf.length := by rw [ecs, List.length_append]
  show D_X9_holds_4 (nI k) L Q (fun v2 v3 I => L_X9_holds_4 (nI k) L Q n v2 v3 I) (nI s.length) (nI suf.length) i
  unfold D_X9_holds_4
  refine pk_le cs.length suf.length (fun z => ?_) (fun z => ?_) e40 rfl (by omega) (by omega)
  · have p0 : pre = [] := List.eq_nil_of_length_eq_zero (by omega)
    subst p0
    have ecs : cs = suf := ecs
    subst ecs
    have es : s = [b2 g] := Option.some.inj (ev.symm.trans he)
    subst es
    have e0 : i 455 0 = nI (b2 g) := si.1.1
    rw [e0]
    have qq := q i oi
    cases g with
    | true => exact ⟨fun y => absurd rfl y, fun _ => qq⟩
    | false => exact ⟨fun _ => qq, fun y => absurd y (by decide)⟩
  · obtain ⟨p, y, ep⟩ := last_ex pre (by rintro rfl; simp at lcs; omega)
    subst ep
    have ecs2 : cs = p ++ (y :: suf) := by rw [ecs, List.append_assoc]; rfl
    have cr : cdR i (p ++ (y :: suf)) := by rw [← ecs2]; exact rq.2.2.2.1
    obtain ⟨c1, c2⟩ := cdR_at p cr
    obtain ⟨s', es'⟩ := evl_suf (C := xC X) (r := xr X) (k := k) p (by rw [← ecs2]; exact he)
    have est : stp (xC X) (xr X) k y s = some s' := by
      have : (evl (xC X) (xr X) k suf).bind (stp (xC X) (xr X) k y) = some s' := es'
      rw [ev] at this
      exact this
    have lsuf : suf.length + 1 ≤ cs.length := by omega
    -- the next code
    have nx : ∀ (i2 : TI), skR i2 s' → hoI I i2 → s'.length ≤ suf.length + 1 → L_X9_holds_4 (nI k) L Q n (nI s'.length) (nI suf.length + 1) i2 := by
      intro i2 st2 o2 l2
      rw [nI_1]
      refine ih _ _ _ ⟨p, y :: suf, s', ecs2, rfl, rfl, es', l2, st2, o2⟩ ?_
      show cs.length - (nI (suf.length + 1)).toNatClampNeg < _
      rw [nI_clamp (by omega), nI_clamp (by omega)]
      omega
    rw [pk_cl _ rfl (by omega), c1]
    refine ⟨pk_in _ 200 (by omega) rfl, fun z2 => ?_, fun z2 => ?_⟩
    · have y23 : y ≠ 23 := fun z3 => z2 (by rw [z3]; rfl)
      unfold stp at est
      rw [if_neg y23] at est
      refine s_in (a := 20) (c := 26) rfl rfl rfl (by omega) (by omega) (by omega) (fun q1 => ⟨fun z3 => absurd z3 (by decide), fun _ => ?_⟩) (fun q1 => ⟨fun _ => ?_, fun z3 => absurd rfl z3⟩)
      · obtain ⟨y2, b1, b2', b3⟩ := q1
        have ey : y = y2 := (nI_eq (by omega) (by omega)).mp b3
        subst ey
        rw [if_pos ⟨b1, by omega⟩] at est
        rcases s with _ | ⟨e, _ | ⟨a, t⟩⟩
        · exact absurd (show (none : Option (List Nat)) = some s' from est) (by simp)
        · exact absurd (show (none : Option (List Nat)) = some s' from est) (by simp)
        · have est : (if a < 20000 ∧ e < 20000 then some (jn y a e :: t) else none) = some s' := est
          obtain ⟨⟨s1, s2⟩, ⟨s3, s4⟩, s5⟩ := si
          rw [if_pos ⟨s4, s2⟩] at est
          have es2 : jn y a e :: t = s' := Option.some.inj est
          subst es2
          have s1 : i 455 (t.length + 1) = nI e := s1
          have ls : t.length + 1 + 1 ≤ suf.length := ls
          have j1 := jn_le y a e
          have m1 : nI (t.length + 1 + 1) + (-1) = nI (t.length + 1) := nI_m1 _
          have m2 : nI (t.length + 1) - 1 = nI t.length := nI_pred _
          show vp_in ((nI (t.length + 1 + 1) + (-1)) - 1) 200 ∧ _
          rw [show (e :: a :: t).length = t.length + 1 + 1 from rfl, m1, m2, pk_cl (t.length + 1) rfl (by omega), pk_cl t.length rfl (by omega), s3, s1]
          refine ⟨pk_in _ 200 (by omega) rfl, pk_in _ 200 (by omega) rfl, m_joined rfl rfl rfl b1 (by omega) y23 s4 s2 ?_⟩
          have fin : ∀ w, w = nI (jn y a e) → B_X9_holds_100 (nI k) (nI (t.length + 1)) (nI suf.length) (nI t.length) w i L Q (fun v2 v3 I => L_X9_holds_4 (nI k) L Q n v2 v3 I) := by
            rintro w rfl
            unfold B_X9_holds_100 B_X9_holds_135
            rw [pk_cl t.length rfl (by omega)]
            refine ⟨pk_in _ 200 (by omega) rfl, nx _ ⟨⟨up2_s, by omega⟩, skR_fr t s5 (fun i3 h3 => by rw [up2_n (Or.inr (by omega))])⟩ oi.up (by show t.length + 1 ≤ _; omega)⟩
          refine ⟨fun z3 => fin 0 z3.symm, fun z3 => fin 1 ?_⟩
          have e01 : jn y a e = 0 ∨ jn y a e = 1 := by omega
          rcases e01 with e01 | e01
          · rw [e01] at z3; exact absurd rfl z3
          · rw [e01]; rfl
      · have yn : ¬ (20 ≤ y ∧ y ≤ 25) := fun z3 => q1 ⟨y, z3.1, by omega, rfl⟩
        rw [if_neg yn] at est
        by_cases hv : y < 9 ∨ 100 ≤ y
        · rw [if_pos hv] at est
          have es2 : (if 100 ≤ y then y - 100 else pvF (xC X) (xr X) k y) :: s = s' := Option.some.inj est
          subst es2
          have fin : ∀ (w : Int32) (i2 : TI), w = nI (if 100 ≤ y then y - 100 else pvF (xC X) (xr X) k y) → (if 100 ≤ y then y - 100 else pvF (xC X) (xr X) k y) < 20000 → hoI i i2 → i2 455 = i 455 → B_X9_holds_131 (nI k) (nI s.length) (nI suf.length) (nI s.length) w i2 L Q (fun v2 v3 I => L_X9_holds_4 (nI k) L Q n v2 v3 I) := by
            rintro w i2 rfl hlt o2 e455
            unfold B_X9_holds_131 B_X9_holds_135
            rw [pk_cl s.length rfl (by omega), nI_1]
            exact ⟨pk_in _ 200 (by omega) rfl, nx _ ⟨⟨up2_s, hlt⟩, skR_fr s si (fun i3 h3 => by rw [up2_n (Or.inr (by omega)), e455])⟩ (oi.tr o2).up (by show s.length + 1 ≤ _; omega)⟩
          refine pk_lt y 100 (fun z3 => ?_) (fun z3 => ?_) rfl rfl (by omega) (by omega)
          · have pl := pvF_le (r := xr X) hi.C hk y
            refine m_propertyOf inv hW rfl hk rfl (by omega) (fun i2 _ f2 => fin _ i2 (by rw [if_neg (by omega)]) (by rw [if_neg (by omega)]; omega) f2.ho (f2.1 455 (nin1 (by decide))))
          · refine fin _ i ?_ ?_ (hoI.rf i) rfl
            · rw [if_pos z3, show (100 : Int32) = nI 100 from rfl, pk_sub z3]
            · rw [if_pos z3]; omega
        · rw [if_neg hv] at est
          cases est
    · have y23 : y = 23 := (nI_eq (b := 23) (by omega) (by omega)).mp z2
      subst y23
      unfold stp at est
      rw [if_pos rfl] at est
      rcases s with _ | ⟨a, t⟩
      · exact absurd (show (none : Option (List Nat)) = some s' from est) (by simp)
      · have est : (if a ≤ 1 then some ((1 - a) :: t) else none) = some s' := est
        by_cases ha : a ≤ 1
        · rw [if_pos ha] at est
          have es2 : (1 - a) :: t = s' := Option.some.inj est
          subst es2
          obtain ⟨⟨s1, s2⟩, s5⟩ := si
          have ls : t.length + 1 ≤ suf.length := ls
          have m2 : nI (t.length + 1) - 1 = nI t.length := nI_pred _
          show vp_in (nI (t.length + 1) - 1) 200 ∧ _
          rw [show (a :: t).length = t.length + 1 from rfl, m2, pk_cl t.length rfl (by omega), s1, show (1 : Int32) = nI 1 from rfl, pk_sub ha]
          refine ⟨pk_in _ 200 (by omega) rfl, pk_in _ 200 (by omega) rfl, ?_⟩
          rintro _ rfl
          unfold B_X9_holds_135
          exact nx _ ⟨⟨up2_s, by omega⟩, skR_fr t s5 (fun i3 h3 => by rw [up2_n (Or.inr (by omega))])⟩ oi.up (by show t.length + 1 ≤ _; omega)
        · rw [if_neg ha] at est
          cases est
end RQ3
