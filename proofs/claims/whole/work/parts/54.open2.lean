/-! open -/
section OPEN2
variable {I J : TI} {L M : TL} {b d B : Nat} {X : XT}
/-- the row with a dispute laid behind -/
def nwR (r : RW) (k : Nat) (v : Nat → Int32) : RW := fun i => if i = 4 then r 4 + 1 else if 81 + 8 * k ≤ i ∧ i < 89 + 8 * k then (v (i - (81 + 8 * k))).toInt64 else r i
def opV (n t e l p c : Int32) : Nat → Int32
  | 0 => n
  | 1 => t
  | 2 => e
  | 3 => l
  | 4 => p
  | 5 => c
  | 6 => 0
  | _ => -1
theorem row8 {r : RW} {k : Nat} {w0 w1 w2 w3 w4 w5 w6 w7 : Int64} {i : Nat} : (upR (upR (upR (upR (upR (upR (upR (upR r (81 + 8 * k + 0) w0) (81 + 8 * k + 1) w1) (81 + 8 * k + 2) w2) (81 + 8 * k + 3) w3) (81 + 8 * k + 4) w4) (81 + 8 * k + 5) w5) (81 + 8 * k + 6) w6) (81 + 8 * k + 7) w7) i = if 81 + 8 * k ≤ i ∧ i < 89 + 8 * k then (match i - (81 + 8 * k) with | 0 => w0 | 1 => w1 | 2 => w2 | 3 => w3 | 4 => w4 | 5 => w5 | 6 => w6 | _ => w7) else r i := by
  by_cases h : 81 + 8 * k ≤ i ∧ i < 89 + 8 * k
  · rw [if_pos h]
    obtain ⟨f, hf, rfl⟩ : ∃ f, f < 8 ∧ i = 81 + 8 * k + f := ⟨i - (81 + 8 * k), by omega, by omega⟩
    rw [Nat.add_sub_cancel_left]
    match f, hf with
    | 0, _ => (rw [upR_n (by omega), upR_n (by omega), upR_n (by omega), upR_n (by omega), upR_n (by omega), upR_n (by omega), upR_n (by omega), upR_s]; rfl)
    | 1, _ => (rw [upR_n (by omega), upR_n (by omega), upR_n (by omega), upR_n (by omega), upR_n (by omega), upR_n (by omega), upR_s]; rfl)
    | 2, _ => (rw [upR_n (by omega), upR_n (by omega), upR_n (by omega), upR_n (by omega), upR_n (by omega), upR_s]; rfl)
    | 3, _ => (rw [upR_n (by omega), upR_n (by omega), upR_n (by omega), upR_n (by omega), upR_s]; rfl)
    | 4, _ => (rw [upR_n (by omega), upR_n (by omega), upR_n (by omega), upR_s]; rfl)
    | 5, _ => (rw [upR_n (by omega), upR_n (by omega), upR_s]; rfl)
    | 6, _ => (rw [upR_n (by omega), upR_s]; rfl)
    | 7, _ => (rw [upR_s]; rfl)
  · rw [if_neg h, upR_n (by omega), upR_n (by omega), upR_n (by omega), upR_n (by omega), upR_n (by omega), upR_n (by omega), upR_n (by omega), upR_n (by omega)]
theorem op_open {p1 p2 p3 p4 : Int32} {P : Int32 → Int32 → TI → TL → Prop} (h : INV I L b d X B) (h4 : p4 = 0 ∨ p4 = 1) (fin : ∀ k r J M X2, OKL k r.toInt64 J M b d X2 B → P k r J M) : W_L_open p1 p2 p3 p4 I L b d (fun k I1 L1 => W_X9_open p1 p2 p3 p4 I1 L1 (fun r J M => P k r J M)) := by
  have nb := h.nb
  have hc := h.r.2.2.1
  have hbl := bn_lt h.2.2.1.1
  unfold W_L_open W_X8_open
  by_cases hp : ∃ g t, puA (xC X) (xr X) p2 p3 g t
  · obtain ⟨g, t, hp⟩ := hp
    obtain ⟨rfl, hg, a3, i, a4, rfl, a6⟩ := id hp
    obtain ⟨o1, o2, o3, o4⟩ := h.C.net hg
    have lt := pf_lt a3
    have le := pf_en a3
    have hn : cI (xC X) + g < cI (xC X) + cG (xC X) := by omega
    refine c_rp1 h hp ?_
    by_cases hpt : p1 = 0 ∨ p1 = 1
    · have hpr : rg p1 0 2 := by
        rcases hpt with rfl | rfl
        · exact rgi (n := 0) (Nat.zero_le _) (by omega)
        · exact rgi (n := 1) (Nat.zero_le _) (by omega)
      have e7 : I (b + 6) 7 = nI (un (xr X 4)) := h.bc.2.1.2.2.1
      -- the reference, up to its look at the disputes
      have mgo : ∀ (K : TI → TL → Prop) (I1 : TI) (L1 : TL) (Q : Int32 → TI → TL → Prop), IM K I1 L1 X B → (∀ J M, IM K J M X B → M 456 = L1 456 → J 436 0 = 0 → J 436 18 = nI t → J 436 19 = nI (en (xC X) (xr X) g t) → WEq (xC X) (xr X) (M 444) (M 445) (M 446) → W_X9_isDisputed (nI (cI (xC X) + g)) (nI t) (nI (en (xC X) (xr X) g t)) J M (fun (r2937 : Int32) => (r2937 = 0 → (¬ (M 437 4) = 20 → W_X9_records J M (fun (I2938 : TI) (L2939 : TL) => W_X9_sets ((L2939 437 4).toInt32) (0 : Int32) (nI (cI (xC X) + g)) I2938 L2939 (fun (L2940 : TL) => W_X9_sets ((L2939 437 4).toInt32) (1 : Int32) (I2938 436 18) I2938 L2940 (fun (L2941 : TL) => W_X9_sets ((L2939 437 4).toInt32) (2 : Int32) (I2938 436 19) I2938 L2941 (fun (L2942 : TL) => vp_in (nI (cI (xC X) + g)) 16 ∧ (W_X9_bit (L2942 444 ((nI (cI (xC X) + g)).toNatClampNeg)) (I2938 436 18) I2938 L2942 (fun (r2944 : Int32) => W_X9_sets ((L2939 437 4).toInt32) (3 : Int32) r2944 I2938 L2942 (fun (L2945 : TL) => W_X9_sets ((L2939 437 4).toInt32) (4 : Int32) p1 I2938 L2945 (fun (L2946 : TL) => (p4 = 0 → B_X9_open_146 ((L2939 437 4).toInt32) ((L2939 437 4).toInt32) (5 : Int32) (0 : Int32) I2938 L2946 Q) ∧ (¬ p4 = 0 → B_X9_open_146 ((L2939 437 4).toInt32) ((L2939 437 4).toInt32) (5 : Int32) (1 : Int32) I2938 L2946 Q)))))))))) ∧ ((M 437 4) = 20 → Q (-3) J M)) ∧ (¬ r2937 = 0 → Q (-2) J M))) → W_X9_open p1 (nI (cI (xC X) + g)) (nI i) p4 I1 L1 Q := by
        intro K I1 L1 Q hI1 kk
        unfold W_X9_open
        refine n_np1 hI1 hp (fun J M hJ e hW j0 j1 j2 => ⟨fun q => absurd rfl q, fun _ => ?_⟩)
        refine s_in (a := 0) (c := 2) rfl rfl rfl (by omega) (by omega) (by omega) (fun _ => s_fails1 ⟨fun _ => ?_, fun e => absurd rfl e⟩) (fun e => absurd hpr e)
        rw [j1, j2]
        exact kk J M hJ e j0 j1 j2 hW
      have go : B_X8_open_28 p1 (nI (cI (xC X) + g)) p4 (nI t) I L b d (fun (r3759 : Int32) (I3760 : TI) (L3761 : TL) => W_X9_open p1 (nI (cI (xC X) + g)) (nI i) p4 I3760 (up2 L3761 456 0 (r3759.toInt64)) (fun r J M => P 0 r J M)) (fun (e9 : String) (I8 : TI) (L8 : TL) => (e9 = "java/util/NoSuchElementException" ∧ W_X9_open p1 (nI (cI (xC X) + g)) (nI i) p4 I8 L8 (fun r J M => P 1 r J M)) ∨ (e9 = "java/lang/IllegalArgumentException" ∧ W_X9_open p1 (nI (cI (xC X) + g)) (nI i) p4 I8 L8 (fun r J M => P 2 r J M))) := by
        unfold B_X8_open_28
        refine s_runEnd h.bc h.C rfl hn rfl (by omega) ?_
        have wEn : nI (enN (shF (xC X) (xr X) (cI (xC X) + g)) (cH (xC X)) t) = nI (en (xC X) (xr X) g t) := rfl
        rw [wEn]
        have m20 : ∀ (M : TL), M 437 = xr X → ((M 437 4) = 20 ↔ un (xr X 4) = 20) := fun M hM => by
          rw [hM]
          conv => lhs; rw [un_e (xr X 4)]
          exact lN_eq (b := 20) (by omega) (by omega)
        refine c_hasPending h rfl rfl rfl (fun hy => ⟨fun z => absurd z (by decide), fun _ => ?_⟩) (fun hno => ⟨fun _ => ?_, fun z => absurd rfl z⟩)
        · refine mgo (fun J M => CI J M b d X) _ _ _ (IM.of h h.1 h.2.2 (fun _ _ => rfl) (fun _ _ => rfl)).out (fun J M hJ e j0 j1 j2 hW => ?_)
          refine n_isDisputed hJ rfl rfl rfl (fun _ => ⟨fun z => absurd z (by decide), fun _ => fin _ _ _ _ _ (fin0 ⟨hJ.1, hJ.2.1, hJ.k⟩ j0 (by rw [e, up2_s]))⟩) (fun z => absurd hy z)
        · rw [e7]
          refine pk_lt (un (xr X 4)) 20 (fun q => ?_) (fun q => ?_) rfl rfl (by omega) (by omega)
          · refine c_record h.1 h.2.2 (fun J M hJ hi hm hb => ?_)
            have b37 := (hb (b + 37) (by omega) (by omega)).2
            have b6 := (hb (b + 6) (by omega) (by omega)).1
            refine ⟨pk_in (un (xr X 4)) 20 q rfl, pk_in _ 16 o4 rfl, ?_⟩
            rw [pk_cl (cI (xC X) + g) rfl (by omega), pk_cl (un (xr X 4)) rfl (by omega), b37, (h.bc.2.2 _ hn).1, b6, e7, nI_1]
            refine s_bitOf rfl (by omega) (s_start h4 (fun J2 hs v0 v1 v2 v3 v4 v5 v6 v7 => ?_))
            -- the values of the new dispute
            have hJa : J2 (b + 6) 7 = nI (un (xr X 4) + 1) := by rw [hs (b + 6) (nin1 (by omega)), up2_s]
            have hJ8 : J2 (b + 6) 8 = J (b + 6) 8 := by rw [hs (b + 6) (nin1 (by omega)), up2_n (Or.inr (by decide))]
            have hJo : ∀ q2, q2 ≠ b + 6 → q2 ≠ b + 17 + un (xr X 4) → J2 q2 = J q2 := fun q2 y1 y2 => by rw [hs q2 (nin1 y2), up2_row y1]
            obtain ⟨v, hv⟩ : ∃ v, v = opV (nI (cI (xC X) + g)) (nI t) (nI (en (xC X) (xr X) g t)) (bi (bw (shF (xC X) (xr X) (cI (xC X) + g)) t)) p1 p4 := ⟨_, rfl⟩
            have hvf : ∀ f, f < 8 → J2 (b + 17 + un (xr X 4)) f = v f := fun f hf => by
              rw [hv]
              match f, hf with
              | 0, _ => exact v0
              | 1, _ => exact v1
              | 2, _ => exact v2
              | 3, _ => exact v3
              | 4, _ => exact v4
              | 5, _ => exact v5
              | 6, _ => exact v6
              | 7, _ => exact v7
            have w0 : v 0 = nI (cI (xC X) + g) := by rw [hv]; rfl
            have w1 : v 1 = nI t := by rw [hv]; rfl
            have w2 : v 2 = nI (en (xC X) (xr X) g t) := by rw [hv]; rfl
            have w3 : v 3 = bi (bw (shF (xC X) (xr X) (cI (xC X) + g)) t) := by rw [hv]; rfl
            have w4 : v 4 = p1 := by rw [hv]; rfl
            have w5 : v 5 = p4 := by rw [hv]; rfl
            have w6 : v 6 = 0 := by rw [hv]; rfl
            have w7 : v 7 = -1 := by rw [hv]; rfl
            have hnw : ∀ k2, k2 < 81 → k2 ≠ 4 → nwR (xr X) (un (xr X 4)) v k2 = xr X k2 := fun k2 y1 y2 => by
              unfold nwR
              rw [if_neg y2, if_neg (by omega)]
            have hnd : ∀ f, f < 8 → nwR (xr X) (un (xr X 4)) v (81 + 8 * un (xr X 4) + f) = (v f).toInt64 := fun f hf => by
              unfold nwR
              rw [if_neg (by omega), if_pos (by omega), Nat.add_sub_cancel_left]
            have hno2 : ∀ k2 f, k2 ≠ un (xr X 4) → f < 8 → nwR (xr X) (un (xr X 4)) v (81 + 8 * k2 + f) = xr X (81 + 8 * k2 + f) := fun k2 f y1 y2 => by
              unfold nwR
              rw [if_neg (by omega), if_neg (by omega)]
            have hn4 : nwR (xr X) (un (xr X 4)) v 4 = lN (un (xr X 4) + 1) := by
              unfold nwR
              rw [if_pos rfl]
              conv => lhs; rw [un_e (xr X 4)]
              exact lN_1 _
            have hu4 : un (nwR (xr X) (un (xr X 4)) v 4) = un (xr X 4) + 1 := by rw [hn4, un_lN (by omega)]
            have hr2 : RV (xC X) B (nwR (xr X) (un (xr X 4)) v) := by
              refine h.r.upd h.C (fun k2 y1 y2 => hnw k2 y2 (by omega)) (by rw [hnw 0 (by omega) (by omega)]; exact h.r.1) (fun p hp2 => by rw [hnw (1 + p) (by omega) (by omega)]; exact h.r.2.1 p hp2) (by rw [hu4]; omega) (fun k2 hk2 => ?_)
              rw [hu4] at hk2
              by_cases y : k2 = un (xr X 4)
              · subst y
                have f1 := hnd 1 (by omega)
                have f2 := hnd 2 (by omega)
                have f3 := hnd 3 (by omega)
                have f4 := hnd 4 (by omega)
                have f5 := hnd 5 (by omega)
                have f6 := hnd 6 (by omega)
                have f7 := hnd 7 (by omega)
                rw [show 81 + 8 * un (xr X 4) + 1 = 82 + 8 * un (xr X 4) by omega] at f1
                rw [show 81 + 8 * un (xr X 4) + 2 = 83 + 8 * un (xr X 4) by omega] at f2
                rw [show 81 + 8 * un (xr X 4) + 3 = 84 + 8 * un (xr X 4) by omega] at f3
                rw [show 81 + 8 * un (xr X 4) + 4 = 85 + 8 * un (xr X 4) by omega] at f4
                rw [show 81 + 8 * un (xr X 4) + 5 = 86 + 8 * un (xr X 4) by omega] at f5
                rw [show 81 + 8 * un (xr X 4) + 6 = 87 + 8 * un (xr X 4) by omega] at f6
                rw [show 81 + 8 * un (xr X 4) + 7 = 88 + 8 * un (xr X 4) by omega] at f7
                refine DPV.of (g := g) (a := t) (e := en (xC X) (xr X) g t) (v3 := bi (bw (shF (xC X) (xr X) (cI (xC X) + g)) t)) (v4 := p1) (v5 := p4) (v6 := 0) (v7 := -1) h.C hg (by omega) le.1 le.2 ((hnd 0 (by omega)).trans (congrArg Int32.toInt64 w0)) (f1.trans (congrArg Int32.toInt64 w1)) (f2.trans (congrArg Int32.toInt64 w2)) (f3.trans (congrArg Int32.toInt64 w3)) (f4.trans (congrArg Int32.toInt64 w4)) (f5.trans (congrArg Int32.toInt64 w5)) (f6.trans (congrArg Int32.toInt64 w6)) (f7.trans (congrArg Int32.toInt64 w7)) (bi_01 _) hpt h4 ⟨0, by omega, rfl⟩ (Or.inl ⟨rfl, by decide⟩)
              · exact (h.r.dp (show k2 < un (xr X 4) by omega)).same (fun f hf => hno2 k2 f y hf)
            have hS2 : SC J2 M (b + 6) (xC X) (nwR (xr X) (un (xr X 4)) v) := by
              have hS := hJ.2.1.2.1
              refine hS.upd h.C (fun k2 y1 y2 => hnw k2 y2 (by omega)) (fun q2 y1 y2 => hJo q2 (by omega) (by omega)) ?_ (fun p hp2 => ?_) ?_ (fun k2 hk2 f hf => ?_)
              · rw [hJ8, hnw 0 (by omega) (by omega)]
                exact hS.1
              · rw [hJo (b + 6 + 9) (by omega) (by omega), hnw (1 + p) (by omega) (by omega)]
                exact hS.2.1 p hp2
              · rw [hJa, hu4]
              · rw [hu4] at hk2
                by_cases y : k2 = un (xr X 4)
                · subst y
                  rw [hnd f hf, show b + 6 + 11 + un (xr X 4) = b + 17 + un (xr X 4) by omega, hvf f hf]
                · rw [hno2 k2 f y hf, hJo _ (by omega) (by omega)]
                  exact hS.2.2.2.2.2 k2 (show k2 < un (xr X 4) by omega) f hf
            have hC2 : CI J2 M b d (setr (recX X) (nwR (xr X) (un (xr X 4)) v)) := by
              refine hJ.bench (recX_V h.1) (fun q2 y1 y2 => hJo q2 (by omega) (by omega)) (fun _ _ _ => rfl) (hJ.2.1.st h.C (fun q2 y1 y2 => hnw q2 y2 (by omega)) hS2 (fun q2 y1 y2 y3 => ⟨hJo q2 (by omega) (by omega), rfl⟩))
            -- the reference
            have hV2 : XV (setr (recX X) (nwR (xr X) (un (xr X 4)) v)) B := setr_V (recX_V h.1) hr2
            have hIM := IM.of h hV2 hC2 (fun q2 hq2 => by rw [hJo q2 (by omega) (by omega), hi q2 hq2]) hm
            refine mgo _ _ _ _ hIM.out (fun J4 M4 hJ4 e j0 j1 j2 hW => ?_)
            refine n_isDisputed hJ4 rfl rfl rfl (fun z => absurd z hno) (fun _ => ⟨fun _ => ⟨fun _ => ?_, fun z => absurd ((m20 M4 hJ4.row).mp z) (by omega)⟩, fun z => absurd rfl z⟩)
            refine n_rec hJ4 (fun J5 M5 hJ5 z5 e5 hs5 hf5 => ?_)
            have r5 : M5 437 = xr X := hJ5.row
            have k5 : (M5 437 4).toInt32 = nI (un (xr X 4)) := by rw [r5]; exact un_i _
            rw [k5, hf5 18 (by decide), hf5 19 (by decide), j1, j2]
            refine s_sets rfl q (f := 0) rfl (by omega) (s_sets rfl q (f := 1) rfl (by omega) (s_sets rfl q (f := 2) rfl (by omega) ⟨pk_in _ 16 o4 rfl, ?_⟩))
            have e444 : ∀ (a1 a2 a3 : Nat) (x1 x2 x3 : Int64), (up2 (up2 (up2 M5 437 a1 x1) 437 a2 x2) 437 a3 x3) 444 (cI (xC X) + g) = shF (xC X) (xr X) (cI (xC X) + g) := fun a1 a2 a3 x1 x2 x3 => by
              rw [up2_row (by decide), up2_row (by decide), up2_row (by decide), hs5 444 (by decide)]
              exact (WEq.is hW h.C hn).1
            rw [pk_cl (cI (xC X) + g) rfl (by omega), e444]
            refine s_bit rfl (by omega) (s_sets rfl q (f := 3) rfl (by omega) (s_sets rfl q (f := 4) rfl (by omega) ?_))
            have last : ∀ c : Int32, c = p4 → B_X9_open_146 (nI (un (xr X 4))) (nI (un (xr X 4))) 5 c J5 (up2 (up2 (up2 (up2 (up2 M5 437 (81 + 8 * un (xr X 4) + 0) (nI (cI (xC X) + g)).toInt64) 437 (81 + 8 * un (xr X 4) + 1) (nI t).toInt64) 437 (81 + 8 * un (xr X 4) + 2) (nI (en (xC X) (xr X) g t)).toInt64) 437 (81 + 8 * un (xr X 4) + 3) (bi (bw (shF (xC X) (xr X) (cI (xC X) + g)) t)).toInt64) 437 (81 + 8 * un (xr X 4) + 4) p1.toInt64) (fun r J M => P 0 r J M) := by
              rintro c rfl
              unfold B_X9_open_146
              refine s_sets rfl q (f := 5) rfl (by omega) (s_sets rfl q (f := 6) rfl (by omega) (s_sets rfl q (f := 7) rfl (by omega) ?_))
              refine fin _ _ _ _ _ (fin0 (X := setr (recX X) (nwR (xr X) (un (xr X 4)) v)) (n_end hJ5 hV2 ?_ (fun q2 y1 y2 y3 y4 y5 => ?_)) (by rw [z5, j0]) ?_)
              · funext i2
                rw [upR_row]
                by_cases y : i2 = 4
                · subst y
                  rw [upR_s, upR_row, upR_n (by omega), upR_row, upR_n (by omega), upR_row, upR_n (by omega), upR_row, upR_n (by omega), upR_row, upR_n (by omega), upR_row, upR_n (by omega), upR_row, upR_n (by omega), upR_row, upR_n (by omega), r5]
                  unfold nwR
                  rw [if_pos rfl]
                · rw [upR_n y, upR_row, upR_row, upR_row, upR_row, upR_row, upR_row, upR_row, upR_row, r5, row8]
                  unfold nwR
                  rw [if_neg y]
                  by_cases y2 : 81 + 8 * un (xr X 4) ≤ i2 ∧ i2 < 89 + 8 * un (xr X 4)
                  · rw [if_pos y2, if_pos y2, hv]
                    obtain ⟨f, hf, rfl⟩ : ∃ f, f < 8 ∧ i2 = 81 + 8 * un (xr X 4) + f := ⟨i2 - (81 + 8 * un (xr X 4)), by omega, by omega⟩
                    rw [Nat.add_sub_cancel_left]
                    match f, hf with
                    | 0, _ => rfl
                    | 1, _ => rfl
                    | 2, _ => rfl
                    | 3, _ => rfl
                    | 4, _ => rfl
                    | 5, _ => rfl
                    | 6, _ => rfl
                    | 7, _ => rfl
                  · rw [if_neg y2, if_neg y2]
              · rw [up2_row y1, up2_row y1, up2_row y1, up2_row y1, up2_row y1, up2_row y1, up2_row y1, up2_row y1, up2_row y1]
              · rw [up2_row (by decide), up2_row (by decide), up2_row (by decide), up2_row (by decide), up2_row (by decide), up2_row (by decide), up2_row (by decide), up2_row (by decide), up2_row (by decide), e5, e, up2_s]
            refine ⟨fun z => last 0 z.symm, fun z => last 1 ?_⟩
            rcases h4 with y | y
            · exact absurd y z
            · exact y.symm
          · refine mgo (fun J M => CI J M b d X) _ _ _ (IM.of h h.1 h.2.2 (fun _ _ => rfl) (fun _ _ => rfl)).out (fun J M hJ e j0 j1 j2 hW => ?_)
            refine n_isDisputed hJ rfl rfl rfl (fun z => absurd z hno) (fun _ => ⟨fun _ => ⟨fun z => absurd ((m20 M hJ.row).mpr (by omega)) z, fun _ => fin _ _ _ _ _ (fin0 ⟨hJ.1, hJ.2.1, hJ.k⟩ j0 (by rw [e, up2_s]))⟩, fun z => absurd rfl z⟩)
      refine ⟨fun _ => go, fun e => ⟨fun _ => go, fun e2 => ?_⟩⟩
      rcases hpt with q | q
      · exact absurd q e
      · exact absurd q e2
    · have hpr : ¬ rg p1 0 2 := by
        rintro ⟨n, _, n2, rfl⟩
        apply hpt
        match n, n2 with
        | 0, _ => exact Or.inl rfl
        | 1, _ => exact Or.inr rfl
      refine ⟨fun e => absurd (Or.inl e) hpt, fun _ => ⟨fun e => absurd (Or.inr e) hpt, fun _ => Or.inr ⟨rfl, ?_⟩⟩⟩
      unfold W_X9_open
      refine m_np1 h hp (fun J M hJ e hW j0 j1 j2 => ⟨fun q => absurd rfl q, fun _ => ?_⟩)
      refine s_in (a := 0) (c := 2) rfl rfl rfl (by omega) (by omega) (by omega) (fun e => absurd e hpr) (fun _ => s_fails0 ⟨fun e => absurd e (by decide), fun _ => ?_⟩)
      exact fin _ _ _ _ _ (fin1 hJ.thr up2_s (by decide))
  · refine c_rp0 h hp (Or.inl ⟨rfl, ?_⟩)
    unfold W_X9_open
    exact m_np0 h hp (fun J M hJ j0 => ⟨fun _ => fin _ _ _ _ _ (fin1 hJ j0 (by decide)), fun q => absurd q (by decide)⟩)
end OPEN2
