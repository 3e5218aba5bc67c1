/-! format, formattedByte -/
section FORMAT
variable {I J : TI} {L M : TL} {b d B : Nat} {X : XT}
theorem op_format {p1 p2 : Int32} {P : Int32 → Int32 → TI → TL → Prop} (h : INV I L b d X B) (fin : ∀ k r J M X2, OKL k r.toInt64 J M b d X2 B → P k r J M) : W_L_format p1 p2 I L b d (fun k I1 L1 => W_X9_format p1 p2 I1 L1 (fun r J M => P k r J M)) := by
  have nb := h.nb
  have hbl := bn_lt h.2.2.1.1
  unfold W_L_format W_X8_format
  by_cases hw : rg p1 0 (cI (xC X) + cG (xC X)) ∧ rg p2 0 3
  · obtain ⟨⟨n, -, hn, rfl⟩, ⟨m, -, hm, rfl⟩⟩ := hw
    refine c_wave1 h rfl rfl hn hm ?_
    have e6 : I (b + 1) 6 = nI (cH (xC X)) := h.bc.1.2.2.1
    rw [e6, nI_1]
    have f8 : (up2 I 0 8 (nI (cH (xC X) + 1))) 0 8 = nI (cH (xC X) + 1) := up2_s
    have fo : ∀ f, f ≠ 8 → (up2 I 0 8 (nI (cH (xC X) + 1))) 0 f = I 0 f := fun f hf => up2_n (Or.inr hf)
    have fr : ∀ q, q ≠ 0 → q ≠ 351 → (up2 I 0 8 (nI (cH (xC X) + 1))) q = I q := fun q hq _ => up2_row hq
    generalize up2 I 0 8 (nI (cH (xC X) + 1)) = i0 at f8 fo fr
    refine lp2 (fun z v i => L_X8_format_26 (nI n) (nI m) (wvF (xC X) (xr X) m n) L b d _ _ z v i) (fun v i => ∃ j, j ≤ cH (xC X) + 1 ∧ v = nI j ∧ i 0 8 = nI (cH (xC X) + 1) ∧ (∀ f, f ≠ 8 → i 0 f = I 0 f) ∧ (∀ q, q ≠ 0 → q ≠ 351 → i q = I q) ∧ ∀ t, t < j → i 351 t = cvb (sgF (xC X) (xr X) n m t)) (fun v _ => cH (xC X) + 1 - v.toNatClampNeg) ?_ _ _ ⟨0, Nat.zero_le _, rfl, f8, fo, fr, fun t ht => absurd ht (Nat.not_lt_zero _)⟩
    clear f8 fo fr i0
    rintro z v i ⟨j, j0, rfl, f8, fo, fr, ft⟩ ih
    refine pk_le (cH (xC X) + 1) j (fun q => ?_) (fun q => ?_) f8 rfl (by omega) (by omega)
    · have ej : j = cH (xC X) + 1 := by omega
      subst ej
      clear ih
      rw [f8]
      have hcl := h.2.2
      obtain ⟨-, -, -, -, ⟨c7, c8⟩, c9, -⟩ := hcl
      have hC2 : CI i L b d (ioX X (xf X, xb X) (xe X) (cH (xC X) + 1, fun t => cvb (sgF (xC X) (xr X) n m t))) := h.2.2.io h.1 (fun q2 y1 y2 y3 => fr q2 y2 (by omega)) (fun _ _ => rfl) (by rw [fo 7 (by decide)]; exact c7) (fun i2 hi2 => by rw [fr 350 (by decide) (by decide)]; exact c8 i2 hi2) (by rw [fo 9 (by decide)]; exact c9) f8 ft
      have hV2 : XV (ioX X (xf X, xb X) (xe X) (cH (xC X) + 1, fun t => cvb (sgF (xC X) (xr X) n m t))) B := ioX_V h.1 h.1.2.2.2.2.1 (show cH (xC X) + 1 ≤ 61 by omega)
      have hIM := (IM.of h hV2 hC2 (fun q2 hq2 => fr q2 (by omega) (by omega)) (fun _ _ => rfl)).out (x := (nI (cH (xC X) + 1)).toInt64)
      unfold W_X9_format
      refine n_noWave1 hIM rfl rfl hn hm (fun M2 hM2 e hW => ⟨fun _ => ?_, fun e => absurd rfl e⟩)
      have e7 : (up2 i 436 0 0) 436 7 = nI (cH (xC X)) := hM2.mc.2.2.1
      rw [e7, nI_1]
      have g36 : (up2 (up2 i 436 0 0) 436 36 (nI (cH (xC X) + 1))) 436 36 = nI (cH (xC X) + 1) := up2_s
      have go : ∀ f, f ≠ 36 → (up2 (up2 i 436 0 0) 436 36 (nI (cH (xC X) + 1))) 436 f = (up2 i 436 0 0) 436 f := fun f hf => up2_n (Or.inr hf)
      have gr : ∀ q, q ≠ 436 → q ≠ 452 → (up2 (up2 i 436 0 0) 436 36 (nI (cH (xC X) + 1))) q = (up2 i 436 0 0) q := fun q hq _ => up2_row hq
      have z0 : (up2 i 436 0 0) 436 0 = 0 := up2_s
      generalize up2 (up2 i 436 0 0) 436 36 (nI (cH (xC X) + 1)) = k0 at g36 go gr
      generalize up2 i 436 0 0 = i1 at hM2 e7 go gr z0
      refine lp2 (fun z v k => L_X9_format_23 (nI n) (nI m) M2 _ z v k) (fun v k => ∃ j, j ≤ cH (xC X) + 1 ∧ v = nI j ∧ k 436 36 = nI (cH (xC X) + 1) ∧ (∀ f, f ≠ 36 → k 436 f = i1 436 f) ∧ (∀ q, q ≠ 436 → q ≠ 452 → k q = i1 q) ∧ ∀ t, t < j → k 452 t = cvb (sgF (xC X) (xr X) n m t)) (fun v _ => cH (xC X) + 1 - v.toNatClampNeg) ?_ _ _ ⟨0, Nat.zero_le _, rfl, g36, go, gr, fun t ht => absurd ht (Nat.not_lt_zero _)⟩
      clear g36 go gr k0
      rintro z v k ⟨j, j0, rfl, g36, go, gr, gt⟩ ih
      have mck : MC k (xC X) := by
        have := hM2.mc
        unfold MC at *
        rw [go 10 (by decide), go 11 (by decide), go 7 (by decide), go 8 (by decide), go 9 (by decide), gr 441 (by decide) (by decide), gr 442 (by decide) (by decide), gr 443 (by decide) (by decide)]
        exact this
      refine pk_lt (cH (xC X)) j (fun q => ?_) (fun q => ?_) mck.2.2.1 rfl (by omega) (by omega)
      · have ej : j = cH (xC X) + 1 := by omega
        subst ej
        rw [g36]
        have hmi := hM2.2.1
        obtain ⟨-, -, -, -, ⟨m7, m8⟩, m9, -⟩ := hmi
        refine fin _ _ _ _ (ioX X (xf X, xb X) (xe X) (cH (xC X) + 1, fun t => cvb (sgF (xC X) (xr X) n m t))) (fin0 ⟨hV2, ?_, ?_⟩ ?_ ?_)
        · exact hM2.2.1.io ⟨gr 441 (by decide) (by decide), gr 442 (by decide) (by decide), gr 443 (by decide) (by decide)⟩ (fun j2 y1 y2 => go j2 (by omega)) ⟨rfl, rfl, rfl⟩ (by rw [go 22 (by decide)]; exact m7) (fun i2 hi2 => by rw [gr 447 (by decide) (by decide)]; exact m8 i2 hi2) (by rw [go 30 (by decide)]; exact m9) g36 gt
        · exact hM2.2.2 k M2 (fun q2 hq2 => gr q2 (by omega) (by omega)) (fun _ _ => rfl)
        · rw [go 0 (by decide), z0]
        · rw [e, up2_s]
      · refine s_signOf mck h.C hM2.row hW rfl rfl rfl hn hm (by omega) ?_
        rw [pk_cl j rfl (by omega)]
        refine ⟨pk_in j 61 (by omega) rfl, ?_⟩
        rintro _ rfl
        refine ih _ _ ⟨j + 1, by omega, nI_1 j, by rw [up2_row (by decide)]; exact g36, fun f hf => by rw [up2_row (by decide)]; exact go f hf, fun q2 y1 y2 => by rw [up2_row y2]; exact gr q2 y1 y2, fun t ht => ?_⟩ (by rw [nI_1, nI_clamp (by omega), nI_clamp (by omega)]; omega)
        rw [up2_at]
        by_cases y : t = j
        · rw [if_pos y, y]
          rfl
        · rw [if_neg y]
          exact gt t (by omega)
    · have hlt : ∀ Q : Prop, Q → (nI 61 ≤ nI j → False) ∧ Q := fun Q k => ⟨fun e => lt_le_f (nI_lt (show j < 61 by omega) (by omega)) e, k⟩
      have hSC : SC i L (b + 6) (xC X) (xr X) := h.bc.2.1.fr h.r.2.2.1 (fun k a c => fr k (by omega) (by omega)) (fun _ _ _ => rfl)
      have fin66 : ∀ s0 : Int32, (if s0 = 1 then (if bw (wvF (xC X) (xr X) m n) j = true then (104 : Int32) else 108) else if s0 = 2 then (if bw (wvF (xC X) (xr X) m n) j = true then 72 else 76) else (if bw (wvF (xC X) (xr X) m n) j = true then 49 else 48)) = sgF (xC X) (xr X) n m j → B_X8_format_66 (nI n) (nI m) (wvF (xC X) (xr X) m n) (nI j) s0 i L b d (fun (r3812 : Int32) (I3813 : TI) => W_X9_format (nI n) (nI m) I3813 (up2 L 456 0 (r3812.toInt64)) (fun r J M => P 0 r J M)) (fun (e9 : String) (I8 : TI) => (e9 = "java/util/NoSuchElementException" ∧ W_X9_format (nI n) (nI m) I8 L (fun r J M => P 1 r J M))) (fun v5 I => L_X8_format_26 (nI n) (nI m) (wvF (xC X) (xr X) m n) L b d (fun (r3812 : Int32) (I3813 : TI) => W_X9_format (nI n) (nI m) I3813 (up2 L 456 0 (r3812.toInt64)) (fun r J M => P 0 r J M)) (fun (e9 : String) (I8 : TI) => (e9 = "java/util/NoSuchElementException" ∧ W_X9_format (nI n) (nI m) I8 L (fun r J M => P 1 r J M))) z v5 I) := by
        intro s0 hs
        unfold B_X8_format_66
        refine s_bitOf rfl (by omega) (s_letter rfl ?_)
        rw [hs, pk_cl j rfl (by omega)]
        refine ⟨pk_in j 61 (by omega) rfl, ?_⟩
        rintro _ rfl
        refine ih _ _ ⟨j + 1, by omega, nI_1 j, by rw [up2_row (by decide)]; exact f8, fun f hf => by rw [up2_row (by decide)]; exact fo f hf, fun q2 y1 y2 => by rw [up2_row y2]; exact fr q2 y1 y2, fun t ht => ?_⟩ (by rw [nI_1, nI_clamp (by omega), nI_clamp (by omega)]; omega)
        rw [up2_at]
        by_cases y : t = j
        · rw [if_pos y, y]
          rfl
        · rw [if_neg y]
          exact ft t (by omega)
      refine ⟨fun e => (((hlt True trivial).1 e).elim), fun _ => ⟨fun e => fin66 0 ?_, fun e => s_timeState hSC h.C rfl hn rfl (by omega) (fin66 _ ?_)⟩⟩
      · have hm0 : m ≠ 0 := fun z2 => e (by rw [z2]; rfl)
        unfold sgF
        rw [if_neg (by decide), if_neg (by decide), if_neg hm0]
      · have hm0 : m = 0 := (nI_eq (b := 0) (by omega) (by omega)).mp e
        unfold sgF
        rw [if_pos hm0]
  · refine c_wave0 h hw ⟨rfl, ?_⟩
    unfold W_X9_format
    exact m_noWave0 h hw ⟨fun e => absurd e (by decide), fun _ => fin _ _ _ _ _ (fin1 h.thr up2_s (by decide))⟩
theorem op_formattedByte {p1 : Int32} {P : Int32 → Int32 → TI → TL → Prop} (h : INV I L b d X B) (fin : ∀ r J M, INV J M b d X B → P r r J M) : W_X8_formattedByte p1 I L (fun r => W_X9_formattedByte p1 I L (fun r2 J => P r r2 J L)) := by
  have hl := h.1.2.2.2.2.2
  obtain ⟨c8, c9⟩ := h.2.2.2.2.2.2.2.2
  obtain ⟨m8, m9⟩ := h.2.1.2.2.2.2.2.2
  have e36 : (up2 I 436 0 0) 436 36 = nI (xl X) := by rw [up2_n (Or.inr (by decide)), m8]
  have ref0 : ¬ rg p1 0 (xl X) → W_X9_formattedByte p1 I L (fun r2 J => P (-1) r2 J L) := by
    intro hn
    unfold W_X9_formattedByte
    rw [e36]
    by_cases q : xl X = 0
    · unfold W_X9_in
      rw [q, show (nI 0 - 1).toInt64 = (-1 : Int32).toInt64 from rfl, show (0 : Int64) = (0 : Int32).toInt64 from rfl, wide_lt, wide_lt]
      refine ⟨fun _ => ⟨fun _ => fin _ _ _ h.thr, fun e => absurd rfl e⟩, fun e2 => ⟨fun _ => ⟨fun _ => fin _ _ _ h.thr, fun e => absurd rfl e⟩, fun e3 => ?_⟩⟩
      rw [lt_nle, Int32.le_iff_toInt_le] at e2 e3
      rw [show (0 : Int32).toInt = 0 from rfl] at e2
      rw [show (-1 : Int32).toInt = -1 from rfl] at e3
      omega
    · refine s_in (a := 0) (c := xl X) rfl rfl (by rw [show nI (xl X) - 1 = nI (xl X - 1) by rw [show (1 : Int32) = nI 1 from rfl, pk_sub (by omega)]]) (by omega) (by omega) (by omega) (fun e => absurd e hn) (fun _ => ⟨fun _ => fin _ _ _ h.thr, fun e => absurd rfl e⟩)
  unfold W_X8_formattedByte
  rw [c8]
  have key := rg_iff (x := p1) (a := 0) (c := xl X) (by omega) (by omega)
  by_cases hn : rg p1 0 (xl X)
  · have k2 := key.mp hn
    obtain ⟨n, -, hn, rfl⟩ := hn
    refine ⟨fun e => absurd e (nI_pos (by omega)), fun _ => ⟨fun e => (lt_le_f k2.2 e).elim, fun _ => ⟨fun _ => ?_, fun e => absurd (nI_lt (show n < 61 by omega) (by omega)) e⟩⟩⟩
    rw [pk_cl n rfl (by omega), c9 n hn]
    refine ⟨pk_in n 61 (by omega) rfl, ?_⟩
    unfold W_X9_formattedByte
    rw [e36]
    refine s_in (a := 0) (c := xl X) rfl rfl (by rw [show nI (xl X) - 1 = nI (xl X - 1) by rw [show (1 : Int32) = nI 1 from rfl, pk_sub (by omega)]]) (by omega) (by omega) (by omega) (fun _ => ⟨fun e => absurd e (by decide), fun _ => ?_⟩) (fun e => absurd (rgi (Nat.zero_le _) hn) e)
    rw [pk_cl n rfl (by omega), up2_row (by decide), m9 n hn]
    exact ⟨pk_in n 61 (by omega) rfl, fin _ _ _ h.thr⟩
  · refine ⟨fun _ => ref0 hn, fun a1 => ⟨fun _ => ref0 hn, fun a2 => absurd (key.mpr ⟨lt_nle.mp a1, le_nlt.mp a2⟩) hn⟩⟩
end FORMAT
