def D_J7_fill_53178_5 (p0 : Nat) (v1 : Int32) (v3 : Int32) (L : TL) (Q : TI → Prop) (R5 : Int32 → TI → Prop) (v2 : Int32) (I : TI) : Prop :=
  (v3 ≤ v2 → Q I) ∧ (¬ v3 ≤ v2 → vp_in v2 (LEN p0) ∧ (R5 (v2 + 1) (up2 I p0 (v2.toNatClampNeg) v1)))
def L_J7_fill_53178_5 (p0 : Nat) (v1 : Int32) (v3 : Int32) (L : TL) (Q : TI → Prop) : Nat → Int32 → TI → Prop
  | 0, _, _ => False
  | n9 + 1, v2, I => D_J7_fill_53178_5 p0 v1 v3 L Q (fun v2 I => L_J7_fill_53178_5 p0 v1 v3 L Q n9 v2 I) v2 I
def W_J7_fill_53178 (p0 : Nat) (p1 : Int32) (I : TI) (L : TL) (Q : TI → Prop) : Prop :=
  ∃ n4, L_J7_fill_53178_5 p0 p1 (nI (LEN p0)) L Q n4 (0 : Int32) I
def W_X2_clear (p0 : Nat) (I : TI) (L : TL) (Q : TI → Prop) : Prop :=
  W_J7_fill_53178 (p0 + 4) (0 : Int32) (up2 (up2 I p0 4 0) p0 5 0) L (fun (I6 : TI) => Q I6)
def W_X6_forget (p0 : Nat) (p1 : Int32) (I : TI) (L : TL) (Q : TL → Prop) : Prop :=
  vp_in p1 16 ∧ (vp_in p1 16 ∧ (∀ L12 : TL, L12 = (up2 (up2 L (p0 + 6) (p1.toNatClampNeg) 0) (p0 + 7) (p1.toNatClampNeg) 0) → (vp_in p1 16 ∧ (Q (up2 L12 (p0 + 8) (p1.toNatClampNeg) 0)))))
def D_X6_clear_2 (p0 : Nat) (I : TI) (Q : TI → TL → Prop) (R2 : Int32 → TL → Prop) (v1 : Int32) (L : TL) : Prop :=
  (16 ≤ v1 → W_J7_fill_53178 (p0 + 9) (0 : Int32) I L (fun (I18 : TI) => Q (up2 I18 p0 7 0) L)) ∧ (¬ 16 ≤ v1 → W_X6_forget p0 v1 I L (fun (L19 : TL) => R2 (v1 + 1) L19))
def L_X6_clear_2 (p0 : Nat) (I : TI) (Q : TI → TL → Prop) : Nat → Int32 → TL → Prop
  | 0, _, _ => False
  | n9 + 1, v1, L => D_X6_clear_2 p0 I Q (fun v1 L => L_X6_clear_2 p0 I Q n9 v1 L) v1 L
def W_X6_clear (p0 : Nat) (I : TI) (L : TL) (Q : TI → TL → Prop) : Prop :=
  ∃ n20, L_X6_clear_2 p0 I Q n20 (0 : Int32) L
def W_X0_clear (p0 : Nat) (I : TI) (L : TL) (Q : TI → TL → Prop) : Prop :=
  W_X2_clear (p0 + 1) I L (fun (I24 : TI) => W_X6_clear (p0 + 6) I24 L (fun (I25 : TI) (L26 : TL) => Q I25 L26))
def W_X2_nets (p0 : Nat) (I : TI) (L : TL) (Q : Int32 → Prop) : Prop :=
  Q ((I p0 4) + (I p0 5))
def W_X8_window (p0 : Int32) (p1 : Int32) (I : TI) (L : TL) (Q : Int64 → Prop) : Prop :=
  Q ((shlL (2 : Int64) p1) - (shlL (1 : Int64) p0))
def B_X2_idealOf_31 (p0 : Nat) (p2 : Nat) (v1 : Int32) (v3 : Int64) (s0 : Int64) (I : TI) (L : TL) (Q : Int64 → Prop) : Prop :=
  W_X8_window (0 : Int32) (I p0 6) I L (fun (r41 : Int64) => vp_in v1 16 ∧ (((I (p0 + 1) (v1.toNatClampNeg)) = 0 → Q (v3 &&& s0)) ∧ ((I (p0 + 1) (v1.toNatClampNeg)) = 1 → Q (v3 ||| s0)) ∧ ((I (p0 + 1) (v1.toNatClampNeg)) = 2 → Q (v3 ^^^ s0)) ∧ ((I (p0 + 1) (v1.toNatClampNeg)) = 3 → Q (r41 &&& ((v3 &&& s0) ^^^ (-1)))) ∧ ((I (p0 + 1) (v1.toNatClampNeg)) = 4 → Q (r41 &&& ((v3 ||| s0) ^^^ (-1)))) ∧ ((I (p0 + 1) (v1.toNatClampNeg)) = 5 → Q (r41 &&& (v3 ^^^ (-1)))) ∧ ((I (p0 + 1) (v1.toNatClampNeg)) < 0 ∨ 5 < (I (p0 + 1) (v1.toNatClampNeg)) → Q v3)))
def W_X2_idealOf (p0 : Nat) (p2 : Nat) (p1 : Int32) (I : TI) (L : TL) (Q : Int64 → Prop) : Prop :=
  vp_in p1 16 ∧ (vp_in (I (p0 + 2) (p1.toNatClampNeg)) 16 ∧ (∀ x45 : Int64, x45 = (L p2 ((I (p0 + 2) (p1.toNatClampNeg)).toNatClampNeg)) → (vp_in p1 16 ∧ ((¬ (I (p0 + 3) (p1.toNatClampNeg)) = (-1) → vp_in p1 16 ∧ (vp_in (I (p0 + 3) (p1.toNatClampNeg)) 16 ∧ (B_X2_idealOf_31 p0 p2 p1 x45 (L p2 ((I (p0 + 3) (p1.toNatClampNeg)).toNatClampNeg)) I L Q))) ∧ ((I (p0 + 3) (p1.toNatClampNeg)) = (-1) → B_X2_idealOf_31 p0 p2 p1 x45 x45 I L Q)))))
def W_X8_bitOf (p0 : Int64) (p2 : Int32) (I : TI) (L : TL) (Q : Int32 → Prop) : Prop :=
  Q (((ushL p0 p2) &&& 1).toInt32)
def B_X0_lateWave_43 (p0 : Nat) (p2 : Nat) (v3 : Int64) (v5 : Int32) (s0 : Int64) (I : TI) (L : TL) (Q : Int64 → Prop) : Prop :=
  W_X8_window (0 : Int32) (I (p0 + 1) 6) I L (fun (r59 : Int64) => Q (((shlL v3 v5) ||| s0) &&& r59))
def W_X0_lateWave (p0 : Nat) (p2 : Nat) (p1 : Int32) (I : TI) (L : TL) (Q : Int64 → Prop) : Prop :=
  W_X2_idealOf (p0 + 1) p2 p1 I L (fun (r60 : Int64) => vp_in p1 16 ∧ (∀ x62 : Int32, x62 = (I (p0 + 10) (p1.toNatClampNeg)) → (W_X8_bitOf r60 (0 : Int32) I L (fun (r63 : Int32) => (¬ r63 = 0 → W_X8_window (0 : Int32) (x62 - 1) I L (fun (r64 : Int64) => B_X0_lateWave_43 p0 p2 r60 x62 r64 I L Q)) ∧ (r63 = 0 → B_X0_lateWave_43 p0 p2 r60 x62 (0 : Int64) I L Q)))))
def W_X0_swing (p0 : Nat) (p1 : Int32) (p2 : Int32) (I : TI) (L : TL) (Q : Int32 → Prop) : Prop :=
  (¬ p2 = 1 → vp_in p1 16 ∧ (Q (I (p0 + 9) (p1.toNatClampNeg)))) ∧ (p2 = 1 → vp_in p1 16 ∧ (Q (I (p0 + 8) (p1.toNatClampNeg))))
def B_X0_dearWave_87 (p0 : Nat) (v1 : Int32) (v2 : Int64) (v4 : Int64) (v6 : Int32) (v7 : Int32) (v8 : Int32) (I : TI) (L : TL) (Q : Int64 → Prop) (R31 : Int64 → Int32 → Int32 → Int32 → Prop) : Prop :=
  ∀ x83 : Int64, x83 = (v4 ||| (shlL (v6.toInt64) v8)) → (R31 x83 v6 v7 (v8 + 1))
def B_X0_dearWave_68 (p0 : Nat) (v1 : Int32) (v2 : Int64) (v4 : Int64) (v6 : Int32) (v7 : Int32) (v8 : Int32) (v9 : Int32) (I : TI) (L : TL) (Q : Int64 → Prop) (R31 : Int64 → Int32 → Int32 → Int32 → Prop) : Prop :=
  W_X0_swing p0 v1 v9 I L (fun (r84 : Int32) => ((v8 - r84) < v7 → B_X0_dearWave_87 p0 v1 v2 v4 v6 v7 v8 I L Q R31) ∧ (¬ (v8 - r84) < v7 → B_X0_dearWave_87 p0 v1 v2 v4 v9 v7 v8 I L Q R31))
def D_X0_dearWave_31 (p0 : Nat) (v1 : Int32) (v2 : Int64) (I : TI) (L : TL) (Q : Int64 → Prop) (R31 : Int64 → Int32 → Int32 → Int32 → Prop) (v4 : Int64) (v6 : Int32) (v7 : Int32) (v8 : Int32) : Prop :=
  ((I (p0 + 1) 6) < v8 → Q v4) ∧ (¬ (I (p0 + 1) 6) < v8 → W_X8_bitOf v2 v8 I L (fun (r85 : Int32) => W_X8_bitOf v2 (v8 - 1) I L (fun (r86 : Int32) => (r85 = r86 → B_X0_dearWave_68 p0 v1 v2 v4 v6 v7 v8 r85 I L Q R31) ∧ (¬ r85 = r86 → B_X0_dearWave_68 p0 v1 v2 v4 v6 v8 v8 r85 I L Q R31))))
def L_X0_dearWave_31 (p0 : Nat) (v1 : Int32) (v2 : Int64) (I : TI) (L : TL) (Q : Int64 → Prop) : Nat → Int64 → Int32 → Int32 → Int32 → Prop
  | 0, _, _, _, _ => False
  | n9 + 1, v4, v6, v7, v8 => D_X0_dearWave_31 p0 v1 v2 I L Q (fun v4 v6 v7 v8 => L_X0_dearWave_31 p0 v1 v2 I L Q n9 v4 v6 v7 v8) v4 v6 v7 v8
def W_X0_dearWave (p0 : Nat) (p1 : Int32) (I : TI) (L : TL) (Q : Int64 → Prop) : Prop :=
  W_X2_idealOf (p0 + 1) (p0 + 39) p1 I L (fun (r87 : Int64) => W_X8_bitOf r87 (0 : Int32) I L (fun (r88 : Int32) => ∃ n89, L_X0_dearWave_31 p0 p1 r87 I L Q n89 (r87 &&& 1) r88 (0 : Int32) (1 : Int32)))
def B_X0_longestPath_39 (p0 : Nat) (v1 : Int32) (s0 : Int32) (s1 : Int32) (I : TI) (L : TL) (Q : Int32 → Prop) : Prop :=
  W_X0_swing p0 v1 (0 : Int32) I L (fun (r102 : Int32) => W_X0_swing p0 v1 (1 : Int32) I L (fun (r103 : Int32) => Q ((mxI s0 s1) + (mxI r102 r103))))
def W_X0_longestPath (p0 : Nat) (p1 : Int32) (I : TI) (L : TL) (Q : Int32 → Prop) : Prop :=
  vp_in p1 16 ∧ (∀ x105 : Int32, x105 = (I (p0 + 4) (p1.toNatClampNeg)) → (vp_in p1 16 ∧ (vp_in (I (p0 + 3) (p1.toNatClampNeg)) 16 ∧ ((¬ x105 = (-1) → vp_in x105 16 ∧ (B_X0_longestPath_39 p0 p1 (I (p0 + 41) ((I (p0 + 3) (p1.toNatClampNeg)).toNatClampNeg)) (I (p0 + 41) (x105.toNatClampNeg)) I L Q)) ∧ (x105 = (-1) → B_X0_longestPath_39 p0 p1 (I (p0 + 41) ((I (p0 + 3) (p1.toNatClampNeg)).toNatClampNeg)) (0 : Int32) I L Q)))))
def B_X0_showInto_99 (p0 : Nat) (p1 : Nat) (v2 : Int32) (v3 : Int64) (v5 : Int32) (v6 : Int64) (s0 : Int64) (I : TI) (L : TL) (Q : TL → Prop) (R44 : Int32 → TL → Prop) : Prop :=
  W_X0_lateWave p0 p1 v5 I L (fun (r127 : Int64) => vp_in v5 16 ∧ (∀ x129 : Int64, x129 = ((r127 &&& (v6 ^^^ (-1))) ||| (L (p0 + 14) (v5.toNatClampNeg))) → (vp_in v5 16 ∧ (vp_in v5 16 ∧ (∀ L132 : TL, L132 = (up2 L p1 (v5.toNatClampNeg) ((x129 &&& (s0 ^^^ (-1))) ||| ((L (p0 + 39) (v5.toNatClampNeg)) &&& s0))) → (R44 (v5 + 1) L132))))))
def D_X0_showInto_44 (p0 : Nat) (p1 : Nat) (v2 : Int32) (v3 : Int64) (I : TI) (Q : TL → Prop) (R44 : Int32 → TL → Prop) (v5 : Int32) (L : TL) : Prop :=
  W_X2_nets (p0 + 1) I L (fun (r133 : Int32) => (r133 ≤ v5 → Q L) ∧ (¬ r133 ≤ v5 → vp_in v5 16 ∧ (∀ x135 : Int64, x135 = (L (p0 + 13) (v5.toNatClampNeg)) → ((¬ v5 = v2 → vp_in v5 16 ∧ (B_X0_showInto_99 p0 p1 v2 v3 v5 x135 (L (p0 + 12) (v5.toNatClampNeg)) I L Q R44)) ∧ (v5 = v2 → vp_in v5 16 ∧ (B_X0_showInto_99 p0 p1 v2 v3 v5 x135 ((L (p0 + 12) (v5.toNatClampNeg)) ||| v3) I L Q R44))))))
def L_X0_showInto_44 (p0 : Nat) (p1 : Nat) (v2 : Int32) (v3 : Int64) (I : TI) (Q : TL → Prop) : Nat → Int32 → TL → Prop
  | 0, _, _ => False
  | n9 + 1, v5, L => D_X0_showInto_44 p0 p1 v2 v3 I Q (fun v5 L => L_X0_showInto_44 p0 p1 v2 v3 I Q n9 v5 L) v5 L
def D_X0_showInto_3 (p0 : Nat) (p1 : Nat) (v2 : Int32) (v3 : Int64) (I : TI) (Q : TL → Prop) (R3 : Int32 → TL → Prop) (v5 : Int32) (L : TL) : Prop :=
  ((I (p0 + 1) 4) ≤ v5 → ∃ n138, L_X0_showInto_44 p0 p1 v2 v3 I Q n138 (I (p0 + 1) 4) L) ∧ (¬ (I (p0 + 1) 4) ≤ v5 → vp_in v5 4 ∧ (vp_in v5 16 ∧ (∀ L141 : TL, L141 = (up2 L p1 (v5.toNatClampNeg) (L (p0 + 11) (v5.toNatClampNeg))) → (R3 (v5 + 1) L141))))
def L_X0_showInto_3 (p0 : Nat) (p1 : Nat) (v2 : Int32) (v3 : Int64) (I : TI) (Q : TL → Prop) : Nat → Int32 → TL → Prop
  | 0, _, _ => False
  | n9 + 1, v5, L => D_X0_showInto_3 p0 p1 v2 v3 I Q (fun v5 L => L_X0_showInto_3 p0 p1 v2 v3 I Q n9 v5 L) v5 L
def W_X0_showInto (p0 : Nat) (p1 : Nat) (p2 : Int32) (p3 : Int64) (I : TI) (L : TL) (Q : TL → Prop) : Prop :=
  ∃ n142, L_X0_showInto_3 p0 p1 p2 p3 I Q n142 (0 : Int32) L
def D_X0_refresh_64 (p0 : Nat) (Q : TI → TL → Prop) (R64 : Int32 → TI → TL → Prop) (v1 : Int32) (I : TI) (L : TL) : Prop :=
  W_X2_nets (p0 + 1) I L (fun (r161 : Int32) => (r161 ≤ v1 → W_X0_showInto p0 (p0 + 37) ((-1) : Int32) (0 : Int64) I L (fun (L162 : TL) => Q I L162)) ∧ (¬ r161 ≤ v1 → W_X0_lateWave p0 (p0 + 38) v1 I L (fun (r163 : Int64) => vp_in v1 16 ∧ (W_X0_dearWave p0 v1 I (up2 L (p0 + 38) (v1.toNatClampNeg) r163) (fun (r165 : Int64) => vp_in v1 16 ∧ (∀ L167 : TL, L167 = (up2 (up2 L (p0 + 38) (v1.toNatClampNeg) r163) (p0 + 39) (v1.toNatClampNeg) r165) → (W_X0_longestPath p0 v1 I L167 (fun (r168 : Int32) => vp_in v1 16 ∧ (R64 (v1 + 1) (up2 I (p0 + 41) (v1.toNatClampNeg) r168) L167)))))))))
def L_X0_refresh_64 (p0 : Nat) (Q : TI → TL → Prop) : Nat → Int32 → TI → TL → Prop
  | 0, _, _, _ => False
  | n9 + 1, v1, I, L => D_X0_refresh_64 p0 Q (fun v1 I L => L_X0_refresh_64 p0 Q n9 v1 I L) v1 I L
def D_X0_refresh_2 (p0 : Nat) (Q : TI → TL → Prop) (R2 : Int32 → TI → TL → Prop) (v1 : Int32) (I : TI) (L : TL) : Prop :=
  ((I (p0 + 1) 4) ≤ v1 → ∃ n170, L_X0_refresh_64 p0 Q n170 (I (p0 + 1) 4) I L) ∧ (¬ (I (p0 + 1) 4) ≤ v1 → vp_in v1 4 ∧ (vp_in v1 16 ∧ (∀ L173 : TL, L173 = (up2 L (p0 + 38) (v1.toNatClampNeg) (L (p0 + 11) (v1.toNatClampNeg))) → (vp_in v1 4 ∧ (vp_in v1 16 ∧ (∀ L176 : TL, L176 = (up2 L173 (p0 + 39) (v1.toNatClampNeg) (L173 (p0 + 11) (v1.toNatClampNeg))) → (vp_in v1 16 ∧ (R2 (v1 + 1) (up2 I (p0 + 41) (v1.toNatClampNeg) 0) L176))))))))
def L_X0_refresh_2 (p0 : Nat) (Q : TI → TL → Prop) : Nat → Int32 → TI → TL → Prop
  | 0, _, _, _ => False
  | n9 + 1, v1, I, L => D_X0_refresh_2 p0 Q (fun v1 I L => L_X0_refresh_2 p0 Q n9 v1 I L) v1 I L
def W_X0_refresh (p0 : Nat) (I : TI) (L : TL) (Q : TI → TL → Prop) : Prop :=
  ∃ n178, L_X0_refresh_2 p0 Q n178 (0 : Int32) I L
def W_X0_wrongTimes (p0 : Nat) (p1 : Int32) (I : TI) (L : TL) (Q : Int64 → Prop) : Prop :=
  vp_in p1 16 ∧ (vp_in p1 16 ∧ (Q ((L (p0 + 37) (p1.toNatClampNeg)) ^^^ (L (p0 + 39) (p1.toNatClampNeg)))))
def W_J13_bitCount_95d88 (p0 : Int64) (I : TI) (L : TL) (Q : Int32 → Prop) : Prop :=
  ∀ x183 : Int64, x183 = (p0 - ((ushL p0 (1 : Int32)) &&& 6148914691236517205)) → (∀ x184 : Int64, x184 = ((x183 &&& 3689348814741910323) + ((ushL x183 (2 : Int32)) &&& 3689348814741910323)) → (∀ x185 : Int64, x185 = ((x184 + (ushL x184 (4 : Int32))) &&& 1085102592571150095) → (∀ x186 : Int64, x186 = (x185 + (ushL x185 (8 : Int32))) → (∀ x187 : Int64, x187 = (x186 + (ushL x186 (16 : Int32))) → (∀ x188 : Int64, x188 = (x187 + (ushL x187 (32 : Int32))) → (Q ((x188.toInt32) &&& 127)))))))
def D_X0_wrongSum_4 (p0 : Nat) (p1 : Nat) (I : TI) (L : TL) (Q : Int32 → Prop) (R4 : Int32 → Int32 → Prop) (v2 : Int32) (v3 : Int32) : Prop :=
  W_X2_nets (p0 + 1) I L (fun (r197 : Int32) => (r197 ≤ v3 → Q v2) ∧ (¬ r197 ≤ v3 → vp_in v3 16 ∧ (vp_in v3 16 ∧ (W_J13_bitCount_95d88 ((L p1 (v3.toNatClampNeg)) ^^^ (L (p0 + 39) (v3.toNatClampNeg))) I L (fun (r200 : Int32) => R4 (v2 + r200) (v3 + 1))))))
def L_X0_wrongSum_4 (p0 : Nat) (p1 : Nat) (I : TI) (L : TL) (Q : Int32 → Prop) : Nat → Int32 → Int32 → Prop
  | 0, _, _ => False
  | n9 + 1, v2, v3 => D_X0_wrongSum_4 p0 p1 I L Q (fun v2 v3 => L_X0_wrongSum_4 p0 p1 I L Q n9 v2 v3) v2 v3
def W_X0_wrongSum (p0 : Nat) (p1 : Nat) (I : TI) (L : TL) (Q : Int32 → Prop) : Prop :=
  ∃ n201, L_X0_wrongSum_4 p0 p1 I L Q n201 (0 : Int32) (0 : Int32)
def W_X8_changesOf (p0 : Int64) (p2 : Int32) (I : TI) (L : TL) (Q : Int32 → Prop) : Prop :=
  W_X8_window (0 : Int32) (p2 - 1) I L (fun (r204 : Int64) => W_J13_bitCount_95d88 ((p0 ^^^ (ushL p0 (1 : Int32))) &&& r204) I L (fun (r205 : Int32) => Q r205))
def D_X0_gateChanges_10 (p0 : Nat) (p1 : Nat) (I : TI) (L : TL) (Q : Int32 → Prop) (R10 : Int32 → Int32 → Prop) (v2 : Int32) (v3 : Int32) : Prop :=
  W_X2_nets (p0 + 1) I L (fun (r212 : Int32) => (r212 ≤ v3 → Q v2) ∧ (¬ r212 ≤ v3 → vp_in v3 16 ∧ (W_X8_changesOf (L p1 (v3.toNatClampNeg)) (I (p0 + 1) 6) I L (fun (r214 : Int32) => R10 (v2 + r214) (v3 + 1)))))
def L_X0_gateChanges_10 (p0 : Nat) (p1 : Nat) (I : TI) (L : TL) (Q : Int32 → Prop) : Nat → Int32 → Int32 → Prop
  | 0, _, _ => False
  | n9 + 1, v2, v3 => D_X0_gateChanges_10 p0 p1 I L Q (fun v2 v3 => L_X0_gateChanges_10 p0 p1 I L Q n9 v2 v3) v2 v3
def W_X0_gateChanges (p0 : Nat) (p1 : Nat) (I : TI) (L : TL) (Q : Int32 → Prop) : Prop :=
  ∃ n215, L_X0_gateChanges_10 p0 p1 I L Q n215 (0 : Int32) (I (p0 + 1) 4)
def W_J6_bitCount_0f7a4 (p0 : Int32) (I : TI) (L : TL) (Q : Int32 → Prop) : Prop :=
  ∀ x216 : Int32, x216 = (p0 - ((ushI p0 (1 : Int32)) &&& 1431655765)) → (∀ x217 : Int32, x217 = ((x216 &&& 858993459) + ((ushI x216 (2 : Int32)) &&& 858993459)) → (∀ x218 : Int32, x218 = ((x217 + (ushI x217 (4 : Int32))) &&& 252645135) → (∀ x219 : Int32, x219 = (x218 + (ushI x218 (8 : Int32))) → (∀ x220 : Int32, x220 = (x219 + (ushI x219 (16 : Int32))) → (Q (x220 &&& 63))))))
def W_X2_cone (p0 : Nat) (p1 : Int32) (I : TI) (L : TL) (Q : Int32 → Prop) : Prop :=
  vp_in p1 16 ∧ (W_J6_bitCount_0f7a4 (I (p0 + 4) (p1.toNatClampNeg)) I L (fun (r224 : Int32) => Q r224))
def W_X0_price (p0 : Nat) (p1 : Int32) (p2 : Int32) (p3 : Int32) (I : TI) (L : TL) (Q : Int32 → Prop) : Prop :=
  W_X2_cone (p0 + 1) p1 I L (fun (r226 : Int32) => Q (((I (p0 + 1) 7) * ((p3 - p2) + 1)) * r226))
def W_X0_gainOf (p0 : Nat) (p1 : Int32) (p2 : Int32) (p3 : Int32) (I : TI) (L : TL) (Q : Int32 → TL → Prop) : Prop :=
  W_X8_window p2 p3 I L (fun (r231 : Int64) => W_X0_showInto p0 (p0 + 40) p1 r231 I L (fun (L232 : TL) => W_X0_wrongSum p0 (p0 + 37) I L232 (fun (r233 : Int32) => W_X0_wrongSum p0 (p0 + 40) I L232 (fun (r234 : Int32) => Q (r233 - r234) L232))))
def B_X0_pulseStarts_132 (p0 : Nat) (v2 : Int64) (v4 : Int64) (v6 : Int64) (v8 : Int32) (v9 : Int32) (I : TI) (L : TL) (Q : Int64 → Prop) (R41 : Int64 → Int32 → Int32 → Prop) : Prop :=
  R41 v6 v8 (v9 + 1)
def B_X0_pulseStarts_128 (p0 : Nat) (v2 : Int64) (v4 : Int64) (v6 : Int64) (v9 : Int32) (I : TI) (L : TL) (Q : Int64 → Prop) (R41 : Int64 → Int32 → Int32 → Prop) : Prop :=
  B_X0_pulseStarts_132 p0 v2 v4 v6 v9 v9 I L Q R41
def B_X0_pulseStarts_95 (p0 : Nat) (v2 : Int64) (v4 : Int64) (v6 : Int64) (v8 : Int32) (v9 : Int32) (s0 : Int32) (I : TI) (L : TL) (Q : Int64 → Prop) (R41 : Int64 → Int32 → Int32 → Prop) : Prop :=
  (s0 = 0 → B_X0_pulseStarts_128 p0 v2 v4 v6 v9 I L Q R41) ∧ (¬ s0 = 0 → W_X8_window v8 (v9 - 1) I L (fun (r252 : Int64) => ((r252 &&& v4) = 0 → B_X0_pulseStarts_128 p0 v2 v4 v6 v9 I L Q R41) ∧ (¬ (r252 &&& v4) = 0 → ∀ x253 : Int64, x253 = (v6 ||| (shlL (1 : Int64) v8)) → (B_X0_pulseStarts_128 p0 v2 v4 x253 v9 I L Q R41))))
def B_X0_pulseStarts_94 (p0 : Nat) (v2 : Int64) (v4 : Int64) (v6 : Int64) (v8 : Int32) (v9 : Int32) (I : TI) (L : TL) (Q : Int64 → Prop) (R41 : Int64 → Int32 → Int32 → Prop) : Prop :=
  B_X0_pulseStarts_95 p0 v2 v4 v6 v8 v9 (0 : Int32) I L Q R41
def D_X0_pulseStarts_41 (p0 : Nat) (v2 : Int64) (v4 : Int64) (I : TI) (L : TL) (Q : Int64 → Prop) (R41 : Int64 → Int32 → Int32 → Prop) (v6 : Int64) (v8 : Int32) (v9 : Int32) : Prop :=
  ((I (p0 + 1) 6) < v9 → Q v6) ∧ (¬ (I (p0 + 1) 6) < v9 → W_X8_bitOf v2 v9 I L (fun (r254 : Int32) => W_X8_bitOf v2 (v9 - 1) I L (fun (r255 : Int32) => (r254 = r255 → B_X0_pulseStarts_132 p0 v2 v4 v6 v8 v9 I L Q R41) ∧ (¬ r254 = r255 → (v8 ≤ 0 → B_X0_pulseStarts_94 p0 v2 v4 v6 v8 v9 I L Q R41) ∧ (¬ v8 ≤ 0 → ((I (p0 + 6) 8) < (v9 - v8) → B_X0_pulseStarts_94 p0 v2 v4 v6 v8 v9 I L Q R41) ∧ (¬ (I (p0 + 6) 8) < (v9 - v8) → B_X0_pulseStarts_95 p0 v2 v4 v6 v8 v9 (1 : Int32) I L Q R41))))))
def L_X0_pulseStarts_41 (p0 : Nat) (v2 : Int64) (v4 : Int64) (I : TI) (L : TL) (Q : Int64 → Prop) : Nat → Int64 → Int32 → Int32 → Prop
  | 0, _, _, _ => False
  | n9 + 1, v6, v8, v9 => D_X0_pulseStarts_41 p0 v2 v4 I L Q (fun v6 v8 v9 => L_X0_pulseStarts_41 p0 v2 v4 I L Q n9 v6 v8 v9) v6 v8 v9
def W_X0_pulseStarts (p0 : Nat) (p1 : Int32) (I : TI) (L : TL) (Q : Int64 → Prop) : Prop :=
  vp_in p1 16 ∧ (∀ x257 : Int64, x257 = (L (p0 + 37) (p1.toNatClampNeg)) → (vp_in p1 16 ∧ (vp_in p1 16 ∧ (∀ x260 : Int64, x260 = (((L (p0 + 13) (p1.toNatClampNeg)) ||| (L (p0 + 12) (p1.toNatClampNeg))) ^^^ (-1)) → (∃ n261, L_X0_pulseStarts_41 p0 x257 x260 I L Q n261 (0 : Int64) (0 : Int32) (1 : Int32))))))
def W_X0_pulses (p0 : Nat) (p1 : Int32) (I : TI) (L : TL) (Q : Int32 → Prop) : Prop :=
  W_X0_pulseStarts p0 p1 I L (fun (r264 : Int64) => W_J13_bitCount_95d88 r264 I L (fun (r265 : Int32) => Q r265))
def B_X0_pulseStart_46 (p0 : Nat) (v2 : Int32) (v3 : Int64) (v5 : Int32) (v6 : Int32) (I : TI) (L : TL) (Q : Int32 → Prop) (R12 : Int32 → Int32 → Prop) : Prop :=
  R12 v5 (v6 + 1)
def D_X0_pulseStart_12 (p0 : Nat) (v2 : Int32) (v3 : Int64) (I : TI) (L : TL) (Q : Int32 → Prop) (R12 : Int32 → Int32 → Prop) (v5 : Int32) (v6 : Int32) : Prop :=
  ((I (p0 + 1) 6) ≤ v6 → Q (-1)) ∧ (¬ (I (p0 + 1) 6) ≤ v6 → W_X8_bitOf v3 v6 I L (fun (r270 : Int32) => (¬ r270 = 1 → B_X0_pulseStart_46 p0 v2 v3 v5 v6 I L Q R12) ∧ (r270 = 1 → (¬ v5 = v2 → B_X0_pulseStart_46 p0 v2 v3 (v5 + 1) v6 I L Q R12) ∧ (v5 = v2 → Q v6))))
def L_X0_pulseStart_12 (p0 : Nat) (v2 : Int32) (v3 : Int64) (I : TI) (L : TL) (Q : Int32 → Prop) : Nat → Int32 → Int32 → Prop
  | 0, _, _ => False
  | n9 + 1, v5, v6 => D_X0_pulseStart_12 p0 v2 v3 I L Q (fun v5 v6 => L_X0_pulseStart_12 p0 v2 v3 I L Q n9 v5 v6) v5 v6
def W_X0_pulseStart (p0 : Nat) (p1 : Int32) (p2 : Int32) (I : TI) (L : TL) (Q : Int32 → Prop) : Prop :=
  W_X0_pulseStarts p0 p1 I L (fun (r271 : Int64) => ∃ n272, L_X0_pulseStart_12 p0 p2 r271 I L Q n272 (0 : Int32) (1 : Int32))
def D_X0_runEnd_2 (p0 : Nat) (v1 : Int32) (v2 : Int32) (I : TI) (L : TL) (Q : Int32 → Prop) (R2 : Int32 → Prop) (v3 : Int32) : Prop :=
  ((I (p0 + 1) 6) ≤ v3 → Q v3) ∧ (¬ (I (p0 + 1) 6) ≤ v3 → vp_in v1 16 ∧ (W_X8_bitOf (L (p0 + 37) (v1.toNatClampNeg)) (v3 + 1) I L (fun (r282 : Int32) => vp_in v1 16 ∧ (W_X8_bitOf (L (p0 + 37) (v1.toNatClampNeg)) v2 I L (fun (r284 : Int32) => (¬ r282 = r284 → Q v3) ∧ (r282 = r284 → R2 (v3 + 1)))))))
def L_X0_runEnd_2 (p0 : Nat) (v1 : Int32) (v2 : Int32) (I : TI) (L : TL) (Q : Int32 → Prop) : Nat → Int32 → Prop
  | 0, _ => False
  | n9 + 1, v3 => D_X0_runEnd_2 p0 v1 v2 I L Q (fun v3 => L_X0_runEnd_2 p0 v1 v2 I L Q n9 v3) v3
def W_X0_runEnd (p0 : Nat) (p1 : Int32) (p2 : Int32) (I : TI) (L : TL) (Q : Int32 → Prop) : Prop :=
  ∃ n285, L_X0_runEnd_2 p0 p1 p2 I L Q n285 p2
def W_X0_cheapVerdict (p0 : Nat) (p1 : Int32) (p2 : Int32) (p3 : Int32) (I : TI) (L : TL) (Q : Int32 → Prop) : Prop :=
  W_X0_swing p0 p1 p3 I L (fun (r287 : Int32) => (p2 ≤ r287 → Q 0) ∧ (¬ p2 ≤ r287 → Q 1))
def B_X0_dearVerdict_33 (p0 : Nat) (p1 : Nat) (s0 : Int64) (I : TI) (L : TL) (Q : Int32 → Prop) : Prop :=
  W_X8_window (I p1 1) (I p1 2) I L (fun (r294 : Int64) => ((s0 &&& r294) = 0 → Q 0) ∧ (¬ (s0 &&& r294) = 0 → Q 1))
def W_X0_dearVerdict (p0 : Nat) (p1 : Nat) (I : TI) (L : TL) (Q : Int32 → Prop) : Prop :=
  (¬ (I p1 3) = 1 → vp_in (I p1 0) 16 ∧ (B_X0_dearVerdict_33 p0 p1 ((L (p0 + 39) ((I p1 0).toNatClampNeg)) ^^^ (-1)) I L Q)) ∧ ((I p1 3) = 1 → vp_in (I p1 0) 16 ∧ (B_X0_dearVerdict_33 p0 p1 (L (p0 + 39) ((I p1 0).toNatClampNeg)) I L Q))
def W_X0_settle (p0 : Nat) (p1 : Int32) (p2 : Int32) (p3 : Int32) (I : TI) (L : TL) (Q : Int32 → TI → TL → Prop) : Prop :=
  W_X8_window p2 p3 I L (fun (r304 : Int64) => vp_in p1 16 ∧ (∀ x306 : Int64, x306 = (r304 &&& ((L (p0 + 12) (p1.toNatClampNeg)) ^^^ (-1))) → (vp_in p1 16 ∧ (vp_in p1 16 ∧ (∀ L309 : TL, L309 = (up2 L (p0 + 12) (p1.toNatClampNeg) ((L (p0 + 12) (p1.toNatClampNeg)) ||| x306)) → (W_X0_refresh p0 I L309 (fun (I310 : TI) (L311 : TL) => W_J13_bitCount_95d88 x306 I310 L311 (fun (r312 : Int32) => Q r312 I310 L311))))))))
def B_X0_rule_139 (p0 : Nat) (p1 : Nat) (v5 : Int64) (s1 : Int32) (s2 : Int64) (I : TI) (L : TL) (Q : Int32 → TI → TL → Prop) : Prop :=
  vp_in s1 16 ∧ (W_X0_refresh p0 I (up2 L (p0 + 14) (s1.toNatClampNeg) s2) (fun (I338 : TI) (L339 : TL) => W_J13_bitCount_95d88 v5 I338 L339 (fun (r340 : Int32) => Q r340 I338 L339)))
def B_X0_rule_82 (p0 : Nat) (p1 : Nat) (v2 : Int32) (v3 : Int64) (v5 : Int64) (s0 : Int32) (I : TI) (L : TL) (Q : Int32 → TI → TL → Prop) : Prop :=
  vp_in v2 16 ∧ (vp_in v2 16 ∧ (∀ L343 : TL, L343 = (up2 L (p0 + 13) (v2.toNatClampNeg) ((L (p0 + 13) (v2.toNatClampNeg)) ||| v3)) → ((s0 = 0 → vp_in v2 16 ∧ (B_X0_rule_139 p0 p1 v5 v2 ((L343 (p0 + 14) (v2.toNatClampNeg)) &&& (v3 ^^^ (-1))) I L343 Q)) ∧ (¬ s0 = 0 → vp_in v2 16 ∧ (B_X0_rule_139 p0 p1 v5 v2 ((L343 (p0 + 14) (v2.toNatClampNeg)) ||| v3) I L343 Q)))))
def B_X0_rule_74 (p0 : Nat) (p1 : Nat) (v2 : Int32) (v3 : Int64) (v5 : Int64) (s0 : Int32) (s1 : Int32) (I : TI) (L : TL) (Q : Int32 → TI → TL → Prop) : Prop :=
  (¬ s0 = s1 → B_X0_rule_82 p0 p1 v2 v3 v5 (0 : Int32) I L Q) ∧ (s0 = s1 → B_X0_rule_82 p0 p1 v2 v3 v5 (1 : Int32) I L Q)
def B_X0_rule_61 (p0 : Nat) (p1 : Nat) (v2 : Int32) (v3 : Int64) (v5 : Int64) (s0 : Int32) (I : TI) (L : TL) (Q : Int32 → TI → TL → Prop) : Prop :=
  (¬ (I p1 3) = 1 → B_X0_rule_74 p0 p1 v2 v3 v5 s0 (0 : Int32) I L Q) ∧ ((I p1 3) = 1 → B_X0_rule_74 p0 p1 v2 v3 v5 s0 (1 : Int32) I L Q)
def W_X0_rule (p0 : Nat) (p1 : Nat) (I : TI) (L : TL) (Q : Int32 → TI → TL → Prop) : Prop :=
  W_X8_window (I p1 1) (I p1 2) I L (fun (r346 : Int64) => vp_in (I p1 0) 16 ∧ (vp_in (I p1 0) 16 ∧ (∀ x349 : Int64, x349 = ((r346 &&& ((L (p0 + 13) ((I p1 0).toNatClampNeg)) ^^^ (-1))) &&& ((L (p0 + 12) ((I p1 0).toNatClampNeg)) ^^^ (-1))) → ((¬ (I p1 7) = 1 → B_X0_rule_61 p0 p1 (I p1 0) r346 x349 (0 : Int32) I L Q) ∧ ((I p1 7) = 1 → B_X0_rule_61 p0 p1 (I p1 0) r346 x349 (1 : Int32) I L Q)))))
def W_X2_hasGate (p0 : Nat) (p1 : Int32) (I : TI) (L : TL) (Q : Int32 → Prop) : Prop :=
  (p1 < (I p0 4) → Q 0) ∧ (¬ p1 < (I p0 4) → W_X2_nets p0 I L (fun (r351 : Int32) => (r351 ≤ p1 → Q 0) ∧ (¬ r351 ≤ p1 → Q 1)))
def B_X2_readersOf_41 (p0 : Nat) (v1 : Int32) (v2 : Int32) (v3 : Int32) (I : TI) (L : TL) (Q : Int32 → Prop) (R7 : Int32 → Int32 → Prop) : Prop :=
  R7 v2 (v3 + 1)
def B_X2_readersOf_35 (p0 : Nat) (v1 : Int32) (v2 : Int32) (v3 : Int32) (I : TI) (L : TL) (Q : Int32 → Prop) (R7 : Int32 → Int32 → Prop) : Prop :=
  ∀ x358 : Int32, x358 = (v2 ||| ((1 : Int32) <<< (v3 &&& 31))) → (B_X2_readersOf_41 p0 v1 x358 v3 I L Q R7)
def D_X2_readersOf_7 (p0 : Nat) (v1 : Int32) (I : TI) (L : TL) (Q : Int32 → Prop) (R7 : Int32 → Int32 → Prop) (v2 : Int32) (v3 : Int32) : Prop :=
  W_X2_nets p0 I L (fun (r359 : Int32) => (r359 ≤ v3 → Q v2) ∧ (¬ r359 ≤ v3 → vp_in v3 16 ∧ (((I (p0 + 2) (v3.toNatClampNeg)) = v1 → B_X2_readersOf_35 p0 v1 v2 v3 I L Q R7) ∧ (¬ (I (p0 + 2) (v3.toNatClampNeg)) = v1 → vp_in v3 16 ∧ ((¬ (I (p0 + 3) (v3.toNatClampNeg)) = v1 → B_X2_readersOf_41 p0 v1 v2 v3 I L Q R7) ∧ ((I (p0 + 3) (v3.toNatClampNeg)) = v1 → B_X2_readersOf_35 p0 v1 v2 v3 I L Q R7))))))
def L_X2_readersOf_7 (p0 : Nat) (v1 : Int32) (I : TI) (L : TL) (Q : Int32 → Prop) : Nat → Int32 → Int32 → Prop
  | 0, _, _ => False
  | n9 + 1, v2, v3 => D_X2_readersOf_7 p0 v1 I L Q (fun v2 v3 => L_X2_readersOf_7 p0 v1 I L Q n9 v2 v3) v2 v3
def W_X2_readersOf (p0 : Nat) (p1 : Int32) (I : TI) (L : TL) (Q : Int32 → Prop) : Prop :=
  ∃ n362, L_X2_readersOf_7 p0 p1 I L Q n362 (0 : Int32) (I p0 4)
def B_X2_touchedBy_56 (p0 : Nat) (v2 : Int32) (v3 : Int32) (v4 : Int32) (I : TI) (L : TL) (Q : Int32 → Prop) (R28 : Int32 → Int32 → Prop) : Prop :=
  R28 v3 (v4 + 1)
def D_X2_touchedBy_28 (p0 : Nat) (v2 : Int32) (I : TI) (L : TL) (Q : Int32 → Prop) (R28 : Int32 → Int32 → Prop) (v3 : Int32) (v4 : Int32) : Prop :=
  W_X2_nets p0 I L (fun (r373 : Int32) => (r373 ≤ v4 → Q v3) ∧ (¬ r373 ≤ v4 → vp_in v4 16 ∧ ((((I (p0 + 4) (v4.toNatClampNeg)) &&& v2) = 0 → B_X2_touchedBy_56 p0 v2 v3 v4 I L Q R28) ∧ (¬ ((I (p0 + 4) (v4.toNatClampNeg)) &&& v2) = 0 → ∀ x375 : Int32, x375 = (v3 ||| ((1 : Int32) <<< (v4 &&& 31))) → (B_X2_touchedBy_56 p0 v2 x375 v4 I L Q R28)))))
def L_X2_touchedBy_28 (p0 : Nat) (v2 : Int32) (I : TI) (L : TL) (Q : Int32 → Prop) : Nat → Int32 → Int32 → Prop
  | 0, _, _ => False
  | n9 + 1, v3, v4 => D_X2_touchedBy_28 p0 v2 I L Q (fun v3 v4 => L_X2_touchedBy_28 p0 v2 I L Q n9 v3 v4) v3 v4
def B_X2_touchedBy_19 (p0 : Nat) (s0 : Int32) (I : TI) (L : TL) (Q : Int32 → Prop) : Prop :=
  ∃ n376, L_X2_touchedBy_28 p0 s0 I L Q n376 (0 : Int32) (I p0 4)
def W_X2_touchedBy (p0 : Nat) (p1 : Int32) (I : TI) (L : TL) (Q : Int32 → Prop) : Prop :=
  W_X2_hasGate p0 p1 I L (fun (r377 : Int32) => (r377 = 0 → W_X2_readersOf p0 p1 I L (fun (r378 : Int32) => B_X2_touchedBy_19 p0 r378 I L Q)) ∧ (¬ r377 = 0 → B_X2_touchedBy_19 p0 ((1 : Int32) <<< (p1 &&& 31)) I L Q))
def W_X3_isPending (p0 : Nat) (I : TI) (L : TL) (Q : Int32 → Prop) : Prop :=
  ((I p0 6) = 0 → Q 1) ∧ (¬ (I p0 6) = 0 → (¬ (I p0 6) = 1 → Q 0) ∧ ((I p0 6) = 1 → Q 1))
def B_X6_dropPending_50 (p0 : Nat) (v1 : Int32) (v2 : Int32) (v3 : Int32) (I : TI) (L : TL) (Q : Int32 → TI → Prop) (R4 : Int32 → Int32 → TI → Prop) : Prop :=
  R4 v2 (v3 + 1) I
def D_X6_dropPending_4 (p0 : Nat) (v1 : Int32) (L : TL) (Q : Int32 → TI → Prop) (R4 : Int32 → Int32 → TI → Prop) (v2 : Int32) (v3 : Int32) (I : TI) : Prop :=
  ((I p0 7) ≤ v3 → Q v2 I) ∧ (¬ (I p0 7) ≤ v3 → vp_in v3 20 ∧ ((¬ (I ((p0 + 11) + v3.toNatClampNeg) 0) = v1 → B_X6_dropPending_50 p0 v1 v2 v3 I L Q R4) ∧ ((I ((p0 + 11) + v3.toNatClampNeg) 0) = v1 → vp_in v3 20 ∧ (W_X3_isPending ((p0 + 11) + v3.toNatClampNeg) I L (fun (r389 : Int32) => (r389 = 0 → B_X6_dropPending_50 p0 v1 v2 v3 I L Q R4) ∧ (¬ r389 = 0 → vp_in v3 20 ∧ (B_X6_dropPending_50 p0 v1 (v2 + 1) v3 (up2 I ((p0 + 11) + v3.toNatClampNeg) 6 4) L Q R4)))))))
def L_X6_dropPending_4 (p0 : Nat) (v1 : Int32) (L : TL) (Q : Int32 → TI → Prop) : Nat → Int32 → Int32 → TI → Prop
  | 0, _, _, _ => False
  | n9 + 1, v2, v3, I => D_X6_dropPending_4 p0 v1 L Q (fun v2 v3 I => L_X6_dropPending_4 p0 v1 L Q n9 v2 v3 I) v2 v3 I
def W_X6_dropPending (p0 : Nat) (p1 : Int32) (I : TI) (L : TL) (Q : Int32 → TI → Prop) : Prop :=
  ∃ n391, L_X6_dropPending_4 p0 p1 L Q n391 (0 : Int32) (0 : Int32) I
def B_X0_unsettle_63 (p0 : Nat) (v2 : Int32) (v3 : Int32) (v4 : Int32) (I : TI) (L : TL) (Q : Int32 → TI → TL → Prop) (R20 : Int32 → Int32 → TI → TL → Prop) : Prop :=
  R20 v3 (v4 + 1) I L
def D_X0_unsettle_20 (p0 : Nat) (v2 : Int32) (Q : Int32 → TI → TL → Prop) (R20 : Int32 → Int32 → TI → TL → Prop) (v3 : Int32) (v4 : Int32) (I : TI) (L : TL) : Prop :=
  W_X2_nets (p0 + 1) I L (fun (r406 : Int32) => (r406 ≤ v4 → W_X0_refresh p0 I L (fun (I407 : TI) (L408 : TL) => Q v3 I407 L408)) ∧ (¬ r406 ≤ v4 → (¬ ((ushI v2 v4) &&& 1) = 1 → B_X0_unsettle_63 p0 v2 v3 v4 I L Q R20) ∧ (((ushI v2 v4) &&& 1) = 1 → W_X6_forget (p0 + 6) v4 I L (fun (L409 : TL) => W_X6_dropPending (p0 + 6) v4 I L409 (fun (r410 : Int32) (I411 : TI) => B_X0_unsettle_63 p0 v2 (v3 + r410) v4 I411 L409 Q R20)))))
def L_X0_unsettle_20 (p0 : Nat) (v2 : Int32) (Q : Int32 → TI → TL → Prop) : Nat → Int32 → Int32 → TI → TL → Prop
  | 0, _, _, _, _ => False
  | n9 + 1, v3, v4, I, L => D_X0_unsettle_20 p0 v2 Q (fun v3 v4 I L => L_X0_unsettle_20 p0 v2 Q n9 v3 v4 I L) v3 v4 I L
def W_X0_unsettle (p0 : Nat) (p1 : Int32) (I : TI) (L : TL) (Q : Int32 → TI → TL → Prop) : Prop :=
  W_X2_touchedBy (p0 + 1) p1 I L (fun (r412 : Int32) => ∃ n413, L_X0_unsettle_20 p0 r412 Q n413 (0 : Int32) (I (p0 + 1) 4) I L)
def W_X6_settledTimes (p0 : Nat) (p1 : Int32) (I : TI) (L : TL) (Q : Int32 → Prop) : Prop :=
  vp_in p1 16 ∧ (W_J13_bitCount_95d88 (L (p0 + 6) (p1.toNatClampNeg)) I L (fun (r417 : Int32) => Q r417))
def W_X6_ruledTimes (p0 : Nat) (p1 : Int32) (I : TI) (L : TL) (Q : Int32 → Prop) : Prop :=
  vp_in p1 16 ∧ (vp_in p1 16 ∧ (W_J13_bitCount_95d88 ((L (p0 + 7) (p1.toNatClampNeg)) &&& ((L (p0 + 6) (p1.toNatClampNeg)) ^^^ (-1))) I L (fun (r423 : Int32) => Q r423)))
def W_X0_propertyOf (p0 : Nat) (p1 : Int32) (p2 : Int32) (I : TI) (L : TL) (Q : Int32 → Prop) : Prop :=
  W_X2_hasGate (p0 + 1) p1 I L (fun (r436 : Int32) => (p2 = 0 → Q p1) ∧ (p2 = 1 → (r436 = 0 → Q 0) ∧ (¬ r436 = 0 → vp_in p1 16 ∧ (Q ((1 : Int32) + (I (p0 + 2) (p1.toNatClampNeg)))))) ∧ (p2 = 2 → (r436 = 0 → Q 0) ∧ (¬ r436 = 0 → W_X2_cone (p0 + 1) p1 I L (fun (r438 : Int32) => Q r438))) ∧ (p2 = 3 → vp_in p1 16 ∧ (W_X8_changesOf (L (p0 + 37) (p1.toNatClampNeg)) (I (p0 + 1) 6) I L (fun (r440 : Int32) => Q r440))) ∧ (p2 = 4 → W_X0_wrongTimes p0 p1 I L (fun (r441 : Int64) => W_J13_bitCount_95d88 r441 I L (fun (r442 : Int32) => Q r442))) ∧ (p2 = 5 → W_X6_settledTimes (p0 + 6) p1 I L (fun (r443 : Int32) => Q r443)) ∧ (p2 = 6 → W_X6_ruledTimes (p0 + 6) p1 I L (fun (r444 : Int32) => Q r444)) ∧ (p2 = 7 → (r436 = 0 → Q 0) ∧ (¬ r436 = 0 → W_X0_pulses p0 p1 I L (fun (r445 : Int32) => Q r445))) ∧ (p2 < 0 ∨ 7 < p2 → vp_in p1 16 ∧ (W_X8_bitOf (L (p0 + 37) (p1.toNatClampNeg)) (I (p0 + 1) 6) I L (fun (r447 : Int32) => Q r447))))
def W_X7_failed (I : TI) (L : TL) (Q : Int32 → Prop) : Prop :=
  ((I 344 6) = 0 → Q 0) ∧ (¬ (I 344 6) = 0 → Q 1)
/-! isWord of Tokens, its text by place: what it answers -/
def sch (pl k : Nat) : Int32 := (bytJS.getD pl []).getD k 0
def isW (I : TI) (t pl st en ln : Nat) : Prop := I 344 6 = 0 ∧ I 344 4 = 1 ∧ en ≤ ln ∧ en - st = lenJS.getD pl 0 ∧ ∀ k, k < lenJS.getD pl 0 → I t (st + k) = sch pl k
def W_X7_isWord (p1 : Nat) (I : TI) (L : TL) (t : Nat) (Q : Int32 → Prop) : Prop :=
  ∃ pl st en ln : Nat, p1 = 458 + pl ∧ pl < nJS ∧ I 344 2 = nI st ∧ I 344 3 = nI en ∧ I 344 1 = nI ln ∧ st ≤ en ∧ en < 1000 ∧ ln ≤ LEN t ∧ ln < 1000 ∧ (isW I t pl st en ln → Q 1) ∧ (¬ isW I t pl st en ln → Q 0)
def W_X7_fail (p1 : Int32) (I : TI) (L : TL) (Q : TI → Prop) : Prop :=
  W_X7_failed I L (fun (r449 : Int32) => (¬ r449 = 0 → Q I) ∧ (r449 = 0 → Q (up2 (up2 I 344 6 p1) 344 7 ((up2 I 344 6 p1) 344 2))))
def D_X7_scanWord_5 (L : TL) (t : Nat) (Q : TI → Prop) (R5 : TI → Prop) (I : TI) : Prop :=
  ((I 344 1) ≤ (I 344 3) → Q I) ∧ (¬ (I 344 1) ≤ (I 344 3) → vp_in (I 344 3) (LEN t) ∧ (((I t ((I 344 3).toNatClampNeg)) < 97 → Q I) ∧ (¬ (I t ((I 344 3).toNatClampNeg)) < 97 → vp_in (I 344 3) (LEN t) ∧ ((122 < (I t ((I 344 3).toNatClampNeg)) → Q I) ∧ (¬ 122 < (I t ((I 344 3).toNatClampNeg)) → R5 (up2 I 344 3 ((I 344 3) + 1)))))))
def L_X7_scanWord_5 (L : TL) (t : Nat) (Q : TI → Prop) : Nat → TI → Prop
  | 0, _ => False
  | n9 + 1, I => D_X7_scanWord_5 L t Q (fun I => L_X7_scanWord_5 L t Q n9 I) I
def W_X7_scanWord (I : TI) (L : TL) (t : Nat) (Q : TI → Prop) : Prop :=
  ∃ n456, L_X7_scanWord_5 L t Q n456 (up2 I 344 4 1)
def D_X7_scanNumber_10 (L : TL) (t : Nat) (Q : TI → Prop) (R10 : TI → Prop) (I : TI) : Prop :=
  ((I 344 1) ≤ (I 344 3) → Q I) ∧ (¬ (I 344 1) ≤ (I 344 3) → vp_in (I 344 3) (LEN t) ∧ (((I t ((I 344 3).toNatClampNeg)) < 48 → Q I) ∧ (¬ (I t ((I 344 3).toNatClampNeg)) < 48 → vp_in (I 344 3) (LEN t) ∧ ((57 < (I t ((I 344 3).toNatClampNeg)) → Q I) ∧ (¬ 57 < (I t ((I 344 3).toNatClampNeg)) → vp_in (I 344 3) (LEN t) ∧ (∀ I466 : TI, I466 = (up2 I 344 5 (mnI ((((10 : Int32) * (I 344 5)) + (I t ((I 344 3).toNatClampNeg))) - 48) (1000000 : Int32))) → (R10 (up2 I466 344 3 ((I466 344 3) + 1)))))))))
def L_X7_scanNumber_10 (L : TL) (t : Nat) (Q : TI → Prop) : Nat → TI → Prop
  | 0, _ => False
  | n9 + 1, I => D_X7_scanNumber_10 L t Q (fun I => L_X7_scanNumber_10 L t Q n9 I) I
def W_X7_scanNumber (I : TI) (L : TL) (t : Nat) (Q : TI → Prop) : Prop :=
  ∃ n467, L_X7_scanNumber_10 L t Q n467 (up2 (up2 I 344 4 2) 344 5 0)
def B_X7_advance_157 (I : TI) (L : TL) (t : Nat) (Q : TI → Prop) : Prop :=
  Q (up2 (up2 I 344 4 3) 344 3 (((up2 I 344 4 3) 344 3) + 1))
def B_X7_advance_122 (I : TI) (L : TL) (t : Nat) (Q : TI → Prop) : Prop :=
  vp_in (I 344 2) (LEN t) ∧ (((I t ((I 344 2).toNatClampNeg)) < 48 → B_X7_advance_157 I L t Q) ∧ (¬ (I t ((I 344 2).toNatClampNeg)) < 48 → vp_in (I 344 2) (LEN t) ∧ ((57 < (I t ((I 344 2).toNatClampNeg)) → B_X7_advance_157 I L t Q) ∧ (¬ 57 < (I t ((I 344 2).toNatClampNeg)) → W_X7_scanNumber I L t (fun (I497 : TI) => Q I497)))))
def B_X7_advance_60 (I : TI) (L : TL) (t : Nat) (Q : TI → Prop) : Prop :=
  (((up2 I 344 2 (I 344 3)) 344 2) < ((up2 I 344 2 (I 344 3)) 344 1) → vp_in ((up2 I 344 2 (I 344 3)) 344 2) (LEN t) ∧ ((((up2 I 344 2 (I 344 3)) t (((up2 I 344 2 (I 344 3)) 344 2).toNatClampNeg)) < 97 → B_X7_advance_122 (up2 I 344 2 (I 344 3)) L t Q) ∧ (¬ ((up2 I 344 2 (I 344 3)) t (((up2 I 344 2 (I 344 3)) 344 2).toNatClampNeg)) < 97 → vp_in ((up2 I 344 2 (I 344 3)) 344 2) (LEN t) ∧ ((122 < ((up2 I 344 2 (I 344 3)) t (((up2 I 344 2 (I 344 3)) 344 2).toNatClampNeg)) → B_X7_advance_122 (up2 I 344 2 (I 344 3)) L t Q) ∧ (¬ 122 < ((up2 I 344 2 (I 344 3)) t (((up2 I 344 2 (I 344 3)) 344 2).toNatClampNeg)) → W_X7_scanWord (up2 I 344 2 (I 344 3)) L t (fun (I500 : TI) => Q I500)))))) ∧ (¬ ((up2 I 344 2 (I 344 3)) 344 2) < ((up2 I 344 2 (I 344 3)) 344 1) → Q (up2 (up2 I 344 2 (I 344 3)) 344 4 0))
def B_X7_advance_47 (I : TI) (L : TL) (t : Nat) (Q : TI → Prop) (R8 : TI → Prop) : Prop :=
  R8 (up2 I 344 3 ((I 344 3) + 1))
def D_X7_advance_8 (L : TL) (t : Nat) (Q : TI → Prop) (R8 : TI → Prop) (I : TI) : Prop :=
  ((I 344 1) ≤ (I 344 3) → B_X7_advance_60 I L t Q) ∧ (¬ (I 344 1) ≤ (I 344 3) → vp_in (I 344 3) (LEN t) ∧ (((I t ((I 344 3).toNatClampNeg)) = 32 → B_X7_advance_47 I L t Q R8) ∧ (¬ (I t ((I 344 3).toNatClampNeg)) = 32 → vp_in (I 344 3) (LEN t) ∧ ((¬ (I t ((I 344 3).toNatClampNeg)) = 10 → B_X7_advance_60 I L t Q) ∧ ((I t ((I 344 3).toNatClampNeg)) = 10 → B_X7_advance_47 I L t Q R8)))))
def L_X7_advance_8 (L : TL) (t : Nat) (Q : TI → Prop) : Nat → TI → Prop
  | 0, _ => False
  | n9 + 1, I => D_X7_advance_8 L t Q (fun I => L_X7_advance_8 L t Q n9 I) I
def W_X7_advance (I : TI) (L : TL) (t : Nat) (Q : TI → Prop) : Prop :=
  W_X7_failed I L (fun (r503 : Int32) => (r503 = 0 → ∃ n504, L_X7_advance_8 L t Q n504 I) ∧ (¬ r503 = 0 → Q I))
def B_X7_takeWord_13 (p1 : Nat) (I : TI) (L : TL) (t : Nat) (Q : TI → Prop) : Prop :=
  W_X7_advance I L t (fun (I511 : TI) => Q I511)
def W_X7_takeWord (p1 : Nat) (I : TI) (L : TL) (t : Nat) (Q : TI → Prop) : Prop :=
  W_X7_isWord p1 I L t (fun (r512 : Int32) => (¬ r512 = 0 → B_X7_takeWord_13 p1 I L t Q) ∧ (r512 = 0 → W_X7_fail (1 : Int32) I L (fun (I513 : TI) => B_X7_takeWord_13 p1 I513 L t Q)))
def W_X7_isNumber (I : TI) (L : TL) (Q : Int32 → Prop) : Prop :=
  W_X7_failed I L (fun (r515 : Int32) => (¬ r515 = 0 → Q 0) ∧ (r515 = 0 → (¬ (I 344 4) = 2 → Q 0) ∧ ((I 344 4) = 2 → Q 1)))
def B_X7_peekNumber_36 (v1 : Int32) (I : TI) (L : TL) (Q : Int32 → TI → Prop) : Prop :=
  W_X7_failed I L (fun (r524 : Int32) => (r524 = 0 → Q (I 344 5) I) ∧ (¬ r524 = 0 → Q v1 I))
def B_X7_peekNumber_31 (v1 : Int32) (I : TI) (L : TL) (Q : Int32 → TI → Prop) : Prop :=
  W_X7_fail (2 : Int32) I L (fun (I525 : TI) => B_X7_peekNumber_36 v1 I525 L Q)
def W_X7_peekNumber (p1 : Int32) (p2 : Int32) (I : TI) (L : TL) (Q : Int32 → TI → Prop) : Prop :=
  W_X7_isNumber I L (fun (r526 : Int32) => (¬ r526 = 0 → ((I 344 5) < p1 → B_X7_peekNumber_31 p1 I L Q) ∧ (¬ (I 344 5) < p1 → ((I 344 5) ≤ p2 → B_X7_peekNumber_36 p1 I L Q) ∧ (¬ (I 344 5) ≤ p2 → B_X7_peekNumber_31 p1 I L Q))) ∧ (r526 = 0 → W_X7_fail (1 : Int32) I L (fun (I527 : TI) => B_X7_peekNumber_36 p1 I527 L Q)))
def W_X7_takeNumber (p1 : Int32) (p2 : Int32) (I : TI) (L : TL) (t : Nat) (Q : Int32 → TI → Prop) : Prop :=
  W_X7_peekNumber p1 p2 I L (fun (r531 : Int32) (I532 : TI) => W_X7_advance I532 L t (fun (I533 : TI) => Q r531 I533))
def W_X7_isSign (p1 : Int32) (I : TI) (L : TL) (t : Nat) (Q : Int32 → Prop) : Prop :=
  W_X7_failed I L (fun (r536 : Int32) => (¬ r536 = 0 → Q 0) ∧ (r536 = 0 → (¬ (I 344 4) = 3 → Q 0) ∧ ((I 344 4) = 3 → ((I 344 1) ≤ (I 344 2) → Q 0) ∧ (¬ (I 344 1) ≤ (I 344 2) → vp_in (I 344 2) (LEN t) ∧ ((¬ (I t ((I 344 2).toNatClampNeg)) = p1 → Q 0) ∧ ((I t ((I 344 2).toNatClampNeg)) = p1 → Q 1))))))
def B_X7_takeSign_13 (I : TI) (L : TL) (t : Nat) (Q : TI → Prop) : Prop :=
  W_X7_advance I L t (fun (I544 : TI) => Q I544)
def W_X7_takeSign (p1 : Int32) (I : TI) (L : TL) (t : Nat) (Q : TI → Prop) : Prop :=
  W_X7_isSign p1 I L t (fun (r545 : Int32) => (¬ r545 = 0 → B_X7_takeSign_13 I L t Q) ∧ (r545 = 0 → W_X7_fail (1 : Int32) I L (fun (I546 : TI) => B_X7_takeSign_13 I546 L t Q)))
def W_X1_readHead (p1 : Nat) (I : TI) (L : TL) (t : Nat) (Q : TI → Prop) : Prop :=
  W_X7_takeWord 459 I L t (fun (I557 : TI) => W_X7_takeNumber (4 : Int32) (60 : Int32) I557 L t (fun (r558 : Int32) (I559 : TI) => W_X7_takeNumber (1 : Int32) (20 : Int32) (up2 I559 (p1 + 1) 6 r558) L t (fun (r560 : Int32) (I561 : TI) => W_X7_takeNumber (0 : Int32) (9 : Int32) (up2 I561 (p1 + 6) 8 r560) L t (fun (r562 : Int32) (I563 : TI) => W_X7_takeNumber (0 : Int32) (99 : Int32) (up2 I563 (p1 + 1) 7 r562) L t (fun (r564 : Int32) (I565 : TI) => W_X7_takeSign (59 : Int32) (up2 I565 (p1 + 1) 8 r564) L t (fun (I566 : TI) => Q I566))))))
def B_X1_readWave_83 (v2 : Int64) (I : TI) (L : TL) (t : Nat) (Q : Int64 → TI → Prop) : Prop :=
  W_X7_takeSign (59 : Int32) I L t (fun (I587 : TI) => Q v2 I587)
def B_X1_readWave_60 (v1 : Int32) (v2 : Int64) (v5 : Int32) (v6 : Int32) (I : TI) (L : TL) (t : Nat) (Q : Int64 → TI → Prop) (R26 : Int64 → Int32 → Int32 → TI → Prop) : Prop :=
  W_X7_advance I L t (fun (I588 : TI) => W_X8_window v6 v1 I588 L (fun (r589 : Int64) => R26 (v2 ^^^ r589) v6 (v5 + 1) I588))
def D_X1_readWave_26 (v1 : Int32) (L : TL) (t : Nat) (Q : Int64 → TI → Prop) (R26 : Int64 → Int32 → Int32 → TI → Prop) (v2 : Int64) (v4 : Int32) (v5 : Int32) (I : TI) : Prop :=
  (60 < v5 → B_X1_readWave_83 v2 I L t Q) ∧ (¬ 60 < v5 → W_X7_isNumber I L (fun (r590 : Int32) => (r590 = 0 → B_X1_readWave_83 v2 I L t Q) ∧ (¬ r590 = 0 → W_X7_peekNumber (1 : Int32) v1 I L (fun (r591 : Int32) (I592 : TI) => (v4 < r591 → B_X1_readWave_60 v1 v2 v5 r591 I592 L t Q R26) ∧ (¬ v4 < r591 → W_X7_fail (4 : Int32) I592 L (fun (I593 : TI) => B_X1_readWave_60 v1 v2 v5 r591 I593 L t Q R26))))))
def L_X1_readWave_26 (v1 : Int32) (L : TL) (t : Nat) (Q : Int64 → TI → Prop) : Nat → Int64 → Int32 → Int32 → TI → Prop
  | 0, _, _, _, _ => False
  | n9 + 1, v2, v4, v5, I => D_X1_readWave_26 v1 L t Q (fun v2 v4 v5 I => L_X1_readWave_26 v1 L t Q n9 v2 v4 v5 I) v2 v4 v5 I
def B_X1_readWave_19 (v1 : Int32) (s0 : Int64) (I : TI) (L : TL) (t : Nat) (Q : Int64 → TI → Prop) : Prop :=
  ∃ n594, L_X1_readWave_26 v1 L t Q n594 s0 (0 : Int32) (0 : Int32) I
def W_X1_readWave (p1 : Int32) (I : TI) (L : TL) (t : Nat) (Q : Int64 → TI → Prop) : Prop :=
  W_X7_takeNumber (0 : Int32) (1 : Int32) I L t (fun (r595 : Int32) (I596 : TI) => (¬ r595 = 1 → B_X1_readWave_19 p1 (0 : Int64) I596 L t Q) ∧ (r595 = 1 → W_X8_window (0 : Int32) p1 I596 L (fun (r597 : Int64) => B_X1_readWave_19 p1 r597 I596 L t Q)))
def B_X1_readInputs_80 (p1 : Nat) (v2 : Int32) (I : TI) (L : TL) (t : Nat) (Q : TI → TL → Prop) (R16 : Int32 → TI → TL → Prop) : Prop :=
  R16 (v2 + 1) I L
def D_X1_readInputs_16 (p1 : Nat) (t : Nat) (Q : TI → TL → Prop) (R16 : Int32 → TI → TL → Prop) (v2 : Int32) (I : TI) (L : TL) : Prop :=
  (4 < v2 → Q I L) ∧ (¬ 4 < v2 → W_X7_isWord 460 I L t (fun (r616 : Int32) => (r616 = 0 → Q I L) ∧ (¬ r616 = 0 → (¬ v2 = 4 → W_X7_advance I L t (fun (I617 : TI) => W_X1_readWave (I617 (p1 + 1) 6) I617 L t (fun (r618 : Int64) (I619 : TI) => vp_in v2 4 ∧ (B_X1_readInputs_80 p1 v2 (up2 I619 (p1 + 1) 4 ((I619 (p1 + 1) 4) + 1)) (up2 L (p1 + 11) (v2.toNatClampNeg) r618) t Q R16)))) ∧ (v2 = 4 → W_X7_fail (3 : Int32) I L (fun (I621 : TI) => B_X1_readInputs_80 p1 v2 I621 L t Q R16)))))
def L_X1_readInputs_16 (p1 : Nat) (t : Nat) (Q : TI → TL → Prop) : Nat → Int32 → TI → TL → Prop
  | 0, _, _, _ => False
  | n9 + 1, v2, I, L => D_X1_readInputs_16 p1 t Q (fun v2 I L => L_X1_readInputs_16 p1 t Q n9 v2 I L) v2 I L
def B_X1_readInputs_14 (p1 : Nat) (I : TI) (L : TL) (t : Nat) (Q : TI → TL → Prop) : Prop :=
  ∃ n622, L_X1_readInputs_16 p1 t Q n622 (0 : Int32) I L
def W_X1_readInputs (p1 : Nat) (I : TI) (L : TL) (t : Nat) (Q : TI → TL → Prop) : Prop :=
  W_X7_isWord 460 I L t (fun (r623 : Int32) => (¬ r623 = 0 → B_X1_readInputs_14 p1 I L t Q) ∧ (r623 = 0 → W_X7_fail (1 : Int32) I L (fun (I624 : TI) => B_X1_readInputs_14 p1 I624 L t Q)))
def W_X8_kindWord (p0 : Int32) (I : TI) (L : TL) (Q : Nat → Prop) : Prop :=
  (p0 = 0 → Q 462) ∧ (p0 = 1 → Q 463) ∧ (p0 = 2 → Q 464) ∧ (p0 = 3 → Q 465) ∧ (p0 = 4 → Q 466) ∧ (p0 = 5 → Q 467) ∧ (p0 < 0 ∨ 5 < p0 → Q 468)
def D_X1_readKind_2 (I : TI) (L : TL) (t : Nat) (Q : Int32 → TI → Prop) (R2 : Int32 → Prop) (v1 : Int32) : Prop :=
  (7 ≤ v1 → W_X7_fail (1 : Int32) I L (fun (I633 : TI) => Q 0 I633)) ∧ (¬ 7 ≤ v1 → W_X8_kindWord v1 I L (fun (r634 : Nat) => W_X7_isWord r634 I L t (fun (r635 : Int32) => (r635 = 0 → R2 (v1 + 1)) ∧ (¬ r635 = 0 → W_X7_advance I L t (fun (I636 : TI) => Q v1 I636)))))
def L_X1_readKind_2 (I : TI) (L : TL) (t : Nat) (Q : Int32 → TI → Prop) : Nat → Int32 → Prop
  | 0, _ => False
  | n9 + 1, v1 => D_X1_readKind_2 I L t Q (fun v1 => L_X1_readKind_2 I L t Q n9 v1) v1
def W_X1_readKind (I : TI) (L : TL) (t : Nat) (Q : Int32 → TI → Prop) : Prop :=
  ∃ n637, L_X1_readKind_2 I L t Q n637 (0 : Int32)
def B_X2_addGate_62 (p0 : Nat) (s1 : Int32) (s2 : Int32) (s3 : Int32) (I : TI) (L : TL) (Q : TI → Prop) : Prop :=
  vp_in s1 16 ∧ (∀ I653 : TI, I653 = (up2 (up2 I (p0 + 4) (s1.toNatClampNeg) (s2 ||| s3)) p0 5 (((up2 I (p0 + 4) (s1.toNatClampNeg) (s2 ||| s3)) p0 5) + 1)) → (Q I653))
def W_X2_addGate (p0 : Nat) (p1 : Int32) (p2 : Int32) (p3 : Int32) (I : TI) (L : TL) (Q : TI → Prop) : Prop :=
  W_X2_nets p0 I L (fun (r654 : Int32) => vp_in r654 16 ∧ (vp_in r654 16 ∧ (∀ I657 : TI, I657 = (up2 (up2 I (p0 + 1) (r654.toNatClampNeg) p1) (p0 + 2) (r654.toNatClampNeg) p2) → (vp_in r654 16 ∧ (vp_in p2 16 ∧ ((¬ p3 = (-1) → vp_in p3 16 ∧ (B_X2_addGate_62 p0 r654 (((1 : Int32) <<< (r654 &&& 31)) ||| ((up2 I657 (p0 + 3) (r654.toNatClampNeg) p3) (p0 + 4) (p2.toNatClampNeg))) ((up2 I657 (p0 + 3) (r654.toNatClampNeg) p3) (p0 + 4) (p3.toNatClampNeg)) (up2 I657 (p0 + 3) (r654.toNatClampNeg) p3) L Q)) ∧ (p3 = (-1) → B_X2_addGate_62 p0 r654 (((1 : Int32) <<< (r654 &&& 31)) ||| ((up2 I657 (p0 + 3) (r654.toNatClampNeg) p3) (p0 + 4) (p2.toNatClampNeg))) (0 : Int32) (up2 I657 (p0 + 3) (r654.toNatClampNeg) p3) L Q)))))))
def B_X1_readGate_81 (p1 : Nat) (v2 : Int32) (v3 : Int32) (v4 : Int32) (v5 : Int32) (v6 : Int32) (I : TI) (L : TL) (t : Nat) (Q : TI → Prop) (R45 : Int32 → TI → Prop) : Prop :=
  R45 (v6 + 1) I
def D_X1_readGate_45 (p1 : Nat) (v2 : Int32) (v3 : Int32) (v4 : Int32) (v5 : Int32) (L : TL) (t : Nat) (Q : TI → Prop) (R45 : Int32 → TI → Prop) (v6 : Int32) (I : TI) : Prop :=
  (3 ≤ v6 → W_X7_takeSign (59 : Int32) I L t (fun (I698 : TI) => W_X7_failed I698 L (fun (r699 : Int32) => (¬ r699 = 0 → Q I698) ∧ (r699 = 0 → W_X2_addGate (p1 + 1) v3 v4 v5 I698 L (fun (I700 : TI) => Q I700))))) ∧ (¬ 3 ≤ v6 → W_X7_takeNumber (1 : Int32) (9 : Int32) I L t (fun (r701 : Int32) (I702 : TI) => W_X7_failed I702 L (fun (r703 : Int32) => (¬ r703 = 0 → B_X1_readGate_81 p1 v2 v3 v4 v5 v6 I702 L t Q R45) ∧ (r703 = 0 → vp_in v6 3 ∧ (vp_in v2 16 ∧ (∀ I706 : TI, I706 = (up2 I702 ((p1 + 8) + v6.toNatClampNeg) (v2.toNatClampNeg) r701) → (B_X1_readGate_81 p1 v2 v3 v4 v5 v6 I706 L t Q R45)))))))
def L_X1_readGate_45 (p1 : Nat) (v2 : Int32) (v3 : Int32) (v4 : Int32) (v5 : Int32) (L : TL) (t : Nat) (Q : TI → Prop) : Nat → Int32 → TI → Prop
  | 0, _, _ => False
  | n9 + 1, v6, I => D_X1_readGate_45 p1 v2 v3 v4 v5 L t Q (fun v6 I => L_X1_readGate_45 p1 v2 v3 v4 v5 L t Q n9 v6 I) v6 I
def B_X1_readGate_40 (p1 : Nat) (v2 : Int32) (v3 : Int32) (v4 : Int32) (s0 : Int32) (I : TI) (L : TL) (t : Nat) (Q : TI → Prop) : Prop :=
  ∃ n707, L_X1_readGate_45 p1 v2 v3 v4 s0 L t Q n707 (0 : Int32) I
def W_X1_readGate (p1 : Nat) (I : TI) (L : TL) (t : Nat) (Q : TI → Prop) : Prop :=
  W_X2_nets (p1 + 1) I L (fun (r708 : Int32) => W_X1_readKind I L t (fun (r709 : Int32) (I710 : TI) => W_X7_takeNumber (0 : Int32) (r708 - 1) I710 L t (fun (r711 : Int32) (I712 : TI) => (5 ≤ r709 → B_X1_readGate_40 p1 r708 r709 r711 ((-1) : Int32) I712 L t Q) ∧ (¬ 5 ≤ r709 → W_X7_takeNumber (0 : Int32) (r708 - 1) I712 L t (fun (r713 : Int32) (I714 : TI) => B_X1_readGate_40 p1 r708 r709 r711 r713 I714 L t Q)))))
def B_X1_readGates_40 (p1 : Nat) (v2 : Int32) (I : TI) (L : TL) (t : Nat) (Q : TI → Prop) (R2 : Int32 → TI → Prop) : Prop :=
  R2 (v2 + 1) I
def D_X1_readGates_2 (p1 : Nat) (L : TL) (t : Nat) (Q : TI → Prop) (R2 : Int32 → TI → Prop) (v2 : Int32) (I : TI) : Prop :=
  (12 < v2 → Q I) ∧ (¬ 12 < v2 → W_X7_isWord 461 I L t (fun (r723 : Int32) => (r723 = 0 → Q I) ∧ (¬ r723 = 0 → (¬ v2 = 12 → W_X7_advance I L t (fun (I724 : TI) => W_X1_readGate p1 I724 L t (fun (I725 : TI) => B_X1_readGates_40 p1 v2 I725 L t Q R2))) ∧ (v2 = 12 → W_X7_fail (3 : Int32) I L (fun (I726 : TI) => B_X1_readGates_40 p1 v2 I726 L t Q R2)))))
def L_X1_readGates_2 (p1 : Nat) (L : TL) (t : Nat) (Q : TI → Prop) : Nat → Int32 → TI → Prop
  | 0, _, _ => False
  | n9 + 1, v2, I => D_X1_readGates_2 p1 L t Q (fun v2 I => L_X1_readGates_2 p1 L t Q n9 v2 I) v2 I
def W_X1_readGates (p1 : Nat) (I : TI) (L : TL) (t : Nat) (Q : TI → Prop) : Prop :=
  ∃ n727, L_X1_readGates_2 p1 L t Q n727 (0 : Int32) I
def D_X1_readPurses_15 (p1 : Nat) (L : TL) (t : Nat) (Q : TI → Prop) (R15 : Int32 → TI → Prop) (v2 : Int32) (I : TI) : Prop :=
  (3 ≤ v2 → W_X7_takeSign (59 : Int32) I L t (fun (I740 : TI) => Q I740)) ∧ (¬ 3 ≤ v2 → W_X7_takeNumber (0 : Int32) (99999 : Int32) I L t (fun (r741 : Int32) (I742 : TI) => vp_in v2 3 ∧ (R15 (v2 + 1) (up2 I742 (p1 + 15) (v2.toNatClampNeg) r741))))
def L_X1_readPurses_15 (p1 : Nat) (L : TL) (t : Nat) (Q : TI → Prop) : Nat → Int32 → TI → Prop
  | 0, _, _ => False
  | n9 + 1, v2, I => D_X1_readPurses_15 p1 L t Q (fun v2 I => L_X1_readPurses_15 p1 L t Q n9 v2 I) v2 I
def W_X1_readPurses (p1 : Nat) (I : TI) (L : TL) (t : Nat) (Q : TI → Prop) : Prop :=
  W_X7_isWord 469 I L t (fun (r744 : Int32) => (r744 = 0 → Q I) ∧ (¬ r744 = 0 → W_X7_advance I L t (fun (I745 : TI) => ∃ n746, L_X1_readPurses_15 p1 L t Q n746 (0 : Int32) I745)))
def W_X7_isEnd (I : TI) (L : TL) (Q : Int32 → Prop) : Prop :=
  W_X7_failed I L (fun (r748 : Int32) => (¬ r748 = 0 → Q 0) ∧ (r748 = 0 → (¬ (I 344 4) = 0 → Q 0) ∧ ((I 344 4) = 0 → Q 1)))
def W_X1_read (p1 : Nat) (I : TI) (L : TL) (t : Nat) (Q : TI → TL → Prop) : Prop :=
  W_X1_readHead p1 I L t (fun (I756 : TI) => W_X1_readInputs p1 I756 L t (fun (I757 : TI) (L758 : TL) => W_X1_readGates p1 I757 L758 t (fun (I759 : TI) => W_X1_readPurses p1 I759 L758 t (fun (I760 : TI) => W_X7_isEnd I760 L758 (fun (r761 : Int32) => (¬ r761 = 0 → Q I760 L758) ∧ (r761 = 0 → W_X7_fail (1 : Int32) I760 L758 (fun (I762 : TI) => Q I762 L758)))))))
def W_X2_hasNet (p0 : Nat) (p1 : Int32) (I : TI) (L : TL) (Q : Int32 → Prop) : Prop :=
  (p1 < 0 → Q 0) ∧ (¬ p1 < 0 → W_X2_nets p0 I L (fun (r764 : Int32) => (r764 ≤ p1 → Q 0) ∧ (¬ r764 ≤ p1 → Q 1)))
def W_X2_hasTime (p0 : Nat) (p1 : Int32) (I : TI) (L : TL) (Q : Int32 → Prop) : Prop :=
  (p1 < 0 → Q 0) ∧ (¬ p1 < 0 → ((I p0 6) < p1 → Q 0) ∧ (¬ (I p0 6) < p1 → Q 1))
def W_X3_start (p0 : Nat) (p1 : Int32) (p2 : Int32) (p3 : Int32) (p4 : Int32) (p5 : Int32) (p6 : Int32) (I : TI) (L : TL) (Q : TI → Prop) : Prop :=
  ∀ I766 : TI, I766 = (up2 (up2 (up2 (up2 (up2 I p0 0 p1) p0 1 p2) p0 2 p3) p0 3 p4) p0 4 p5) → ((p6 = 0 ∨ p6 = 1) ∧ (Q (up2 (up2 (up2 I766 p0 5 p6) p0 6 0) p0 7 (-1))))
def W_X3_copyFrom (p0 : Nat) (p1 : Nat) (I : TI) (L : TL) (Q : TI → Prop) : Prop :=
  W_X3_start p0 (I p1 0) (I p1 1) (I p1 2) (I p1 3) (I p1 4) (I p1 5) I L (fun (I769 : TI) => ∀ I770 : TI, I770 = (up2 (up2 I769 p0 6 (I769 p1 6)) p0 7 ((up2 I769 p0 6 (I769 p1 6)) p1 7)) → (Q I770))
def W_X3_times (p0 : Nat) (I : TI) (L : TL) (Q : Int32 → Prop) : Prop :=
  Q (((I p0 2) - (I p0 1)) + 1)
def B_X3_loserBy_17 (p0 : Nat) (s0 : Int32) (I : TI) (L : TL) (Q : Int32 → Prop) : Prop :=
  (¬ s0 = (I p0 5) → Q (I p0 4)) ∧ (s0 = (I p0 5) → Q ((1 : Int32) - (I p0 4)))
def W_X3_loserBy (p0 : Nat) (p1 : Int32) (I : TI) (L : TL) (Q : Int32 → Prop) : Prop :=
  (¬ p1 = (-1) → (¬ p1 = 1 → B_X3_loserBy_17 p0 (0 : Int32) I L Q) ∧ (p1 = 1 → B_X3_loserBy_17 p0 (1 : Int32) I L Q)) ∧ (p1 = (-1) → Q (-1))
def D_X6_copyFrom_115 (p0 : Nat) (p1 : Nat) (L : TL) (Q : TI → TL → Prop) (R115 : Int32 → TI → Prop) (v2 : Int32) (I : TI) : Prop :=
  ((I p0 7) ≤ v2 → Q (up2 I p0 8 (I p1 8)) L) ∧ (¬ (I p0 7) ≤ v2 → vp_in v2 20 ∧ (vp_in v2 20 ∧ (W_X3_copyFrom ((p0 + 11) + v2.toNatClampNeg) ((p1 + 11) + v2.toNatClampNeg) I L (fun (I780 : TI) => R115 (v2 + 1) I780))))
def L_X6_copyFrom_115 (p0 : Nat) (p1 : Nat) (L : TL) (Q : TI → TL → Prop) : Nat → Int32 → TI → Prop
  | 0, _, _ => False
  | n9 + 1, v2, I => D_X6_copyFrom_115 p0 p1 L Q (fun v2 I => L_X6_copyFrom_115 p0 p1 L Q n9 v2 I) v2 I
def D_X6_copyFrom_2 (p0 : Nat) (p1 : Nat) (L : TL) (Q : TI → TL → Prop) (R2 : Int32 → TI → Prop) (v2 : Int32) (I : TI) : Prop :=
  (3 ≤ v2 → ∀ L781 : TL, L781 = (cpy (cpy L (p1 + 5) (p0 + 5) 0 0 4) (p1 + 6) (p0 + 6) 0 0 16) → (∀ L782 : TL, L782 = (cpy (cpy L781 (p1 + 7) (p0 + 7) 0 0 16) (p1 + 8) (p0 + 8) 0 0 16) → (∀ I783 : TI, I783 = (up2 (cpy I (p1 + 9) (p0 + 9) 0 0 3) p0 7 ((cpy I (p1 + 9) (p0 + 9) 0 0 3) p1 7)) → (∃ n784, L_X6_copyFrom_115 p0 p1 L782 Q n784 (0 : Int32) I783)))) ∧ (¬ 3 ≤ v2 → vp_in v2 3 ∧ (vp_in v2 3 ∧ (∀ I787 : TI, I787 = (cpy I ((p1 + 2) + v2.toNatClampNeg) ((p0 + 2) + v2.toNatClampNeg) 0 0 16) → (R2 (v2 + 1) I787))))
def L_X6_copyFrom_2 (p0 : Nat) (p1 : Nat) (L : TL) (Q : TI → TL → Prop) : Nat → Int32 → TI → Prop
  | 0, _, _ => False
  | n9 + 1, v2, I => D_X6_copyFrom_2 p0 p1 L Q (fun v2 I => L_X6_copyFrom_2 p0 p1 L Q n9 v2 I) v2 I
def W_X6_copyFrom (p0 : Nat) (p1 : Nat) (I : TI) (L : TL) (Q : TI → TL → Prop) : Prop :=
  ∃ n788, L_X6_copyFrom_2 p0 p1 L Q n788 (0 : Int32) I
def B_X4_record_33 (p1 : Nat) (s1 : Int32) (I : TI) (L : TL) (Q : TI → TL → Prop) : Prop :=
  ∀ I795 : TI, I795 = (up2 (up2 I 1 4 s1) 1 3 (mnI (((up2 I 1 4 s1) 1 3) + 1) (10 : Int32))) → (Q I795 L)
def W_X4_record (p1 : Nat) (I : TI) (L : TL) (Q : TI → TL → Prop) : Prop :=
  vp_in (I 1 4) 10 ∧ (W_X6_copyFrom (34 + 31 * (I 1 4).toNatClampNeg) p1 I L (fun (I797 : TI) (L798 : TL) => (¬ (I797 1 4) = 9 → B_X4_record_33 p1 ((I797 1 4) + 1) I797 L798 Q) ∧ ((I797 1 4) = 9 → B_X4_record_33 p1 (0 : Int32) I797 L798 Q)))
def B_X4_takeBack_19 (p1 : Nat) (s1 : Int32) (I : TI) (L : TL) (Q : TI → TL → Prop) : Prop :=
  vp_in ((up2 (up2 I 1 4 s1) 1 3 (((up2 I 1 4 s1) 1 3) - 1)) 1 4) 10 ∧ (W_X6_copyFrom p1 (34 + 31 * ((up2 (up2 I 1 4 s1) 1 3 (((up2 I 1 4 s1) 1 3) - 1)) 1 4).toNatClampNeg) (up2 (up2 I 1 4 s1) 1 3 (((up2 I 1 4 s1) 1 3) - 1)) L (fun (I806 : TI) (L807 : TL) => Q I806 L807))
def W_X4_takeBack (p1 : Nat) (I : TI) (L : TL) (Q : TI → TL → Prop) : Prop :=
  (¬ (I 1 4) = 0 → B_X4_takeBack_19 p1 ((I 1 4) - 1) I L Q) ∧ ((I 1 4) = 0 → B_X4_takeBack_19 p1 (9 : Int32) I L Q)
def W_X4_keep (p1 : Nat) (I : TI) (L : TL) (Q : TI → TL → Prop) : Prop :=
  W_X6_copyFrom 3 p1 I L (fun (I810 : TI) (L811 : TL) => Q (up2 I810 1 2 1) L811)
def W_X4_bringBack (p1 : Nat) (I : TI) (L : TL) (Q : TI → TL → Prop) : Prop :=
  W_X6_copyFrom p1 3 I L (fun (I814 : TI) (L815 : TL) => Q (up2 I814 1 3 0) L815)
def W_X4_discardAll (I : TI) (L : TL) (Q : TI → Prop) : Prop :=
  Q (up2 (up2 I 1 3 0) 1 2 0)
def W_X5_beginTest (I : TI) (L : TL) (Q : TI → Prop) : Prop :=
  Q (up2 (up2 I 346 5 0) 346 6 ((up2 I 346 5 0) 346 4))
def B_X5_openFactors_103 (v3 : Int32) (I : TI) (L : TL) (t : Nat) (Q : TI → Prop) (R9 : Int32 → Int32 → TI → Prop) : Prop :=
  W_X7_isWord 467 I L t (fun (r834 : Int32) => R9 r834 (v3 + 1) I)
def B_X5_openFactors_99 (v3 : Int32) (I : TI) (L : TL) (t : Nat) (Q : TI → Prop) (R9 : Int32 → Int32 → TI → Prop) : Prop :=
  W_X7_advance I L t (fun (I835 : TI) => B_X5_openFactors_103 v3 I835 L t Q R9)
def B_X5_openFactors_28 (v2 : Int32) (v3 : Int32) (I : TI) (L : TL) (t : Nat) (Q : TI → Prop) (R9 : Int32 → Int32 → TI → Prop) : Prop :=
  ((I 346 3) < 6 → vp_in (I 346 3) 6 ∧ (vp_in ((up2 I 347 ((I 346 3).toNatClampNeg) (v2 &&& 1)) 346 3) 6 ∧ (∀ I838 : TI, I838 = (up2 (up2 I 347 ((I 346 3).toNatClampNeg) (v2 &&& 1)) 348 (((up2 I 347 ((I 346 3).toNatClampNeg) (v2 &&& 1)) 346 3).toNatClampNeg) ((up2 I 347 ((I 346 3).toNatClampNeg) (v2 &&& 1)) 346 5)) → (vp_in (I838 346 3) 6 ∧ (∀ I840 : TI, I840 = (up2 (up2 I838 349 ((I838 346 3).toNatClampNeg) (I838 346 6)) 346 3 (((up2 I838 349 ((I838 346 3).toNatClampNeg) (I838 346 6)) 346 3) + 1)) → ((¬ v2 = 0 → B_X5_openFactors_99 v3 I840 L t Q R9) ∧ (v2 = 0 → W_X5_beginTest I840 L (fun (I841 : TI) => B_X5_openFactors_99 v3 I841 L t Q R9)))))))) ∧ (¬ (I 346 3) < 6 → W_X7_fail (3 : Int32) I L (fun (I842 : TI) => B_X5_openFactors_103 v3 I842 L t Q R9))
def D_X5_openFactors_9 (L : TL) (t : Nat) (Q : TI → Prop) (R9 : Int32 → Int32 → TI → Prop) (v2 : Int32) (v3 : Int32) (I : TI) : Prop :=
  (6 < v3 → Q I) ∧ (¬ 6 < v3 → (¬ v2 = 0 → B_X5_openFactors_28 v2 v3 I L t Q R9) ∧ (v2 = 0 → W_X7_isSign (40 : Int32) I L t (fun (r843 : Int32) => (r843 = 0 → Q I) ∧ (¬ r843 = 0 → B_X5_openFactors_28 v2 v3 I L t Q R9))))
def L_X5_openFactors_9 (L : TL) (t : Nat) (Q : TI → Prop) : Nat → Int32 → Int32 → TI → Prop
  | 0, _, _, _ => False
  | n9 + 1, v2, v3, I => D_X5_openFactors_9 L t Q (fun v2 v3 I => L_X5_openFactors_9 L t Q n9 v2 v3 I) v2 v3 I
def W_X5_openFactors (I : TI) (L : TL) (t : Nat) (Q : TI → Prop) : Prop :=
  W_X7_isWord 467 I L t (fun (r844 : Int32) => ∃ n845, L_X5_openFactors_9 L t Q n845 r844 (0 : Int32) I)
def W_X8_propertyWord (p0 : Int32) (I : TI) (L : TL) (Q : Nat → Prop) : Prop :=
  (p0 = 0 → Q 471) ∧ (p0 = 1 → Q 472) ∧ (p0 = 2 → Q 484) ∧ (p0 = 3 → Q 485) ∧ (p0 = 4 → Q 486) ∧ (p0 = 5 → Q 487) ∧ (p0 = 6 → Q 488) ∧ (p0 = 7 → Q 489) ∧ (p0 < 0 ∨ 7 < p0 → Q 490)
def D_X5_readOperand_2 (I : TI) (L : TL) (t : Nat) (Q : Int32 → TI → Prop) (R2 : Int32 → Prop) (v1 : Int32) : Prop :=
  (9 ≤ v1 → W_X7_takeNumber (0 : Int32) (9999 : Int32) I L t (fun (r856 : Int32) (I857 : TI) => Q r856 I857)) ∧ (¬ 9 ≤ v1 → W_X8_propertyWord v1 I L (fun (r858 : Nat) => W_X7_isWord r858 I L t (fun (r859 : Int32) => (r859 = 0 → R2 (v1 + 1)) ∧ (¬ r859 = 0 → W_X7_advance I L t (fun (I860 : TI) => Q ((10000 : Int32) + v1) I860)))))
def L_X5_readOperand_2 (I : TI) (L : TL) (t : Nat) (Q : Int32 → TI → Prop) : Nat → Int32 → Prop
  | 0, _ => False
  | n9 + 1, v1 => D_X5_readOperand_2 I L t Q (fun v1 => L_X5_readOperand_2 I L t Q n9 v1) v1
def W_X5_readOperand (I : TI) (L : TL) (t : Nat) (Q : Int32 → TI → Prop) : Prop :=
  ∃ n861, L_X5_readOperand_2 I L t Q n861 (0 : Int32)
def B_X5_comparison_174 (p2 : Nat) (v3 : Int32) (v4 : Int32) (v5 : Int32) (v6 : Int32) (v7 : Int32) (v8 : Int32) (I : TI) (L : TL) (t : Nat) (Q : Int32 → TI → Prop) (R61 : Int32 → Int32 → Prop) : Prop :=
  R61 v7 (v8 + 1)
def B_X5_comparison_165 (p2 : Nat) (v3 : Int32) (v4 : Int32) (v5 : Int32) (v6 : Int32) (v7 : Int32) (v8 : Int32) (I : TI) (L : TL) (t : Nat) (Q : Int32 → TI → Prop) (R61 : Int32 → Int32 → Prop) : Prop :=
  ∀ x930 : Int32, x930 = (v7 ||| ((1 : Int32) <<< (v8 &&& 31))) → (B_X5_comparison_174 p2 v3 v4 v5 v6 x930 v8 I L t Q R61)
def B_X5_comparison_148 (p2 : Nat) (v3 : Int32) (v4 : Int32) (v5 : Int32) (v6 : Int32) (v7 : Int32) (v8 : Int32) (v9 : Int32) (v10 : Int32) (I : TI) (L : TL) (t : Nat) (Q : Int32 → TI → Prop) (R61 : Int32 → Int32 → Prop) : Prop :=
  (¬ v4 = 0 → B_X5_comparison_174 p2 v3 v4 v5 v6 v7 v8 I L t Q R61) ∧ (v4 = 0 → (¬ v5 = 0 → B_X5_comparison_174 p2 v3 v4 v5 v6 v7 v8 I L t Q R61) ∧ (v5 = 0 → (¬ v9 = v10 → B_X5_comparison_174 p2 v3 v4 v5 v6 v7 v8 I L t Q R61) ∧ (v9 = v10 → B_X5_comparison_165 p2 v3 v4 v5 v6 v7 v8 I L t Q R61)))
def B_X5_comparison_136 (p2 : Nat) (v3 : Int32) (v4 : Int32) (v5 : Int32) (v6 : Int32) (v7 : Int32) (v8 : Int32) (v9 : Int32) (v10 : Int32) (I : TI) (L : TL) (t : Nat) (Q : Int32 → TI → Prop) (R61 : Int32 → Int32 → Prop) : Prop :=
  (v5 = 0 → B_X5_comparison_148 p2 v3 v4 v5 v6 v7 v8 v9 v10 I L t Q R61) ∧ (¬ v5 = 0 → (v10 < v9 → B_X5_comparison_165 p2 v3 v4 v5 v6 v7 v8 I L t Q R61) ∧ (¬ v10 < v9 → B_X5_comparison_148 p2 v3 v4 v5 v6 v7 v8 v9 v10 I L t Q R61))
def B_X5_comparison_122 (p2 : Nat) (v3 : Int32) (v4 : Int32) (v5 : Int32) (v6 : Int32) (v7 : Int32) (v8 : Int32) (v9 : Int32) (s0 : Int32) (I : TI) (L : TL) (t : Nat) (Q : Int32 → TI → Prop) (R61 : Int32 → Int32 → Prop) : Prop :=
  (v4 = 0 → B_X5_comparison_136 p2 v3 v4 v5 v6 v7 v8 v9 s0 I L t Q R61) ∧ (¬ v4 = 0 → (v9 < s0 → B_X5_comparison_165 p2 v3 v4 v5 v6 v7 v8 I L t Q R61) ∧ (¬ v9 < s0 → B_X5_comparison_136 p2 v3 v4 v5 v6 v7 v8 v9 s0 I L t Q R61))
def B_X5_comparison_95 (p2 : Nat) (v3 : Int32) (v4 : Int32) (v5 : Int32) (v6 : Int32) (v7 : Int32) (v8 : Int32) (s0 : Int32) (I : TI) (L : TL) (t : Nat) (Q : Int32 → TI → Prop) (R61 : Int32 → Int32 → Prop) : Prop :=
  (10000 ≤ v6 → W_X0_propertyOf p2 v8 (v6 - 10000) I L (fun (r931 : Int32) => B_X5_comparison_122 p2 v3 v4 v5 v6 v7 v8 s0 r931 I L t Q R61)) ∧ (¬ 10000 ≤ v6 → B_X5_comparison_122 p2 v3 v4 v5 v6 v7 v8 s0 v6 I L t Q R61)
def D_X5_comparison_61 (p2 : Nat) (v3 : Int32) (v4 : Int32) (v5 : Int32) (v6 : Int32) (I : TI) (L : TL) (t : Nat) (Q : Int32 → TI → Prop) (R61 : Int32 → Int32 → Prop) (v7 : Int32) (v8 : Int32) : Prop :=
  W_X2_nets (p2 + 1) I L (fun (r932 : Int32) => (r932 ≤ v8 → Q v7 I) ∧ (¬ r932 ≤ v8 → (10000 ≤ v3 → W_X0_propertyOf p2 v8 (v3 - 10000) I L (fun (r933 : Int32) => B_X5_comparison_95 p2 v3 v4 v5 v6 v7 v8 r933 I L t Q R61)) ∧ (¬ 10000 ≤ v3 → B_X5_comparison_95 p2 v3 v4 v5 v6 v7 v8 v3 I L t Q R61)))
def L_X5_comparison_61 (p2 : Nat) (v3 : Int32) (v4 : Int32) (v5 : Int32) (v6 : Int32) (I : TI) (L : TL) (t : Nat) (Q : Int32 → TI → Prop) : Nat → Int32 → Int32 → Prop
  | 0, _, _ => False
  | n9 + 1, v7, v8 => D_X5_comparison_61 p2 v3 v4 v5 v6 I L t Q (fun v7 v8 => L_X5_comparison_61 p2 v3 v4 v5 v6 I L t Q n9 v7 v8) v7 v8
def B_X5_comparison_45 (p2 : Nat) (v3 : Int32) (v4 : Int32) (v5 : Int32) (I : TI) (L : TL) (t : Nat) (Q : Int32 → TI → Prop) : Prop :=
  W_X7_advance I L t (fun (I934 : TI) => W_X5_readOperand I934 L t (fun (r935 : Int32) (I936 : TI) => ∃ n937, L_X5_comparison_61 p2 v3 v4 v5 r935 I936 L t Q n937 (0 : Int32) (0 : Int32)))
def W_X5_comparison (p2 : Nat) (I : TI) (L : TL) (t : Nat) (Q : Int32 → TI → Prop) : Prop :=
  W_X5_readOperand I L t (fun (r938 : Int32) (I939 : TI) => W_X7_isSign (60 : Int32) I939 L t (fun (r940 : Int32) => W_X7_isSign (62 : Int32) I939 L t (fun (r941 : Int32) => (¬ r940 = 0 → B_X5_comparison_45 p2 r938 r940 r941 I939 L t Q) ∧ (r940 = 0 → (¬ r941 = 0 → B_X5_comparison_45 p2 r938 r940 r941 I939 L t Q) ∧ (r941 = 0 → W_X7_isSign (61 : Int32) I939 L t (fun (r942 : Int32) => (¬ r942 = 0 → B_X5_comparison_45 p2 r938 r940 r941 I939 L t Q) ∧ (r942 = 0 → W_X7_fail (1 : Int32) I939 L (fun (I943 : TI) => B_X5_comparison_45 p2 r938 r940 r941 I943 L t Q))))))))
def B_X5_endFactor_45 (v2 : Int32) (I : TI) (L : TL) (Q : TI → Prop) : Prop :=
  Q (up2 I 346 6 ((I 346 6) &&& v2))
def D_X5_endFactor_2 (L : TL) (Q : TI → Prop) (R2 : Int32 → TI → Prop) (v2 : Int32) (I : TI) : Prop :=
  ((I 346 3) ≤ 0 → B_X5_endFactor_45 v2 I L Q) ∧ (¬ (I 346 3) ≤ 0 → vp_in ((I 346 3) - 1) 6 ∧ (((I 347 (((I 346 3) - 1).toNatClampNeg)) = 0 → B_X5_endFactor_45 v2 I L Q) ∧ (¬ (I 347 (((I 346 3) - 1).toNatClampNeg)) = 0 → ∀ x947 : Int32, x947 = ((I 346 4) &&& (v2 ^^^ (-1))) → (R2 x947 (up2 I 346 3 ((I 346 3) - 1))))))
def L_X5_endFactor_2 (L : TL) (Q : TI → Prop) : Nat → Int32 → TI → Prop
  | 0, _, _ => False
  | n9 + 1, v2, I => D_X5_endFactor_2 L Q (fun v2 I => L_X5_endFactor_2 L Q n9 v2 I) v2 I
def W_X5_endFactor (p1 : Int32) (I : TI) (L : TL) (Q : TI → Prop) : Prop :=
  ∃ n948, L_X5_endFactor_2 L Q n948 p1 I
def D_X5_closeParentheses_0 (L : TL) (t : Nat) (Q : TI → Prop) (R0 : TI → Prop) (I : TI) : Prop :=
  ((I 346 3) ≤ 0 → Q I) ∧ (¬ (I 346 3) ≤ 0 → W_X7_isSign (41 : Int32) I L t (fun (r954 : Int32) => (r954 = 0 → Q I) ∧ (¬ r954 = 0 → vp_in ((up2 I 346 3 ((I 346 3) - 1)) 346 3) 6 ∧ (∀ I956 : TI, I956 = (up2 (up2 I 346 3 ((I 346 3) - 1)) 346 5 ((up2 I 346 3 ((I 346 3) - 1)) 348 (((up2 I 346 3 ((I 346 3) - 1)) 346 3).toNatClampNeg))) → (vp_in (I956 346 3) 6 ∧ (W_X5_endFactor ((I 346 5) ||| (I 346 6)) (up2 I956 346 6 (I956 349 ((I956 346 3).toNatClampNeg))) L (fun (I958 : TI) => W_X7_advance I958 L t (fun (I959 : TI) => R0 I959))))))))
def L_X5_closeParentheses_0 (L : TL) (t : Nat) (Q : TI → Prop) : Nat → TI → Prop
  | 0, _ => False
  | n9 + 1, I => D_X5_closeParentheses_0 L t Q (fun I => L_X5_closeParentheses_0 L t Q n9 I) I
def W_X5_closeParentheses (I : TI) (L : TL) (t : Nat) (Q : TI → Prop) : Prop :=
  ∃ n960, L_X5_closeParentheses_0 L t Q n960 I
def B_X5_goesOn_65 (I : TI) (L : TL) (t : Nat) (Q : Int32 → TI → Prop) : Prop :=
  W_X7_fail (1 : Int32) I L (fun (I970 : TI) => Q 0 I970)
def B_X5_goesOn_45 (I : TI) (L : TL) (t : Nat) (Q : Int32 → TI → Prop) : Prop :=
  W_X7_advance I L t (fun (I971 : TI) => Q 1 I971)
def B_X5_goesOn_20 (v2 : Int32) (I : TI) (L : TL) (t : Nat) (Q : Int32 → TI → Prop) : Prop :=
  (¬ v2 = 0 → B_X5_goesOn_45 I L t Q) ∧ (v2 = 0 → ∀ I972 : TI, I972 = (up2 (up2 I 346 5 ((I 346 5) ||| (I 346 6))) 346 6 ((up2 I 346 5 ((I 346 5) ||| (I 346 6))) 346 4)) → (B_X5_goesOn_45 I972 L t Q))
def W_X5_goesOn (I : TI) (L : TL) (t : Nat) (Q : Int32 → TI → Prop) : Prop :=
  W_X7_isWord 462 I L t (fun (r973 : Int32) => (¬ r973 = 0 → B_X5_goesOn_20 r973 I L t Q) ∧ (r973 = 0 → W_X7_isWord 463 I L t (fun (r974 : Int32) => (r974 = 0 → (0 < (I 346 3) → B_X5_goesOn_65 I L t Q) ∧ (¬ 0 < (I 346 3) → W_X7_isEnd I L (fun (r975 : Int32) => (¬ r975 = 0 → Q 0 I) ∧ (r975 = 0 → B_X5_goesOn_65 I L t Q)))) ∧ (¬ r974 = 0 → B_X5_goesOn_20 r973 I L t Q))))
def B_X5_netsOf_73 (p2 : Nat) (I : TI) (L : TL) (t : Nat) (Q : Int32 → TI → Prop) : Prop :=
  Q ((I 346 5) ||| (I 346 6)) I
def D_X5_netsOf_29 (p2 : Nat) (L : TL) (t : Nat) (Q : Int32 → TI → Prop) (R29 : Int32 → Int32 → TI → Prop) (v3 : Int32) (v4 : Int32) (I : TI) : Prop :=
  (v3 = 0 → B_X5_netsOf_73 p2 I L t Q) ∧ (¬ v3 = 0 → (200 < v4 → B_X5_netsOf_73 p2 I L t Q) ∧ (¬ 200 < v4 → W_X5_openFactors I L t (fun (I994 : TI) => W_X5_comparison p2 I994 L t (fun (r995 : Int32) (I996 : TI) => W_X5_endFactor r995 I996 L (fun (I997 : TI) => W_X5_closeParentheses I997 L t (fun (I998 : TI) => W_X5_goesOn I998 L t (fun (r999 : Int32) (I1000 : TI) => R29 r999 (v4 + 1) I1000)))))))
def L_X5_netsOf_29 (p2 : Nat) (L : TL) (t : Nat) (Q : Int32 → TI → Prop) : Nat → Int32 → Int32 → TI → Prop
  | 0, _, _, _ => False
  | n9 + 1, v3, v4, I => D_X5_netsOf_29 p2 L t Q (fun v3 v4 I => L_X5_netsOf_29 p2 L t Q n9 v3 v4 I) v3 v4 I
def W_X5_netsOf (p2 : Nat) (I : TI) (L : TL) (t : Nat) (Q : Int32 → TI → Prop) : Prop :=
  W_X2_nets (p2 + 1) I L (fun (r1001 : Int32) => ∀ I1002 : TI, I1002 = (up2 (up2 I 346 4 (((1 : Int32) <<< (r1001 &&& 31)) - 1)) 346 3 0) → (W_X5_beginTest I1002 L (fun (I1003 : TI) => ∃ n1004, L_X5_netsOf_29 p2 L t Q n1004 (1 : Int32) (0 : Int32) I1003)))
def W_X6_timeState (p0 : Nat) (p1 : Int32) (p2 : Int32) (I : TI) (L : TL) (Q : Int32 → Prop) : Prop :=
  vp_in p1 16 ∧ (W_X8_bitOf (L (p0 + 6) (p1.toNatClampNeg)) p2 I L (fun (r1010 : Int32) => (¬ r1010 = 1 → vp_in p1 16 ∧ (W_X8_bitOf (L (p0 + 7) (p1.toNatClampNeg)) p2 I L (fun (r1012 : Int32) => Q r1012))) ∧ (r1010 = 1 → Q 2)))
def B_X6_hasPending_66 (p0 : Nat) (v1 : Int32) (v2 : Int32) (v3 : Int32) (v5 : Int32) (s0 : Int32) (s1 : Int32) (I : TI) (L : TL) (Q : Int32 → Prop) (R6 : Int32 → Int32 → Prop) : Prop :=
  R6 (s0 ||| s1) (v5 + 1)
def B_X6_hasPending_65 (p0 : Nat) (v1 : Int32) (v2 : Int32) (v3 : Int32) (v5 : Int32) (s0 : Int32) (I : TI) (L : TL) (Q : Int32 → Prop) (R6 : Int32 → Int32 → Prop) : Prop :=
  B_X6_hasPending_66 p0 v1 v2 v3 v5 s0 (0 : Int32) I L Q R6
def D_X6_hasPending_6 (p0 : Nat) (v1 : Int32) (v2 : Int32) (v3 : Int32) (I : TI) (L : TL) (Q : Int32 → Prop) (R6 : Int32 → Int32 → Prop) (v4 : Int32) (v5 : Int32) : Prop :=
  ((I p0 7) ≤ v5 → (v4 = 0 ∨ v4 = 1) ∧ (Q v4)) ∧ (¬ (I p0 7) ≤ v5 → vp_in v5 20 ∧ (W_X3_isPending ((p0 + 11) + v5.toNatClampNeg) I L (fun (r1021 : Int32) => (r1021 = 0 → B_X6_hasPending_65 p0 v1 v2 v3 v5 v4 I L Q R6) ∧ (¬ r1021 = 0 → (¬ (I ((p0 + 11) + v5.toNatClampNeg) 0) = v1 → B_X6_hasPending_65 p0 v1 v2 v3 v5 v4 I L Q R6) ∧ ((I ((p0 + 11) + v5.toNatClampNeg) 0) = v1 → (v3 < (I ((p0 + 11) + v5.toNatClampNeg) 1) → B_X6_hasPending_65 p0 v1 v2 v3 v5 v4 I L Q R6) ∧ (¬ v3 < (I ((p0 + 11) + v5.toNatClampNeg) 1) → ((I ((p0 + 11) + v5.toNatClampNeg) 2) < v2 → B_X6_hasPending_65 p0 v1 v2 v3 v5 v4 I L Q R6) ∧ (¬ (I ((p0 + 11) + v5.toNatClampNeg) 2) < v2 → B_X6_hasPending_66 p0 v1 v2 v3 v5 v4 (1 : Int32) I L Q R6)))))))
def L_X6_hasPending_6 (p0 : Nat) (v1 : Int32) (v2 : Int32) (v3 : Int32) (I : TI) (L : TL) (Q : Int32 → Prop) : Nat → Int32 → Int32 → Prop
  | 0, _, _ => False
  | n9 + 1, v4, v5 => D_X6_hasPending_6 p0 v1 v2 v3 I L Q (fun v4 v5 => L_X6_hasPending_6 p0 v1 v2 v3 I L Q n9 v4 v5) v4 v5
def W_X6_hasPending (p0 : Nat) (p1 : Int32) (p2 : Int32) (p3 : Int32) (I : TI) (L : TL) (Q : Int32 → Prop) : Prop :=
  ∃ n1022, L_X6_hasPending_6 p0 p1 p2 p3 I L Q n1022 (0 : Int32) (0 : Int32)
def W_X6_payCourt (p0 : Nat) (p1 : Int32) (p2 : Int32) (I : TI) (L : TL) (Q : TI → Prop) : Prop :=
  vp_in p1 3 ∧ (vp_in p1 3 ∧ (∀ I1027 : TI, I1027 = (up2 I (p0 + 9) (p1.toNatClampNeg) ((I (p0 + 9) (p1.toNatClampNeg)) - p2)) → (Q (up2 I1027 (p0 + 9) 2 ((I1027 (p0 + 9) 2) + p2)))))
def W_X7_begin (p2 : Int32) (I : TI) (L : TL) (t : Nat) (Q : TI → Nat → Prop) : Prop :=
  ∀ I1029 : TI, I1029 = (up2 (up2 (up2 (up2 I 344 1 (mnI p2 (nI 600))) 344 3 0) 344 6 0) 344 7 (-1)) → (W_X7_advance I1029 L 350 (fun (I1030 : TI) => Q I1030 350))
def D_X8_putBytes_3 (v1 : Int32) (L : TL) (Q : TI → Prop) (R3 : Int32 → TI → Prop) (v2 : Int32) (I : TI) : Prop :=
  (v2 < 0 → Q I) ∧ (¬ v2 < 0 → (600 ≤ (I 0 7) → Q I) ∧ (¬ 600 ≤ (I 0 7) → vp_in (I 0 7) 600 ∧ (∀ I1034 : TI, I1034 = (up2 I 350 ((I 0 7).toNatClampNeg) ((ushI v1 v2).toInt8.toInt32).toInt8.toInt32) → (R3 (v2 + (-8)) (up2 I1034 0 7 ((I1034 0 7) + 1))))))
def L_X8_putBytes_3 (v1 : Int32) (L : TL) (Q : TI → Prop) : Nat → Int32 → TI → Prop
  | 0, _, _ => False
  | n9 + 1, v2, I => D_X8_putBytes_3 v1 L Q (fun v2 I => L_X8_putBytes_3 v1 L Q n9 v2 I) v2 I
def W_X8_putBytes (p1 : Int32) (I : TI) (L : TL) (Q : TI → Prop) : Prop :=
  ∃ n1035, L_X8_putBytes_3 p1 L Q n1035 (24 : Int32) I
def W_X8_feed (p1 : Int32) (p2 : Int32) (p3 : Int32) (p4 : Int32) (p5 : Int32) (I : TI) (L : TL) (Q : Int32 → TI → Prop) : Prop :=
  ((I 0 7) ≤ 580 → W_X8_putBytes p1 I L (fun (I1041 : TI) => W_X8_putBytes p2 I1041 L (fun (I1042 : TI) => W_X8_putBytes p3 I1042 L (fun (I1043 : TI) => W_X8_putBytes p4 I1043 L (fun (I1044 : TI) => W_X8_putBytes p5 I1044 L (fun (I1045 : TI) => Q (I1045 0 7) I1045)))))) ∧ (¬ (I 0 7) ≤ 580 → Q (-1) I)
def W_X8_load (p1 : Int32) (I : TI) (L : TL) (b : Nat) (d : Nat) (t : Nat) (Q : Int32 → TI → TL → Nat → Nat → Nat → Prop) (QX : String → TI → TL → Nat → Nat → Nat → Prop) : Prop :=
  (p1 < 0 → QX "java/lang/IllegalArgumentException" I L b d t) ∧ (¬ p1 < 0 → (p1 ≤ (I 0 7) → W_X7_begin p1 I L t (fun (I1058 : TI) (t1059 : Nat) => txOK t1059 ∧ (W_X0_clear d I1058 L (fun (I1061 : TI) (L1062 : TL) => W_X1_read d I1061 L1062 t1059 (fun (I1063 : TI) (L1064 : TL) => W_X7_failed (up2 (up2 I1063 0 7 0) 0 9 ((up2 I1063 0 7 0) 344 7)) L1064 (fun (r1065 : Int32) => (r1065 = 0 → W_X0_refresh d (up2 (up2 I1063 0 7 0) 0 9 ((up2 I1063 0 7 0) 344 7)) L1064 (fun (I1066 : TI) (L1067 : TL) => W_X4_discardAll I1066 L1067 (fun (I1068 : TI) => W_X2_nets (d + 1) I1068 L1067 (fun (r1069 : Int32) => Q r1069 I1068 L1067 d b t1059)))) ∧ (¬ r1065 = 0 → Q (((-10) : Int32) - ((up2 (up2 I1063 0 7 0) 0 9 ((up2 I1063 0 7 0) 344 7)) 344 6)) (up2 (up2 I1063 0 7 0) 0 9 ((up2 I1063 0 7 0) 344 7)) L1064 b d t1059))))))) ∧ (¬ p1 ≤ (I 0 7) → QX "java/lang/IllegalArgumentException" I L b d t))
def W_X8_errorPosition (I : TI) (L : TL) (Q : Int32 → Prop) : Prop :=
  Q (I 0 9)
def W_X8_size (p1 : Int32) (I : TI) (L : TL) (b : Nat) (d : Nat) (Q : Int32 → Prop) (QX : String → Prop) : Prop :=
  (p1 = 0 → Q (I (b + 1) 4)) ∧ (p1 = 1 → Q (I (b + 1) 5)) ∧ (p1 = 2 → Q (I (b + 1) 6)) ∧ (p1 = 3 → Q (I (b + 6) 8)) ∧ (p1 = 4 → Q (I (b + 1) 7)) ∧ (p1 = 5 → Q (I (b + 1) 8)) ∧ (p1 = 6 → Q (I (b + 6) 7)) ∧ (p1 = 7 → Q (I (b + 15) 0)) ∧ (p1 = 8 → Q (I (b + 15) 1)) ∧ (p1 = 9 → Q (I (b + 15) 2)) ∧ (p1 < 0 ∨ 9 < p1 → QX "java/util/NoSuchElementException")
def W_X8_requireGate (p1 : Int32) (I : TI) (L : TL) (b : Nat) (d : Nat) (Q : Prop) (QX : String → Prop) : Prop :=
  W_X2_hasGate (b + 1) p1 I L (fun (r1071 : Int32) => (¬ r1071 = 0 → Q) ∧ (r1071 = 0 → QX "java/util/NoSuchElementException"))
def W_X8_gate (p1 : Int32) (p2 : Int32) (I : TI) (L : TL) (b : Nat) (d : Nat) (Q : Int32 → Prop) (QX : String → Prop) : Prop :=
  W_X8_requireGate p1 I L b d ((p2 = 0 → vp_in p1 16 ∧ (Q (I (b + 2) (p1.toNatClampNeg)))) ∧ (p2 = 1 → vp_in p1 16 ∧ (Q (I (b + 3) (p1.toNatClampNeg)))) ∧ (p2 = 2 → vp_in p1 16 ∧ (Q (I (b + 4) (p1.toNatClampNeg)))) ∧ (p2 = 3 → vp_in p1 16 ∧ (Q (I (b + 8) (p1.toNatClampNeg)))) ∧ (p2 = 4 → vp_in p1 16 ∧ (Q (I (b + 9) (p1.toNatClampNeg)))) ∧ (p2 = 5 → vp_in p1 16 ∧ (Q (I (b + 10) (p1.toNatClampNeg)))) ∧ (p2 = 6 → W_X2_cone (b + 1) p1 I L (fun (r1088 : Int32) => Q r1088)) ∧ (p2 = 7 → W_X6_settledTimes (b + 6) p1 I L (fun (r1089 : Int32) => Q r1089)) ∧ (p2 = 8 → W_X6_ruledTimes (b + 6) p1 I L (fun (r1090 : Int32) => Q r1090)) ∧ (p2 = 9 → W_X0_pulses b p1 I L (fun (r1091 : Int32) => Q r1091)) ∧ (p2 < 0 ∨ 9 < p2 → QX "java/util/NoSuchElementException")) (fun (e9 : String) => QX e9)
def W_X8_requireNet (p1 : Int32) (I : TI) (L : TL) (b : Nat) (d : Nat) (Q : Prop) (QX : String → Prop) : Prop :=
  W_X2_hasNet (b + 1) p1 I L (fun (r1093 : Int32) => (¬ r1093 = 0 → Q) ∧ (r1093 = 0 → QX "java/util/NoSuchElementException"))
def W_X8_requireTimes (p1 : Int32) (p2 : Int32) (I : TI) (L : TL) (b : Nat) (d : Nat) (Q : Prop) (QX : String → Prop) : Prop :=
  W_X2_hasTime (b + 1) p1 I L (fun (r1096 : Int32) => (r1096 = 0 → QX "java/lang/IllegalArgumentException") ∧ (¬ r1096 = 0 → W_X2_hasTime (b + 1) p2 I L (fun (r1097 : Int32) => (r1097 = 0 → QX "java/lang/IllegalArgumentException") ∧ (¬ r1097 = 0 → (p1 ≤ p2 → Q) ∧ (¬ p1 ≤ p2 → QX "java/lang/IllegalArgumentException")))))
def W_X8_requireWave (p1 : Int32) (p2 : Int32) (I : TI) (L : TL) (b : Nat) (d : Nat) (Q : Int64 → Prop) (QX : String → Prop) : Prop :=
  W_X8_requireNet p1 I L b d ((p2 = 0 → vp_in p1 16 ∧ (Q (L (b + 37) (p1.toNatClampNeg)))) ∧ (p2 = 1 → vp_in p1 16 ∧ (Q (L (b + 38) (p1.toNatClampNeg)))) ∧ (p2 = 2 → vp_in p1 16 ∧ (Q (L (b + 39) (p1.toNatClampNeg)))) ∧ (p2 < 0 ∨ 2 < p2 → QX "java/util/NoSuchElementException")) (fun (e9 : String) => QX e9)
def W_X8_value (p1 : Int32) (p2 : Int32) (p3 : Int32) (I : TI) (L : TL) (b : Nat) (d : Nat) (Q : Int32 → Prop) (QX : String → Prop) : Prop :=
  W_X8_requireWave p1 p3 I L b d (fun (r1107 : Int64) => W_X2_hasTime (b + 1) p2 I L (fun (r1108 : Int32) => (¬ r1108 = 0 → W_X8_bitOf r1107 p2 I L (fun (r1109 : Int32) => Q r1109)) ∧ (r1108 = 0 → QX "java/util/NoSuchElementException"))) (fun (e9 : String) => QX e9)
def W_X8_stateAt (p1 : Int32) (p2 : Int32) (I : TI) (L : TL) (b : Nat) (d : Nat) (Q : Int32 → Prop) (QX : String → Prop) : Prop :=
  W_X8_requireNet p1 I L b d (W_X2_hasTime (b + 1) p2 I L (fun (r1112 : Int32) => (¬ r1112 = 0 → W_X6_timeState (b + 6) p1 p2 I L (fun (r1113 : Int32) => Q r1113)) ∧ (r1112 = 0 → QX "java/util/NoSuchElementException"))) (fun (e9 : String) => QX e9)
def W_X8_wave (p1 : Int32) (p2 : Int32) (I : TI) (L : TL) (b : Nat) (d : Nat) (Q : Int64 → Prop) (QX : String → Prop) : Prop :=
  W_X8_requireWave p1 p2 I L b d (fun (r1115 : Int64) => Q r1115) (fun (e9 : String) => QX e9)
def W_X8_changes (p1 : Int32) (p2 : Int32) (I : TI) (L : TL) (b : Nat) (d : Nat) (Q : Int32 → Prop) (QX : String → Prop) : Prop :=
  W_X8_requireWave p1 p2 I L b d (fun (r1118 : Int64) => W_X8_changesOf r1118 (I (b + 1) 6) I L (fun (r1119 : Int32) => Q r1119)) (fun (e9 : String) => QX e9)
def D_X8_quietFrom_19 (v3 : Int64) (I : TI) (L : TL) (b : Nat) (d : Nat) (Q : Int32 → Prop) (QX : String → Prop) (R19 : Int32 → Prop) (v5 : Int32) : Prop :=
  (v5 ≤ 0 → Q v5) ∧ (¬ v5 ≤ 0 → W_X8_bitOf v3 (v5 - 1) I L (fun (r1126 : Int32) => W_X8_bitOf v3 v5 I L (fun (r1127 : Int32) => (¬ r1126 = r1127 → Q v5) ∧ (r1126 = r1127 → R19 (v5 + (-1))))))
def L_X8_quietFrom_19 (v3 : Int64) (I : TI) (L : TL) (b : Nat) (d : Nat) (Q : Int32 → Prop) (QX : String → Prop) : Nat → Int32 → Prop
  | 0, _ => False
  | n9 + 1, v5 => D_X8_quietFrom_19 v3 I L b d Q QX (fun v5 => L_X8_quietFrom_19 v3 I L b d Q QX n9 v5) v5
def W_X8_quietFrom (p1 : Int32) (p2 : Int32) (I : TI) (L : TL) (b : Nat) (d : Nat) (Q : Int32 → Prop) (QX : String → Prop) : Prop :=
  W_X8_requireWave p1 p2 I L b d (fun (r1128 : Int64) => ∃ n1129, L_X8_quietFrom_19 r1128 I L b d Q QX n1129 (I (b + 1) 6)) (fun (e9 : String) => QX e9)
def B_X8_shortest_80 (v3 : Int64) (v5 : Int32) (v6 : Int32) (v7 : Int32) (I : TI) (L : TL) (b : Nat) (d : Nat) (Q : Int32 → Prop) (QX : String → Prop) (R16 : Int32 → Int32 → Int32 → Prop) : Prop :=
  R16 v5 v6 (v7 + 1)
def B_X8_shortest_76 (v3 : Int64) (v5 : Int32) (v7 : Int32) (I : TI) (L : TL) (b : Nat) (d : Nat) (Q : Int32 → Prop) (QX : String → Prop) (R16 : Int32 → Int32 → Int32 → Prop) : Prop :=
  B_X8_shortest_80 v3 v5 v7 v7 I L b d Q QX R16
def B_X8_shortest_69 (v3 : Int64) (v6 : Int32) (v7 : Int32) (I : TI) (L : TL) (b : Nat) (d : Nat) (Q : Int32 → Prop) (QX : String → Prop) (R16 : Int32 → Int32 → Int32 → Prop) : Prop :=
  B_X8_shortest_76 v3 (v7 - v6) v7 I L b d Q QX R16
def D_X8_shortest_16 (v3 : Int64) (I : TI) (L : TL) (b : Nat) (d : Nat) (Q : Int32 → Prop) (QX : String → Prop) (R16 : Int32 → Int32 → Int32 → Prop) (v5 : Int32) (v6 : Int32) (v7 : Int32) : Prop :=
  ((I (b + 1) 6) < v7 → Q v5) ∧ (¬ (I (b + 1) 6) < v7 → W_X8_bitOf v3 v7 I L (fun (r1136 : Int32) => W_X8_bitOf v3 (v7 - 1) I L (fun (r1137 : Int32) => (r1136 = r1137 → B_X8_shortest_80 v3 v5 v6 v7 I L b d Q QX R16) ∧ (¬ r1136 = r1137 → (v6 ≤ 0 → B_X8_shortest_76 v3 v5 v7 I L b d Q QX R16) ∧ (¬ v6 ≤ 0 → (v5 = (-1) → B_X8_shortest_69 v3 v6 v7 I L b d Q QX R16) ∧ (¬ v5 = (-1) → (v5 ≤ (v7 - v6) → B_X8_shortest_76 v3 v5 v7 I L b d Q QX R16) ∧ (¬ v5 ≤ (v7 - v6) → B_X8_shortest_69 v3 v6 v7 I L b d Q QX R16)))))))
def L_X8_shortest_16 (v3 : Int64) (I : TI) (L : TL) (b : Nat) (d : Nat) (Q : Int32 → Prop) (QX : String → Prop) : Nat → Int32 → Int32 → Int32 → Prop
  | 0, _, _, _ => False
  | n9 + 1, v5, v6, v7 => D_X8_shortest_16 v3 I L b d Q QX (fun v5 v6 v7 => L_X8_shortest_16 v3 I L b d Q QX n9 v5 v6 v7) v5 v6 v7
def W_X8_shortest (p1 : Int32) (p2 : Int32) (I : TI) (L : TL) (b : Nat) (d : Nat) (Q : Int32 → Prop) (QX : String → Prop) : Prop :=
  W_X8_requireWave p1 p2 I L b d (fun (r1138 : Int64) => ∃ n1139, L_X8_shortest_16 r1138 I L b d Q QX n1139 ((-1) : Int32) (0 : Int32) (1 : Int32)) (fun (e9 : String) => QX e9)
def W_X8_wrong (p1 : Int32) (I : TI) (L : TL) (b : Nat) (d : Nat) (Q : Int32 → Prop) (QX : String → Prop) : Prop :=
  W_X8_requireNet p1 I L b d (W_X0_wrongTimes b p1 I L (fun (r1142 : Int64) => W_J13_bitCount_95d88 r1142 I L (fun (r1143 : Int32) => Q r1143))) (fun (e9 : String) => QX e9)
def B_J6_numberOfTrailingZeros_0f7a4_74 (v0 : Int32) (v1 : Int32) (I : TI) (L : TL) (Q : Int32 → Prop) : Prop :=
  Q (v1 + (ushI v0 (1 : Int32)))
def B_J6_numberOfTrailingZeros_0f7a4_62 (v0 : Int32) (v1 : Int32) (I : TI) (L : TL) (Q : Int32 → Prop) : Prop :=
  (v0 ≤ 4 → B_J6_numberOfTrailingZeros_0f7a4_74 v0 v1 I L Q) ∧ (¬ v0 ≤ 4 → B_J6_numberOfTrailingZeros_0f7a4_74 (ushI v0 (2 : Int32)) (v1 + 2) I L Q)
def B_J6_numberOfTrailingZeros_0f7a4_49 (v0 : Int32) (v1 : Int32) (I : TI) (L : TL) (Q : Int32 → Prop) : Prop :=
  (v0 ≤ 16 → B_J6_numberOfTrailingZeros_0f7a4_62 v0 v1 I L Q) ∧ (¬ v0 ≤ 16 → B_J6_numberOfTrailingZeros_0f7a4_62 (ushI v0 (4 : Int32)) (v1 + 4) I L Q)
def B_J6_numberOfTrailingZeros_0f7a4_34 (v0 : Int32) (v1 : Int32) (I : TI) (L : TL) (Q : Int32 → Prop) : Prop :=
  (v0 ≤ 256 → B_J6_numberOfTrailingZeros_0f7a4_49 v0 v1 I L Q) ∧ (¬ v0 ≤ 256 → B_J6_numberOfTrailingZeros_0f7a4_49 (ushI v0 (8 : Int32)) (v1 + 8) I L Q)
def W_J6_numberOfTrailingZeros_0f7a4 (p0 : Int32) (I : TI) (L : TL) (Q : Int32 → Prop) : Prop :=
  (0 < ((p0 ^^^ (-1)) &&& (p0 - 1)) → (((p0 ^^^ (-1)) &&& (p0 - 1)) ≤ 65536 → B_J6_numberOfTrailingZeros_0f7a4_34 ((p0 ^^^ (-1)) &&& (p0 - 1)) (1 : Int32) I L Q) ∧ (¬ ((p0 ^^^ (-1)) &&& (p0 - 1)) ≤ 65536 → ∀ x1144 : Int32, x1144 = (ushI ((p0 ^^^ (-1)) &&& (p0 - 1)) (16 : Int32)) → (B_J6_numberOfTrailingZeros_0f7a4_34 x1144 ((1 : Int32) + 16) I L Q))) ∧ (¬ 0 < ((p0 ^^^ (-1)) &&& (p0 - 1)) → Q (((p0 ^^^ (-1)) &&& (p0 - 1)) &&& 32))
def W_J13_numberOfTrailingZeros_95d88 (p0 : Int64) (I : TI) (L : TL) (Q : Int32 → Prop) : Prop :=
  (¬ (p0.toInt32) = 0 → W_J6_numberOfTrailingZeros_0f7a4 (p0.toInt32) I L (fun (r1147 : Int32) => Q r1147)) ∧ ((p0.toInt32) = 0 → W_J6_numberOfTrailingZeros_0f7a4 ((ushL p0 (32 : Int32)).toInt32) I L (fun (r1148 : Int32) => Q ((32 : Int32) + r1148)))
def W_X8_firstWrong (p1 : Int32) (I : TI) (L : TL) (b : Nat) (d : Nat) (Q : Int32 → Prop) (QX : String → Prop) : Prop :=
  W_X8_requireNet p1 I L b d (W_X0_wrongTimes b p1 I L (fun (r1151 : Int64) => (¬ r1151 = 0 → W_J13_numberOfTrailingZeros_95d88 r1151 I L (fun (r1152 : Int32) => Q r1152)) ∧ (r1151 = 0 → Q (-1)))) (fun (e9 : String) => QX e9)
def W_X8_allWrong (I : TI) (L : TL) (b : Nat) (d : Nat) (Q : Int32 → Prop) : Prop :=
  W_X0_wrongSum b (b + 37) I L (fun (r1154 : Int32) => Q r1154)
def B_X8_worst_45 (v1 : Int32) (v2 : Int32) (I : TI) (L : TL) (b : Nat) (d : Nat) (Q : Int32 → Prop) (R4 : Int32 → Int32 → Prop) : Prop :=
  R4 v1 (v2 + 1)
def D_X8_worst_4 (I : TI) (L : TL) (b : Nat) (d : Nat) (Q : Int32 → Prop) (R4 : Int32 → Int32 → Prop) (v1 : Int32) (v2 : Int32) : Prop :=
  W_X2_nets (b + 1) I L (fun (r1165 : Int32) => (r1165 ≤ v2 → Q v1) ∧ (¬ r1165 ≤ v2 → W_X0_wrongTimes b v2 I L (fun (r1166 : Int64) => W_J13_bitCount_95d88 r1166 I L (fun (r1167 : Int32) => W_X0_wrongTimes b v1 I L (fun (r1168 : Int64) => W_J13_bitCount_95d88 r1168 I L (fun (r1169 : Int32) => (r1167 ≤ r1169 → B_X8_worst_45 v1 v2 I L b d Q R4) ∧ (¬ r1167 ≤ r1169 → B_X8_worst_45 v2 v2 I L b d Q R4)))))))
def L_X8_worst_4 (I : TI) (L : TL) (b : Nat) (d : Nat) (Q : Int32 → Prop) : Nat → Int32 → Int32 → Prop
  | 0, _, _ => False
  | n9 + 1, v1, v2 => D_X8_worst_4 I L b d Q (fun v1 v2 => L_X8_worst_4 I L b d Q n9 v1 v2) v1 v2
def W_X8_worst (I : TI) (L : TL) (b : Nat) (d : Nat) (Q : Int32 → Prop) : Prop :=
  ∃ n1170, L_X8_worst_4 I L b d Q n1170 (0 : Int32) (1 : Int32)
def W_X8_dependsOn (p1 : Int32) (I : TI) (L : TL) (b : Nat) (d : Nat) (Q : Int32 → Prop) (QX : String → Prop) : Prop :=
  W_X8_requireGate p1 I L b d (vp_in p1 16 ∧ (Q (I (b + 5) (p1.toNatClampNeg)))) (fun (e9 : String) => QX e9)
def W_X8_touches (p1 : Int32) (I : TI) (L : TL) (b : Nat) (d : Nat) (Q : Int32 → Prop) (QX : String → Prop) : Prop :=
  W_X8_requireNet p1 I L b d (W_X2_touchedBy (b + 1) p1 I L (fun (r1174 : Int32) => Q r1174)) (fun (e9 : String) => QX e9)
def W_X8_longest (p1 : Int32) (I : TI) (L : TL) (b : Nat) (d : Nat) (Q : Int32 → Prop) (QX : String → Prop) : Prop :=
  W_X8_requireNet p1 I L b d (vp_in p1 16 ∧ (Q (I (b + 41) (p1.toNatClampNeg)))) (fun (e9 : String) => QX e9)
def W_X8_requirePulse (p1 : Int32) (p2 : Int32) (I : TI) (L : TL) (b : Nat) (d : Nat) (Q : Int32 → Prop) (QX : String → Prop) : Prop :=
  W_X8_requireGate p1 I L b d (W_X0_pulseStart b p1 p2 I L (fun (r1178 : Int32) => (¬ r1178 = (-1) → Q r1178) ∧ (r1178 = (-1) → QX "java/util/NoSuchElementException"))) (fun (e9 : String) => QX e9)
def W_X8_requireDispute (p1 : Int32) (I : TI) (L : TL) (b : Nat) (d : Nat) (Q : Nat → Prop) (QX : String → Prop) : Prop :=
  (p1 < 0 → QX "java/util/NoSuchElementException") ∧ (¬ p1 < 0 → (p1 < (I (b + 6) 7) → vp_in p1 20 ∧ (Q ((b + 17) + p1.toNatClampNeg))) ∧ (¬ p1 < (I (b + 6) 7) → QX "java/util/NoSuchElementException"))
def W_X8_pulse (p1 : Int32) (p2 : Int32) (p3 : Int32) (I : TI) (L : TL) (b : Nat) (d : Nat) (Q : Int32 → Prop) (QX : String → Prop) : Prop :=
  W_X8_requirePulse p1 p2 I L b d (fun (r1187 : Int32) => W_X0_runEnd b p1 r1187 I L (fun (r1188 : Int32) => vp_in p1 16 ∧ (W_X8_bitOf (L (b + 37) (p1.toNatClampNeg)) r1187 I L (fun (r1190 : Int32) => (p3 = 0 → Q r1187) ∧ (p3 = 1 → Q r1188) ∧ (p3 = 2 → Q r1190) ∧ (p3 = 3 → W_X0_price b p1 r1187 r1188 I L (fun (r1191 : Int32) => Q r1191)) ∧ (p3 = 4 → W_X0_cheapVerdict b p1 ((r1188 - r1187) + 1) r1190 I L (fun (r1192 : Int32) => Q r1192)) ∧ (p3 < 0 ∨ 4 < p3 → QX "java/util/NoSuchElementException"))))) (fun (e9 : String) => QX e9)
def W_X8_dispute (p1 : Int32) (p2 : Int32) (I : TI) (L : TL) (b : Nat) (d : Nat) (Q : Int32 → Prop) (QX : String → Prop) : Prop :=
  W_X8_requireDispute p1 I L b d (fun (r1197 : Nat) => LAY r1197 = 2 ∧ ((p2 = 0 → Q (I r1197 0)) ∧ (p2 = 1 → Q (I r1197 1)) ∧ (p2 = 2 → Q (I r1197 2)) ∧ (p2 = 3 → Q (I r1197 3)) ∧ (p2 = 4 → Q (I r1197 4)) ∧ (p2 = 5 → ((I r1197 5) = 0 → Q 0) ∧ (¬ (I r1197 5) = 0 → Q 1)) ∧ (p2 = 6 → Q (I r1197 6)) ∧ (p2 = 7 → Q (I r1197 7)) ∧ (p2 = 8 → W_X3_loserBy r1197 (I r1197 7) I L (fun (r1199 : Int32) => Q r1199)) ∧ (p2 = 9 → W_X0_price b (I r1197 0) (I r1197 1) (I r1197 2) I L (fun (r1200 : Int32) => Q r1200)) ∧ (p2 < 0 ∨ 9 < p2 → QX "java/util/NoSuchElementException"))) (fun (e9 : String) => QX e9)
def B_X8_disputes_60 (v1 : Int32) (v2 : Int32) (v3 : Int32) (I : TI) (L : TL) (b : Nat) (d : Nat) (Q : Int32 → Prop) (QX : String → Prop) (R24 : Int32 → Int32 → Prop) : Prop :=
  R24 v2 (v3 + 1)
def D_X8_disputes_24 (v1 : Int32) (I : TI) (L : TL) (b : Nat) (d : Nat) (Q : Int32 → Prop) (QX : String → Prop) (R24 : Int32 → Int32 → Prop) (v2 : Int32) (v3 : Int32) : Prop :=
  ((I (b + 6) 7) ≤ v3 → Q v2) ∧ (¬ (I (b + 6) 7) ≤ v3 → vp_in v3 20 ∧ ((¬ (I ((b + 17) + v3.toNatClampNeg) 6) = v1 → B_X8_disputes_60 v1 v2 v3 I L b d Q QX R24) ∧ ((I ((b + 17) + v3.toNatClampNeg) 6) = v1 → B_X8_disputes_60 v1 (v2 + 1) v3 I L b d Q QX R24)))
def L_X8_disputes_24 (v1 : Int32) (I : TI) (L : TL) (b : Nat) (d : Nat) (Q : Int32 → Prop) (QX : String → Prop) : Nat → Int32 → Int32 → Prop
  | 0, _, _ => False
  | n9 + 1, v2, v3 => D_X8_disputes_24 v1 I L b d Q QX (fun v2 v3 => L_X8_disputes_24 v1 I L b d Q QX n9 v2 v3) v2 v3
def W_X8_disputes (p1 : Int32) (I : TI) (L : TL) (b : Nat) (d : Nat) (Q : Int32 → Prop) (QX : String → Prop) : Prop :=
  (p1 < 0 → QX "java/lang/IllegalArgumentException") ∧ (¬ p1 < 0 → (p1 ≤ 4 → ∃ n1204, L_X8_disputes_24 p1 I L b d Q QX n1204 (0 : Int32) (0 : Int32)) ∧ (¬ p1 ≤ 4 → QX "java/lang/IllegalArgumentException"))
def W_X8_cost (p1 : Int32) (p2 : Int32) (p3 : Int32) (I : TI) (L : TL) (b : Nat) (d : Nat) (Q : Int32 → Prop) (QX : String → Prop) : Prop :=
  W_X8_requireGate p1 I L b d (W_X8_requireTimes p2 p3 I L b d (W_X0_price b p1 p2 p3 I L (fun (r1206 : Int32) => Q r1206)) (fun (e9 : String) => QX e9)) (fun (e9 : String) => QX e9)
def W_X8_gain (p1 : Int32) (p2 : Int32) (p3 : Int32) (I : TI) (L : TL) (b : Nat) (d : Nat) (Q : Int32 → TL → Prop) (QX : String → TL → Prop) : Prop :=
  W_X8_requireGate p1 I L b d (W_X8_requireTimes p2 p3 I L b d (W_X0_gainOf b p1 p2 p3 I L (fun (r1209 : Int32) (L1210 : TL) => Q r1209 L1210)) (fun (e9 : String) => QX e9 L)) (fun (e9 : String) => QX e9 L)
def B_X8_bestReplay_169 (v1 : Int32) (v2 : Int32) (v3 : Int32) (v4 : Int32) (v5 : Int32) (v6 : Int32) (I : TI) (L : TL) (b : Nat) (d : Nat) (Q : Int32 → TL → Prop) (R18 : Int32 → Int32 → Int32 → Int32 → TL → Prop) (R47 : Int32 → Int32 → Int32 → Int32 → TL → Prop) : Prop :=
  R47 v1 v2 v3 (v6 + 1) L
def B_X8_bestReplay_154 (v4 : Int32) (v5 : Int32) (v6 : Int32) (v9 : Int32) (v10 : Int32) (I : TI) (L : TL) (b : Nat) (d : Nat) (Q : Int32 → TL → Prop) (R18 : Int32 → Int32 → Int32 → Int32 → TL → Prop) (R47 : Int32 → Int32 → Int32 → Int32 → TL → Prop) : Prop :=
  B_X8_bestReplay_169 (((100 : Int32) * v4) + v6) v10 v9 v4 v5 v6 I L b d Q R18 R47
def B_X8_bestReplay_129 (v1 : Int32) (v2 : Int32) (v3 : Int32) (v4 : Int32) (v5 : Int32) (v6 : Int32) (v9 : Int32) (s0 : Int32) (I : TI) (L : TL) (b : Nat) (d : Nat) (Q : Int32 → TL → Prop) (R18 : Int32 → Int32 → Int32 → Int32 → TL → Prop) (R47 : Int32 → Int32 → Int32 → Int32 → TL → Prop) : Prop :=
  (v2 < s0 → B_X8_bestReplay_154 v4 v5 v6 v9 s0 I L b d Q R18 R47) ∧ (¬ v2 < s0 → (s0 ≤ 0 → B_X8_bestReplay_169 v1 v2 v3 v4 v5 v6 I L b d Q R18 R47) ∧ (¬ s0 ≤ 0 → (¬ s0 = v2 → B_X8_bestReplay_169 v1 v2 v3 v4 v5 v6 I L b d Q R18 R47) ∧ (s0 = v2 → (v3 ≤ v9 → B_X8_bestReplay_169 v1 v2 v3 v4 v5 v6 I L b d Q R18 R47) ∧ (¬ v3 ≤ v9 → B_X8_bestReplay_154 v4 v5 v6 v9 s0 I L b d Q R18 R47))))
def D_X8_bestReplay_47 (v4 : Int32) (v5 : Int32) (I : TI) (b : Nat) (d : Nat) (Q : Int32 → TL → Prop) (R18 : Int32 → Int32 → Int32 → Int32 → TL → Prop) (R47 : Int32 → Int32 → Int32 → Int32 → TL → Prop) (v1 : Int32) (v2 : Int32) (v3 : Int32) (v6 : Int32) (L : TL) : Prop :=
  (v5 ≤ v6 → R18 v1 v2 v3 (v4 + 1) L) ∧ (¬ v5 ≤ v6 → W_X0_pulseStart b v4 v6 I L (fun (r1234 : Int32) => W_X0_runEnd b v4 r1234 I L (fun (r1235 : Int32) => W_X0_price b v4 r1234 r1235 I L (fun (r1236 : Int32) => (r1236 ≤ (I (b + 15) 2) → W_X0_gainOf b v4 r1234 r1235 I L (fun (r1237 : Int32) (L1238 : TL) => B_X8_bestReplay_129 v1 v2 v3 v4 v5 v6 r1236 r1237 I L1238 b d Q R18 R47)) ∧ (¬ r1236 ≤ (I (b + 15) 2) → B_X8_bestReplay_129 v1 v2 v3 v4 v5 v6 r1236 (0 : Int32) I L b d Q R18 R47)))))
def L_X8_bestReplay_47 (v4 : Int32) (v5 : Int32) (I : TI) (b : Nat) (d : Nat) (Q : Int32 → TL → Prop) (R18 : Int32 → Int32 → Int32 → Int32 → TL → Prop) : Nat → Int32 → Int32 → Int32 → Int32 → TL → Prop
  | 0, _, _, _, _, _ => False
  | n9 + 1, v1, v2, v3, v6, L => D_X8_bestReplay_47 v4 v5 I b d Q R18 (fun v1 v2 v3 v6 L => L_X8_bestReplay_47 v4 v5 I b d Q R18 n9 v1 v2 v3 v6 L) v1 v2 v3 v6 L
def D_X8_bestReplay_18 (I : TI) (b : Nat) (d : Nat) (Q : Int32 → TL → Prop) (R18 : Int32 → Int32 → Int32 → Int32 → TL → Prop) (v1 : Int32) (v2 : Int32) (v3 : Int32) (v4 : Int32) (L : TL) : Prop :=
  W_X2_nets (b + 1) I L (fun (r1239 : Int32) => (r1239 ≤ v4 → Q v1 L) ∧ (¬ r1239 ≤ v4 → W_X0_pulses b v4 I L (fun (r1240 : Int32) => ∃ n1241, L_X8_bestReplay_47 v4 r1240 I b d Q R18 n1241 v1 v2 v3 (0 : Int32) L)))
def L_X8_bestReplay_18 (I : TI) (b : Nat) (d : Nat) (Q : Int32 → TL → Prop) : Nat → Int32 → Int32 → Int32 → Int32 → TL → Prop
  | 0, _, _, _, _, _ => False
  | n9 + 1, v1, v2, v3, v4, L => D_X8_bestReplay_18 I b d Q (fun v1 v2 v3 v4 L => L_X8_bestReplay_18 I b d Q n9 v1 v2 v3 v4 L) v1 v2 v3 v4 L
def W_X8_bestReplay (I : TI) (L : TL) (b : Nat) (d : Nat) (Q : Int32 → TL → Prop) : Prop :=
  ∃ n1242, L_X8_bestReplay_18 I b d Q n1242 ((-1) : Int32) (0 : Int32) (0 : Int32) (I (b + 1) 4) L
def B_X8_misjudged_57 (v1 : Int32) (v2 : Int32) (I : TI) (L : TL) (b : Nat) (d : Nat) (Q : Int32 → Prop) (R4 : Int32 → Int32 → Prop) : Prop :=
  R4 v1 (v2 + 1)
def D_X8_misjudged_4 (I : TI) (L : TL) (b : Nat) (d : Nat) (Q : Int32 → Prop) (R4 : Int32 → Int32 → Prop) (v1 : Int32) (v2 : Int32) : Prop :=
  ((I (b + 6) 7) ≤ v2 → Q v1) ∧ (¬ (I (b + 6) 7) ≤ v2 → vp_in v2 20 ∧ (((I ((b + 17) + v2.toNatClampNeg) 7) = (-1) → B_X8_misjudged_57 v1 v2 I L b d Q R4) ∧ (¬ (I ((b + 17) + v2.toNatClampNeg) 7) = (-1) → W_X0_dearVerdict b ((b + 17) + v2.toNatClampNeg) I L (fun (r1248 : Int32) => ((I ((b + 17) + v2.toNatClampNeg) 7) = r1248 → B_X8_misjudged_57 v1 v2 I L b d Q R4) ∧ (¬ (I ((b + 17) + v2.toNatClampNeg) 7) = r1248 → B_X8_misjudged_57 (v1 + 1) v2 I L b d Q R4)))))
def L_X8_misjudged_4 (I : TI) (L : TL) (b : Nat) (d : Nat) (Q : Int32 → Prop) : Nat → Int32 → Int32 → Prop
  | 0, _, _ => False
  | n9 + 1, v1, v2 => D_X8_misjudged_4 I L b d Q (fun v1 v2 => L_X8_misjudged_4 I L b d Q n9 v1 v2) v1 v2
def W_X8_misjudged (I : TI) (L : TL) (b : Nat) (d : Nat) (Q : Int32 → Prop) : Prop :=
  ∃ n1249, L_X8_misjudged_4 I L b d Q n1249 (0 : Int32) (0 : Int32)
def W_X8_excess (I : TI) (L : TL) (b : Nat) (d : Nat) (Q : UInt64 → Prop) : Prop :=
  W_X0_gateChanges b (b + 37) I L (fun (r1253 : Int32) => W_X0_gateChanges b (b + 39) I L (fun (r1254 : Int32) => (¬ r1254 = 0 → vf_n64 (FP.ddiv (FP.i2d r1253) (FP.i2d r1254)) ∧ (Q (FP.ddiv (FP.i2d r1253) (FP.i2d r1254)))) ∧ (r1254 = 0 → Q (FP.dconst0))))
def D_X8_settledShare_13 (I : TI) (L : TL) (b : Nat) (d : Nat) (Q : UInt32 → Prop) (R13 : Int32 → Int32 → Prop) (v1 : Int32) (v2 : Int32) : Prop :=
  W_X2_nets (b + 1) I L (fun (r1262 : Int32) => (r1262 ≤ v2 → ∀ x1263 : Int32, x1263 = ((I (b + 1) 5) * ((I (b + 1) 6) + 1)) → ((¬ x1263 = 0 → vf_n32 (FP.fdiv (FP.i2f v1) (FP.i2f x1263)) ∧ (Q (FP.fdiv (FP.i2f v1) (FP.i2f x1263)))) ∧ (x1263 = 0 → Q (FP.fconst0)))) ∧ (¬ r1262 ≤ v2 → W_X6_settledTimes (b + 6) v2 I L (fun (r1265 : Int32) => R13 (v1 + r1265) (v2 + 1))))
def L_X8_settledShare_13 (I : TI) (L : TL) (b : Nat) (d : Nat) (Q : UInt32 → Prop) : Nat → Int32 → Int32 → Prop
  | 0, _, _ => False
  | n9 + 1, v1, v2 => D_X8_settledShare_13 I L b d Q (fun v1 v2 => L_X8_settledShare_13 I L b d Q n9 v1 v2) v1 v2
def W_X8_settledShare (I : TI) (L : TL) (b : Nat) (d : Nat) (Q : UInt32 → Prop) : Prop :=
  ∃ n1266, L_X8_settledShare_13 I L b d Q n1266 (0 : Int32) (I (b + 1) 4)
def B_X8_open_28 (v1 : Int32) (v2 : Int32) (v4 : Int32) (v5 : Int32) (I : TI) (L : TL) (b : Nat) (d : Nat) (Q : Int32 → TI → TL → Prop) (QX : String → TI → TL → Prop) : Prop :=
  W_X0_runEnd b v2 v5 I L (fun (r1285 : Int32) => W_X6_hasPending (b + 6) v2 v5 r1285 I L (fun (r1286 : Int32) => (r1286 = 0 → ((I (b + 6) 7) < 20 → W_X4_record (b + 6) I L (fun (I1287 : TI) (L1288 : TL) => vp_in (I (b + 6) 7) 20 ∧ (vp_in v2 16 ∧ (W_X8_bitOf (L1288 (b + 37) (v2.toNatClampNeg)) v5 (up2 I1287 (b + 6) 7 ((I1287 (b + 6) 7) + 1)) L1288 (fun (r1291 : Int32) => W_X3_start ((b + 17) + (I (b + 6) 7).toNatClampNeg) v2 v5 r1285 r1291 v1 v4 (up2 I1287 (b + 6) 7 ((I1287 (b + 6) 7) + 1)) L1288 (fun (I1292 : TI) => Q (I (b + 6) 7) I1292 L1288)))))) ∧ (¬ (I (b + 6) 7) < 20 → Q (-3) I L)) ∧ (¬ r1286 = 0 → Q (-2) I L)))
def W_X8_open (p1 : Int32) (p2 : Int32) (p3 : Int32) (p4 : Int32) (I : TI) (L : TL) (b : Nat) (d : Nat) (Q : Int32 → TI → TL → Prop) (QX : String → TI → TL → Prop) : Prop :=
  W_X8_requirePulse p2 p3 I L b d (fun (r1293 : Int32) => (p1 = 0 → B_X8_open_28 p1 p2 p4 r1293 I L b d Q QX) ∧ (¬ p1 = 0 → (p1 = 1 → B_X8_open_28 p1 p2 p4 r1293 I L b d Q QX) ∧ (¬ p1 = 1 → QX "java/lang/IllegalArgumentException" I L))) (fun (e9 : String) => QX e9 I L)
def W_X8_judge (p1 : Int32) (I : TI) (L : TL) (b : Nat) (d : Nat) (Q : Int32 → TI → TL → Prop) (QX : String → TI → TL → Prop) : Prop :=
  W_X8_requireDispute p1 I L b d (fun (r1303 : Nat) => LAY r1303 = 2 ∧ (((I r1303 6) = 0 → W_X3_times r1303 I L (fun (r1305 : Int32) => W_X0_cheapVerdict b (I r1303 0) r1305 (I r1303 3) I L (fun (r1306 : Int32) => W_X3_loserBy r1303 r1306 I L (fun (r1307 : Int32) => vp_in r1307 3 ∧ (((I (b + 1) 8) ≤ (I (b + 15) (r1307.toNatClampNeg)) → W_X4_record (b + 6) I L (fun (I1309 : TI) (L1310 : TL) => W_X6_payCourt (b + 6) r1307 (I (b + 1) 8) I1309 L1310 (fun (I1311 : TI) => Q r1306 (up2 (up2 I1311 r1303 7 r1306) r1303 6 1) L1310))) ∧ (¬ (I (b + 1) 8) ≤ (I (b + 15) (r1307.toNatClampNeg)) → Q (-3) I L)))))) ∧ (¬ (I r1303 6) = 0 → Q (-2) I L))) (fun (e9 : String) => QX e9 I L)
def W_X8_appeal (p1 : Int32) (I : TI) (L : TL) (b : Nat) (d : Nat) (Q : Int32 → TI → TL → Prop) (QX : String → TI → TL → Prop) : Prop :=
  W_X8_requireDispute p1 I L b d (fun (r1326 : Nat) => LAY r1326 = 2 ∧ (((I r1326 6) = 1 → W_X0_price b (I r1326 0) (I r1326 1) (I r1326 2) I L (fun (r1328 : Int32) => W_X3_loserBy r1326 (I r1326 7) I L (fun (r1329 : Int32) => vp_in r1329 3 ∧ ((r1328 ≤ (I (b + 15) (r1329.toNatClampNeg)) → W_X4_record (b + 6) I L (fun (I1331 : TI) (L1332 : TL) => W_X0_dearVerdict b r1326 I1331 L1332 (fun (r1333 : Int32) => W_X3_loserBy r1326 ((up2 (up2 I1331 r1326 7 r1333) r1326 6 2) r1326 7) (up2 (up2 I1331 r1326 7 r1333) r1326 6 2) L1332 (fun (r1334 : Int32) => vp_in r1334 3 ∧ (W_X6_payCourt (b + 6) r1334 (mnI r1328 ((up2 (up2 I1331 r1326 7 r1333) r1326 6 2) (b + 15) (r1334.toNatClampNeg))) (up2 (up2 I1331 r1326 7 r1333) r1326 6 2) L1332 (fun (I1336 : TI) => W_X0_settle b (I1336 r1326 0) (I1336 r1326 1) (I1336 r1326 2) I1336 L1332 (fun (r1337 : Int32) (I1338 : TI) (L1339 : TL) => Q (I1338 r1326 7) I1338 L1339))))))) ∧ (¬ r1328 ≤ (I (b + 15) (r1329.toNatClampNeg)) → Q (-3) I L))))) ∧ (¬ (I r1326 6) = 1 → Q (-2) I L))) (fun (e9 : String) => QX e9 I L)
def W_X8_accept (p1 : Int32) (I : TI) (L : TL) (b : Nat) (d : Nat) (Q : Int32 → TI → TL → Prop) (QX : String → TI → TL → Prop) : Prop :=
  W_X8_requireDispute p1 I L b d (fun (r1347 : Nat) => LAY r1347 = 2 ∧ (((I r1347 6) = 1 → W_X4_record (b + 6) I L (fun (I1349 : TI) (L1350 : TL) => W_X0_rule b r1347 (up2 I1349 r1347 6 3) L1350 (fun (r1351 : Int32) (I1352 : TI) (L1353 : TL) => Q r1351 I1352 L1353))) ∧ (¬ (I r1347 6) = 1 → Q (-2) I L))) (fun (e9 : String) => QX e9 I L)
def W_X8_replay (p1 : Int32) (p2 : Int32) (p3 : Int32) (I : TI) (L : TL) (b : Nat) (d : Nat) (Q : Int32 → TI → TL → Prop) (QX : String → TI → TL → Prop) : Prop :=
  W_X8_requireGate p1 I L b d (W_X8_requireTimes p2 p3 I L b d (W_X0_price b p1 p2 p3 I L (fun (r1360 : Int32) => (r1360 ≤ (I (b + 15) 2) → W_X4_record (b + 6) I L (fun (I1361 : TI) (L1362 : TL) => W_X0_settle b p1 p2 p3 (up2 I1361 (b + 15) 2 ((I1361 (b + 15) 2) - r1360)) L1362 (fun (r1363 : Int32) (I1364 : TI) (L1365 : TL) => Q r1363 I1364 L1365))) ∧ (¬ r1360 ≤ (I (b + 15) 2) → Q (-3) I L))) (fun (e9 : String) => QX e9 I L)) (fun (e9 : String) => QX e9 I L)
def W_X8_setDelay (p1 : Int32) (p2 : Int32) (p3 : Int32) (I : TI) (L : TL) (b : Nat) (d : Nat) (Q : Int32 → TI → TL → Prop) (QX : String → TI → TL → Prop) : Prop :=
  W_X8_requireGate p1 I L b d ((p2 < 0 → QX "java/lang/IllegalArgumentException" I L) ∧ (¬ p2 < 0 → (3 ≤ p2 → QX "java/lang/IllegalArgumentException" I L) ∧ (¬ 3 ≤ p2 → (p3 < 1 → QX "java/lang/IllegalArgumentException" I L) ∧ (¬ p3 < 1 → (p3 ≤ 9 → W_X4_record (b + 6) I L (fun (I1375 : TI) (L1376 : TL) => vp_in p2 3 ∧ (vp_in p1 16 ∧ (∀ x1379 : Int32, x1379 = (I1375 ((b + 8) + p2.toNatClampNeg) (p1.toNatClampNeg)) → ((x1379 = p3 → Q x1379 I1375 L1376) ∧ (¬ x1379 = p3 → vp_in p2 3 ∧ (vp_in p1 16 ∧ (∀ I1382 : TI, I1382 = (up2 I1375 ((b + 8) + p2.toNatClampNeg) (p1.toNatClampNeg) p3) → (W_X0_unsettle b p1 I1382 L1376 (fun (r1383 : Int32) (I1384 : TI) (L1385 : TL) => Q x1379 I1384 L1385)))))))))) ∧ (¬ p3 ≤ 9 → QX "java/lang/IllegalArgumentException" I L))))) (fun (e9 : String) => QX e9 I L)
def W_X8_toggle (p1 : Int32) (p2 : Int32) (I : TI) (L : TL) (b : Nat) (d : Nat) (Q : Int32 → TI → TL → Prop) (QX : String → TI → TL → Prop) : Prop :=
  (p1 < 0 → QX "java/util/NoSuchElementException" I L) ∧ (¬ p1 < 0 → (p1 < (I (b + 1) 4) → W_X2_hasTime (b + 1) p2 I L (fun (r1395 : Int32) => (¬ r1395 = 0 → W_X4_record (b + 6) I L (fun (I1396 : TI) (L1397 : TL) => vp_in p1 4 ∧ (W_X8_window p2 (I1396 (b + 1) 6) I1396 L1397 (fun (r1399 : Int64) => vp_in p1 4 ∧ (∀ L1401 : TL, L1401 = (up2 L1397 (b + 11) (p1.toNatClampNeg) ((L1397 (b + 11) (p1.toNatClampNeg)) ^^^ r1399)) → (W_X0_unsettle b p1 I1396 L1401 (fun (r1402 : Int32) (I1403 : TI) (L1404 : TL) => Q r1402 I1403 L1404))))))) ∧ (r1395 = 0 → QX "java/lang/IllegalArgumentException" I L))) ∧ (¬ p1 < (I (b + 1) 4) → QX "java/util/NoSuchElementException" I L))
def W_X8_deposit (p1 : Int32) (p2 : Int32) (I : TI) (L : TL) (b : Nat) (d : Nat) (Q : Int32 → TI → TL → Prop) (QX : String → TI → TL → Prop) : Prop :=
  (p1 < 0 → QX "java/lang/IllegalArgumentException" I L) ∧ (¬ p1 < 0 → (3 ≤ p1 → QX "java/lang/IllegalArgumentException" I L) ∧ (¬ 3 ≤ p1 → (p2 < 0 → QX "java/lang/IllegalArgumentException" I L) ∧ (¬ p2 < 0 → (p2 ≤ 99999 → vp_in p1 3 ∧ (∀ x1410 : Int32, x1410 = ((I (b + 15) (p1.toNatClampNeg)) + p2) → ((x1410 ≤ 1000000 → W_X4_record (b + 6) I L (fun (I1411 : TI) (L1412 : TL) => vp_in p1 3 ∧ (Q x1410 (up2 I1411 (b + 15) (p1.toNatClampNeg) x1410) L1412))) ∧ (¬ x1410 ≤ 1000000 → Q (-3) I L)))) ∧ (¬ p2 ≤ 99999 → QX "java/lang/IllegalArgumentException" I L))))
def W_X8_setLimit (p1 : Int32) (I : TI) (L : TL) (b : Nat) (d : Nat) (Q : Int32 → TI → TL → Prop) (QX : String → TI → TL → Prop) : Prop :=
  (p1 < 1 → QX "java/lang/IllegalArgumentException" I L) ∧ (¬ p1 < 1 → (p1 ≤ 20 → W_X4_record (b + 6) I L (fun (I1416 : TI) (L1417 : TL) => Q (I1416 (b + 6) 8) (up2 I1416 (b + 6) 8 p1) L1417)) ∧ (¬ p1 ≤ 20 → QX "java/lang/IllegalArgumentException" I L))
def W_X8_letter (p0 : Int32) (p1 : Int32) (I : TI) (L : TL) (Q : Int32 → Prop) : Prop :=
  (p0 = 1 → (¬ p1 = 0 → Q 104) ∧ (p1 = 0 → Q 108)) ∧ (p0 = 2 → (¬ p1 = 0 → Q 72) ∧ (p1 = 0 → Q 76)) ∧ (¬ p0 = 1 ∧ ¬ p0 = 2 → (¬ p1 = 0 → Q 49) ∧ (p1 = 0 → Q 48))
def B_X8_format_66 (v1 : Int32) (v2 : Int32) (v3 : Int64) (v5 : Int32) (s0 : Int32) (I : TI) (L : TL) (b : Nat) (d : Nat) (Q : Int32 → TI → Prop) (QX : String → TI → Prop) (R26 : Int32 → TI → Prop) : Prop :=
  W_X8_bitOf v3 v5 I L (fun (r1425 : Int32) => W_X8_letter s0 r1425 I L (fun (r1426 : Int32) => vp_in v5 61 ∧ (∀ I1428 : TI, I1428 = (up2 I 351 (v5.toNatClampNeg) (r1426.toInt8.toInt32).toInt8.toInt32) → (R26 (v5 + 1) I1428))))
def D_X8_format_26 (v1 : Int32) (v2 : Int32) (v3 : Int64) (L : TL) (b : Nat) (d : Nat) (Q : Int32 → TI → Prop) (QX : String → TI → Prop) (R26 : Int32 → TI → Prop) (v5 : Int32) (I : TI) : Prop :=
  ((I 0 8) ≤ v5 → Q (I 0 8) I) ∧ (¬ (I 0 8) ≤ v5 → ((nI 61) ≤ v5 → Q (I 0 8) I) ∧ (¬ (nI 61) ≤ v5 → (¬ v2 = 0 → B_X8_format_66 v1 v2 v3 v5 (0 : Int32) I L b d Q QX R26) ∧ (v2 = 0 → W_X6_timeState (b + 6) v1 v5 I L (fun (r1429 : Int32) => B_X8_format_66 v1 v2 v3 v5 r1429 I L b d Q QX R26))))
def L_X8_format_26 (v1 : Int32) (v2 : Int32) (v3 : Int64) (L : TL) (b : Nat) (d : Nat) (Q : Int32 → TI → Prop) (QX : String → TI → Prop) : Nat → Int32 → TI → Prop
  | 0, _, _ => False
  | n9 + 1, v5, I => D_X8_format_26 v1 v2 v3 L b d Q QX (fun v5 I => L_X8_format_26 v1 v2 v3 L b d Q QX n9 v5 I) v5 I
def W_X8_format (p1 : Int32) (p2 : Int32) (I : TI) (L : TL) (b : Nat) (d : Nat) (Q : Int32 → TI → Prop) (QX : String → TI → Prop) : Prop :=
  W_X8_requireWave p1 p2 I L b d (fun (r1430 : Int64) => ∃ n1431, L_X8_format_26 p1 p2 r1430 L b d Q QX n1431 (0 : Int32) (up2 I 0 8 ((I (b + 1) 6) + 1))) (fun (e9 : String) => QX e9 I)
def W_X8_formattedByte (p1 : Int32) (I : TI) (L : TL) (Q : Int32 → Prop) : Prop :=
  (p1 < 0 → Q (-1)) ∧ (¬ p1 < 0 → ((I 0 8) ≤ p1 → Q (-1)) ∧ (¬ (I 0 8) ≤ p1 → (p1 < (nI 61) → vp_in p1 61 ∧ (Q (I 351 (p1.toNatClampNeg)))) ∧ (¬ p1 < (nI 61) → Q (-1))))
def W_X8_undoCount (I : TI) (L : TL) (Q : Int32 → Prop) : Prop :=
  Q (I 1 3)
def W_X8_undo (I : TI) (L : TL) (b : Nat) (d : Nat) (Q : Int32 → TI → TL → Prop) : Prop :=
  (¬ (I 1 3) = 0 → W_X4_takeBack (b + 6) I L (fun (I1438 : TI) (L1439 : TL) => W_X0_refresh b I1438 L1439 (fun (I1440 : TI) (L1441 : TL) => Q (I1440 1 3) I1440 L1441))) ∧ ((I 1 3) = 0 → Q (-1) I L)
def W_X8_saveSnapshot (I : TI) (L : TL) (b : Nat) (d : Nat) (Q : TI → TL → Prop) : Prop :=
  W_X4_keep (b + 6) I L (fun (I1444 : TI) (L1445 : TL) => Q I1444 L1445)
def W_X8_restoreSnapshot (I : TI) (L : TL) (b : Nat) (d : Nat) (Q : Int32 → TI → TL → Prop) : Prop :=
  (¬ (I 1 2) = 0 → W_X4_bringBack (b + 6) I L (fun (I1450 : TI) (L1451 : TL) => W_X0_refresh b I1450 L1451 (fun (I1452 : TI) (L1453 : TL) => Q 1 I1452 L1453))) ∧ ((I 1 2) = 0 → Q 0 I L)
def B_X8_query_87 (v2 : Int32) (I : TI) (L : TL) (b : Nat) (d : Nat) (t : Nat) (Q : Int32 → TI → Nat → Prop) (QX : String → TI → Nat → Prop) : Prop :=
  W_X5_netsOf b I L t (fun (r1478 : Int32) (I1479 : TI) => W_X7_failed (up2 (up2 I1479 0 7 0) 0 9 ((up2 I1479 0 7 0) 344 7)) L (fun (r1480 : Int32) => (r1480 = 0 → (v2 = 0 → (¬ r1478 = 0 → W_J6_numberOfTrailingZeros_0f7a4 r1478 (up2 (up2 I1479 0 7 0) 0 9 ((up2 I1479 0 7 0) 344 7)) L (fun (r1481 : Int32) => Q r1481 (up2 (up2 I1479 0 7 0) 0 9 ((up2 I1479 0 7 0) 344 7)) t)) ∧ (r1478 = 0 → Q (-1) (up2 (up2 I1479 0 7 0) 0 9 ((up2 I1479 0 7 0) 344 7)) t)) ∧ (¬ v2 = 0 → W_J6_bitCount_0f7a4 r1478 (up2 (up2 I1479 0 7 0) 0 9 ((up2 I1479 0 7 0) 344 7)) L (fun (r1482 : Int32) => Q r1482 (up2 (up2 I1479 0 7 0) 0 9 ((up2 I1479 0 7 0) 344 7)) t))) ∧ (¬ r1480 = 0 → Q (((-1000000000) : Int32) - ((up2 (up2 I1479 0 7 0) 0 9 ((up2 I1479 0 7 0) 344 7)) 344 6)) (up2 (up2 I1479 0 7 0) 0 9 ((up2 I1479 0 7 0) 344 7)) t)))
def B_X8_query_69 (v2 : Int32) (I : TI) (L : TL) (b : Nat) (d : Nat) (t : Nat) (Q : Int32 → TI → Nat → Prop) (QX : String → TI → Nat → Prop) : Prop :=
  W_X7_advance I L t (fun (I1483 : TI) => B_X8_query_87 v2 I1483 L b d t Q QX)
def W_X8_query (p1 : Int32) (I : TI) (L : TL) (b : Nat) (d : Nat) (t : Nat) (Q : Int32 → TI → Nat → Prop) (QX : String → TI → Nat → Prop) : Prop :=
  (p1 < 0 → QX "java/lang/IllegalArgumentException" I t) ∧ (¬ p1 < 0 → (200 < p1 → QX "java/lang/IllegalArgumentException" I t) ∧ (¬ 200 < p1 → (p1 ≤ (I 0 7) → W_X7_begin p1 I L t (fun (I1484 : TI) (t1485 : Nat) => txOK t1485 ∧ (W_X7_isWord 482 I1484 L t1485 (fun (r1487 : Int32) => (¬ r1487 = 0 → B_X8_query_69 r1487 I1484 L b d t1485 Q QX) ∧ (r1487 = 0 → W_X7_isWord 483 I1484 L t1485 (fun (r1488 : Int32) => (r1488 = 0 → W_X7_fail (1 : Int32) I1484 L (fun (I1489 : TI) => B_X8_query_87 r1487 I1489 L b d t1485 Q QX)) ∧ (¬ r1488 = 0 → B_X8_query_69 r1487 I1484 L b d t1485 Q QX))))))) ∧ (¬ p1 ≤ (I 0 7) → QX "java/lang/IllegalArgumentException" I t)))
def D_X9_begins_29 (v2 : Int32) (I : TI) (Q : TI → TL → Prop) (R29 : Int32 → TL → Prop) (v5 : Int32) (L : TL) : Prop :=
  (241 ≤ v5 → Q I (up2 L 437 0 (v2.toInt64))) ∧ (¬ 241 ≤ v5 → vp_in v5 241 ∧ (R29 (v5 + 1) (up2 L 437 (v5.toNatClampNeg) 0)))
def L_X9_begins_29 (v2 : Int32) (I : TI) (Q : TI → TL → Prop) : Nat → Int32 → TL → Prop
  | 0, _, _ => False
  | n9 + 1, v5, L => D_X9_begins_29 v2 I Q (fun v5 L => L_X9_begins_29 v2 I Q n9 v5 L) v5 L
def W_X9_begins (p1 : Int32) (p2 : Int32) (p3 : Int32) (p4 : Int32) (I : TI) (L : TL) (Q : TI → TL → Prop) : Prop :=
  ∀ I1493 : TI, I1493 = (up2 (up2 (up2 (up2 I 436 7 p1) 436 8 p3) 436 9 p4) 436 10 0) → (∃ n1494, L_X9_begins_29 p2 (up2 I1493 436 11 0) Q n1494 (0 : Int32) L)
def W_X9_thrown (I : TI) (L : TL) (Q : Int32 → Prop) : Prop :=
  Q (I 436 0)
def W_X9_in (p0 : Int64) (p2 : Int64) (p4 : Int64) (I : TI) (L : TL) (Q : Int32 → Prop) : Prop :=
  (p0 < p2 → Q 0) ∧ (¬ p0 < p2 → (p4 < p0 → Q 0) ∧ (¬ p4 < p0 → Q 1))
def W_X9_fails (p1 : Int32) (p2 : Int32) (I : TI) (L : TL) (Q : Int32 → TI → Prop) : Prop :=
  (p1 = 0 → Q 1 (up2 I 436 0 p2)) ∧ (¬ p1 = 0 → Q 0 I)
def W_X9_lesser (p0 : Int32) (p1 : Int32) (I : TI) (L : TL) (Q : Int32 → Prop) : Prop :=
  (p1 ≤ p0 → Q p1) ∧ (¬ p1 ≤ p0 → Q p0)
def W_X9_greater (p0 : Int32) (p1 : Int32) (I : TI) (L : TL) (Q : Int32 → Prop) : Prop :=
  (p0 ≤ p1 → Q p1) ∧ (¬ p0 ≤ p1 → Q p0)
def W_X9_bit (p0 : Int64) (p2 : Int32) (I : TI) (L : TL) (Q : Int32 → Prop) : Prop :=
  Q (((shrL p0 p2) &&& 1).toInt32)
def D_X9_ones_4 (I : TI) (L : TL) (Q : Int32 → Prop) (R4 : Int32 → Int64 → Prop) (v2 : Int32) (v3 : Int64) : Prop :=
  (v3 = 0 → Q v2) ∧ (¬ v3 = 0 → R4 (v2 + 1) (v3 &&& (v3 - 1)))
def L_X9_ones_4 (I : TI) (L : TL) (Q : Int32 → Prop) : Nat → Int32 → Int64 → Prop
  | 0, _, _ => False
  | n9 + 1, v2, v3 => D_X9_ones_4 I L Q (fun v2 v3 => L_X9_ones_4 I L Q n9 v2 v3) v2 v3
def W_X9_ones (p0 : Int64) (I : TI) (L : TL) (Q : Int32 → Prop) : Prop :=
  ∃ n1495, L_X9_ones_4 I L Q n1495 (0 : Int32) p0
def D_X9_times_5 (v1 : Int32) (I : TI) (L : TL) (Q : Int64 → Prop) (R5 : Int64 → Int32 → Prop) (v2 : Int64) (v4 : Int32) : Prop :=
  (v1 < v4 → Q v2) ∧ (¬ v1 < v4 → ∀ x1496 : Int64, x1496 = (v2 ||| (shlL (1 : Int64) v4)) → (R5 x1496 (v4 + 1)))
def L_X9_times_5 (v1 : Int32) (I : TI) (L : TL) (Q : Int64 → Prop) : Nat → Int64 → Int32 → Prop
  | 0, _, _ => False
  | n9 + 1, v2, v4 => D_X9_times_5 v1 I L Q (fun v2 v4 => L_X9_times_5 v1 I L Q n9 v2 v4) v2 v4
def W_X9_times (p0 : Int32) (p1 : Int32) (I : TI) (L : TL) (Q : Int64 → Prop) : Prop :=
  ∃ n1497, L_X9_times_5 p1 I L Q n1497 (0 : Int64) p0
def W_X9_nets (I : TI) (L : TL) (Q : Int32 → Prop) : Prop :=
  Q ((I 436 10) + (I 436 11))
def W_X9_delayOf (p1 : Int32) (p2 : Int32) (I : TI) (L : TL) (Q : Int32 → Prop) : Prop :=
  vp_in (((45 : Int32) + ((3 : Int32) * (p1 - (I 436 10)))) + p2) 241 ∧ (Q ((L 437 ((((45 : Int32) + ((3 : Int32) * (p1 - (I 436 10)))) + p2).toNatClampNeg)).toInt32))
def B_X9_dependence_100 (v2 : Int64) (v4 : Int32) (I : TI) (L : TL) (Q : Int64 → Prop) (R17 : Int64 → Int32 → Prop) : Prop :=
  R17 v2 (v4 + (-1))
def B_X9_dependence_84 (v2 : Int64) (v4 : Int32) (v6 : Int32) (I : TI) (L : TL) (Q : Int64 → Prop) (R17 : Int64 → Int32 → Prop) : Prop :=
  (v6 < (I 436 10) → B_X9_dependence_100 v2 v4 I L Q R17) ∧ (¬ v6 < (I 436 10) → ∀ x1504 : Int64, x1504 = (v2 ||| (shlL (1 : Int64) v6)) → (B_X9_dependence_100 x1504 v4 I L Q R17))
def D_X9_dependence_17 (I : TI) (L : TL) (Q : Int64 → Prop) (R17 : Int64 → Int32 → Prop) (v2 : Int64) (v4 : Int32) : Prop :=
  (v4 < (I 436 10) → Q v2) ∧ (¬ v4 < (I 436 10) → (¬ ((shrL v2 v4) &&& 1) = 0 → vp_in (v4 - (I 436 10)) 12 ∧ (∀ x1506 : Int32, x1506 = (I 442 ((v4 - (I 436 10)).toNatClampNeg)) → (vp_in (v4 - (I 436 10)) 12 ∧ (∀ x1508 : Int32, x1508 = (I 443 ((v4 - (I 436 10)).toNatClampNeg)) → ((x1506 < (I 436 10) → B_X9_dependence_84 v2 v4 x1508 I L Q R17) ∧ (¬ x1506 < (I 436 10) → ∀ x1509 : Int64, x1509 = (v2 ||| (shlL (1 : Int64) x1506)) → (B_X9_dependence_84 x1509 v4 x1508 I L Q R17))))))) ∧ (((shrL v2 v4) &&& 1) = 0 → B_X9_dependence_100 v2 v4 I L Q R17))
def L_X9_dependence_17 (I : TI) (L : TL) (Q : Int64 → Prop) : Nat → Int64 → Int32 → Prop
  | 0, _, _ => False
  | n9 + 1, v2, v4 => D_X9_dependence_17 I L Q (fun v2 v4 => L_X9_dependence_17 I L Q n9 v2 v4) v2 v4
def W_X9_dependence (p1 : Int32) (I : TI) (L : TL) (Q : Int64 → Prop) : Prop :=
  ((I 436 10) ≤ p1 → ∃ n1510, L_X9_dependence_17 I L Q n1510 (shlL (1 : Int64) p1) p1) ∧ (¬ (I 436 10) ≤ p1 → Q 0)
def W_X9_hasNet (p1 : Int32) (p2 : Int32) (I : TI) (L : TL) (Q : Int32 → Prop) : Prop :=
  vp_in (p1 - (I 436 10)) 12 ∧ (((I 442 ((p1 - (I 436 10)).toNatClampNeg)) = p2 → Q 1) ∧ (¬ (I 442 ((p1 - (I 436 10)).toNatClampNeg)) = p2 → vp_in (p1 - (I 436 10)) 12 ∧ ((¬ (I 443 ((p1 - (I 436 10)).toNatClampNeg)) = p2 → Q 0) ∧ ((I 443 ((p1 - (I 436 10)).toNatClampNeg)) = p2 → Q 1))))
def B_X9_touched_128 (v1 : Int32) (v4 : Int32) (s0 : Int64) (s1 : Int64) (I : TI) (L : TL) (Q : Int64 → Prop) (R8 : Int64 → Int32 → Prop) : Prop :=
  R8 (s0 ||| s1) (v4 + 1)
def B_X9_touched_114 (v1 : Int32) (v2 : Int64) (v4 : Int32) (v7 : Int32) (I : TI) (L : TL) (Q : Int64 → Prop) (R8 : Int64 → Int32 → Prop) : Prop :=
  (v7 = 0 → B_X9_touched_128 v1 v4 v2 (0 : Int64) I L Q R8) ∧ (¬ v7 = 0 → B_X9_touched_128 v1 v4 v2 (shlL (1 : Int64) v4) I L Q R8)
def B_X9_touched_106 (v1 : Int32) (v2 : Int64) (v4 : Int32) (v5 : Int64) (v8 : Int32) (s0 : Int32) (I : TI) (L : TL) (Q : Int64 → Prop) (R8 : Int64 → Int32 → Prop) (R57 : Int32 → Int32 → Prop) : Prop :=
  R57 s0 (v8 + 1)
def B_X9_touched_105 (v1 : Int32) (v2 : Int64) (v4 : Int32) (v5 : Int64) (v8 : Int32) (I : TI) (L : TL) (Q : Int64 → Prop) (R8 : Int64 → Int32 → Prop) (R57 : Int32 → Int32 → Prop) : Prop :=
  B_X9_touched_106 v1 v2 v4 v5 v8 (0 : Int32) I L Q R8 R57
def B_X9_touched_101 (v1 : Int32) (v2 : Int64) (v4 : Int32) (v5 : Int64) (v8 : Int32) (I : TI) (L : TL) (Q : Int64 → Prop) (R8 : Int64 → Int32 → Prop) (R57 : Int32 → Int32 → Prop) : Prop :=
  B_X9_touched_106 v1 v2 v4 v5 v8 (1 : Int32) I L Q R8 R57
def D_X9_touched_57 (v1 : Int32) (v2 : Int64) (v4 : Int32) (v5 : Int64) (I : TI) (L : TL) (Q : Int64 → Prop) (R8 : Int64 → Int32 → Prop) (R57 : Int32 → Int32 → Prop) (v7 : Int32) (v8 : Int32) : Prop :=
  W_X9_nets I L (fun (r1531 : Int32) => (r1531 ≤ v8 → B_X9_touched_114 v1 v2 v4 v7 I L Q R8) ∧ (¬ r1531 ≤ v8 → ((I 436 10) ≤ v1 → B_X9_touched_114 v1 v2 v4 v7 I L Q R8) ∧ (¬ (I 436 10) ≤ v1 → (¬ v7 = 0 → B_X9_touched_101 v1 v2 v4 v5 v8 I L Q R8 R57) ∧ (v7 = 0 → (¬ ((shrL v5 v8) &&& 1) = 1 → B_X9_touched_105 v1 v2 v4 v5 v8 I L Q R8 R57) ∧ (((shrL v5 v8) &&& 1) = 1 → W_X9_hasNet v8 v1 I L (fun (r1532 : Int32) => (r1532 = 0 → B_X9_touched_105 v1 v2 v4 v5 v8 I L Q R8 R57) ∧ (¬ r1532 = 0 → B_X9_touched_101 v1 v2 v4 v5 v8 I L Q R8 R57)))))))
def L_X9_touched_57 (v1 : Int32) (v2 : Int64) (v4 : Int32) (v5 : Int64) (I : TI) (L : TL) (Q : Int64 → Prop) (R8 : Int64 → Int32 → Prop) : Nat → Int32 → Int32 → Prop
  | 0, _, _ => False
  | n9 + 1, v7, v8 => D_X9_touched_57 v1 v2 v4 v5 I L Q R8 (fun v7 v8 => L_X9_touched_57 v1 v2 v4 v5 I L Q R8 n9 v7 v8) v7 v8
def B_X9_touched_49 (v1 : Int32) (v2 : Int64) (v4 : Int32) (v5 : Int64) (s0 : Int32) (I : TI) (L : TL) (Q : Int64 → Prop) (R8 : Int64 → Int32 → Prop) : Prop :=
  ∃ n1533, L_X9_touched_57 v1 v2 v4 v5 I L Q R8 n1533 s0 (I 436 10)
def B_X9_touched_48 (v1 : Int32) (v2 : Int64) (v4 : Int32) (v5 : Int64) (I : TI) (L : TL) (Q : Int64 → Prop) (R8 : Int64 → Int32 → Prop) : Prop :=
  B_X9_touched_49 v1 v2 v4 v5 (0 : Int32) I L Q R8
def D_X9_touched_8 (v1 : Int32) (I : TI) (L : TL) (Q : Int64 → Prop) (R8 : Int64 → Int32 → Prop) (v2 : Int64) (v4 : Int32) : Prop :=
  W_X9_nets I L (fun (r1534 : Int32) => (r1534 ≤ v4 → Q v2) ∧ (¬ r1534 ≤ v4 → W_X9_dependence v4 I L (fun (r1535 : Int64) => (v1 < (I 436 10) → B_X9_touched_48 v1 v2 v4 r1535 I L Q R8) ∧ (¬ v1 < (I 436 10) → (¬ ((shrL r1535 v1) &&& 1) = 1 → B_X9_touched_48 v1 v2 v4 r1535 I L Q R8) ∧ (((shrL r1535 v1) &&& 1) = 1 → B_X9_touched_49 v1 v2 v4 r1535 (1 : Int32) I L Q R8)))))
def L_X9_touched_8 (v1 : Int32) (I : TI) (L : TL) (Q : Int64 → Prop) : Nat → Int64 → Int32 → Prop
  | 0, _, _ => False
  | n9 + 1, v2, v4 => D_X9_touched_8 v1 I L Q (fun v2 v4 => L_X9_touched_8 v1 I L Q n9 v2 v4) v2 v4
def W_X9_touched (p1 : Int32) (I : TI) (L : TL) (Q : Int64 → Prop) : Prop :=
  ∃ n1536, L_X9_touched_8 p1 I L Q n1536 (0 : Int64) (I 436 10)
def W_X9_made (p1 : Int32) (p2 : Int64) (p4 : Int64) (I : TI) (L : TL) (Q : Int64 → Prop) : Prop :=
  W_X9_times (0 : Int32) (I 436 7) I L (fun (r1539 : Int64) => vp_in p1 12 ∧ (((I 441 (p1.toNatClampNeg)) = 0 → Q (p2 &&& p4)) ∧ ((I 441 (p1.toNatClampNeg)) = 1 → Q (p2 ||| p4)) ∧ ((I 441 (p1.toNatClampNeg)) = 2 → Q (p2 ^^^ p4)) ∧ ((I 441 (p1.toNatClampNeg)) = 3 → Q (((p2 &&& p4) ^^^ (-1)) &&& r1539)) ∧ ((I 441 (p1.toNatClampNeg)) = 4 → Q (((p2 ||| p4) ^^^ (-1)) &&& r1539)) ∧ ((I 441 (p1.toNatClampNeg)) = 5 → Q ((p2 ^^^ (-1)) &&& r1539)) ∧ ((I 441 (p1.toNatClampNeg)) < 0 ∨ 5 < (I 441 (p1.toNatClampNeg)) → Q p2)))
def W_X9_ideal (p0 : Nat) (p1 : Int32) (I : TI) (L : TL) (Q : Int64 → Prop) : Prop :=
  (¬ p1 = (-1) → vp_in p1 16 ∧ (Q (L p0 (p1.toNatClampNeg)))) ∧ (p1 = (-1) → Q 0)
def B_X9_late_32 (v1 : Int64) (v3 : Int32) (v6 : Int32) (s0 : Int64) (s1 : Int64) (s2 : Int32) (I : TI) (L : TL) (Q : Int64 → Prop) (R6 : Int64 → Int32 → Prop) : Prop :=
  W_X9_bit s1 s2 I L (fun (r1544 : Int32) => ∀ x1545 : Int64, x1545 = (s0 ||| (shlL (r1544.toInt64) v6)) → (R6 x1545 (v6 + 1)))
def D_X9_late_6 (v1 : Int64) (v3 : Int32) (I : TI) (L : TL) (Q : Int64 → Prop) (R6 : Int64 → Int32 → Prop) (v4 : Int64) (v6 : Int32) : Prop :=
  ((I 436 7) < v6 → Q v4) ∧ (¬ (I 436 7) < v6 → (v3 ≤ v6 → B_X9_late_32 v1 v3 v6 v4 v1 (v6 - v3) I L Q R6) ∧ (¬ v3 ≤ v6 → B_X9_late_32 v1 v3 v6 v4 v1 (0 : Int32) I L Q R6))
def L_X9_late_6 (v1 : Int64) (v3 : Int32) (I : TI) (L : TL) (Q : Int64 → Prop) : Nat → Int64 → Int32 → Prop
  | 0, _, _ => False
  | n9 + 1, v4, v6 => D_X9_late_6 v1 v3 I L Q (fun v4 v6 => L_X9_late_6 v1 v3 I L Q n9 v4 v6) v4 v6
def W_X9_late (p1 : Int64) (p3 : Int32) (I : TI) (L : TL) (Q : Int64 → Prop) : Prop :=
  ∃ n1546, L_X9_late_6 p1 p3 I L Q n1546 (0 : Int64) (0 : Int32)
def D_X9_isSteady_12 (v0 : Int64) (v2 : Int32) (I : TI) (L : TL) (Q : Int32 → Prop) (R12 : Int32 → Prop) (v4 : Int32) : Prop :=
  (v2 ≤ v4 → Q 1) ∧ (¬ v2 ≤ v4 → W_X9_bit v0 v4 I L (fun (r1551 : Int32) => W_X9_bit v0 v2 I L (fun (r1552 : Int32) => (r1551 = r1552 → R12 (v4 + 1)) ∧ (¬ r1551 = r1552 → Q 0))))
def L_X9_isSteady_12 (v0 : Int64) (v2 : Int32) (I : TI) (L : TL) (Q : Int32 → Prop) : Nat → Int32 → Prop
  | 0, _ => False
  | n9 + 1, v4 => D_X9_isSteady_12 v0 v2 I L Q (fun v4 => L_X9_isSteady_12 v0 v2 I L Q n9 v4) v4
def W_X9_isSteady (p0 : Int64) (p2 : Int32) (p3 : Int32) (I : TI) (L : TL) (Q : Int32 → Prop) : Prop :=
  (p3 ≤ p2 → ∃ n1553, L_X9_isSteady_12 p0 p2 I L Q n1553 (p2 - p3)) ∧ (¬ p3 ≤ p2 → Q 0)
def B_X9_dearOf_80 (v1 : Int32) (v2 : Int64) (v4 : Int64) (v6 : Int32) (v7 : Int32) (I : TI) (L : TL) (Q : Int64 → Prop) (R15 : Int64 → Int32 → Int32 → Prop) : Prop :=
  ∀ x1564 : Int64, x1564 = (v4 ||| (shlL (v6.toInt64) v7)) → (R15 x1564 v6 (v7 + 1))
def B_X9_dearOf_53 (v1 : Int32) (v2 : Int64) (v4 : Int64) (v6 : Int32) (v7 : Int32) (v8 : Int32) (s1 : Int32) (s2 : Int32) (I : TI) (L : TL) (Q : Int64 → Prop) (R15 : Int64 → Int32 → Int32 → Prop) : Prop :=
  vp_in (s1 + s2) 241 ∧ (∀ x1566 : Int32, x1566 = (L 437 ((s1 + s2).toNatClampNeg)).toInt32 → ((v8 = v6 → B_X9_dearOf_80 v1 v2 v4 v6 v7 I L Q R15) ∧ (¬ v8 = v6 → W_X9_isSteady v2 v7 x1566 I L (fun (r1567 : Int32) => (r1567 = 0 → B_X9_dearOf_80 v1 v2 v4 v6 v7 I L Q R15) ∧ (¬ r1567 = 0 → B_X9_dearOf_80 v1 v2 v4 v8 v7 I L Q R15)))))
def D_X9_dearOf_15 (v1 : Int32) (v2 : Int64) (I : TI) (L : TL) (Q : Int64 → Prop) (R15 : Int64 → Int32 → Int32 → Prop) (v4 : Int64) (v6 : Int32) (v7 : Int32) : Prop :=
  ((I 436 7) < v7 → Q v4) ∧ (¬ (I 436 7) < v7 → W_X9_bit v2 v7 I L (fun (r1568 : Int32) => (¬ r1568 = 1 → B_X9_dearOf_53 v1 v2 v4 v6 v7 r1568 ((45 : Int32) + ((3 : Int32) * v1)) (1 : Int32) I L Q R15) ∧ (r1568 = 1 → B_X9_dearOf_53 v1 v2 v4 v6 v7 r1568 ((45 : Int32) + ((3 : Int32) * v1)) (0 : Int32) I L Q R15)))
def L_X9_dearOf_15 (v1 : Int32) (v2 : Int64) (I : TI) (L : TL) (Q : Int64 → Prop) : Nat → Int64 → Int32 → Int32 → Prop
  | 0, _, _, _ => False
  | n9 + 1, v4, v6, v7 => D_X9_dearOf_15 v1 v2 I L Q (fun v4 v6 v7 => L_X9_dearOf_15 v1 v2 I L Q n9 v4 v6 v7) v4 v6 v7
def W_X9_dearOf (p1 : Int32) (p2 : Int64) (I : TI) (L : TL) (Q : Int64 → Prop) : Prop :=
  W_X9_bit p2 (0 : Int32) I L (fun (r1569 : Int32) => ∃ n1570, L_X9_dearOf_15 p1 p2 I L Q n1570 (p2 &&& 1) r1569 (1 : Int32))
def D_X9_waves_60 (I : TI) (Q : TL → Prop) (R60 : Int32 → TL → Prop) (v1 : Int32) (L : TL) : Prop :=
  ((I 436 11) ≤ v1 → Q L) ∧ (¬ (I 436 11) ≤ v1 → vp_in (((45 : Int32) + ((3 : Int32) * v1)) + 2) 241 ∧ (∀ x1612 : Int32, x1612 = (L 437 ((((45 : Int32) + ((3 : Int32) * v1)) + 2).toNatClampNeg)).toInt32 → (vp_in v1 12 ∧ (vp_in (I 442 (v1.toNatClampNeg)) 16 ∧ (vp_in v1 12 ∧ (W_X9_ideal 446 (I 443 (v1.toNatClampNeg)) I L (fun (r1616 : Int64) => W_X9_made v1 (L 446 ((I 442 (v1.toNatClampNeg)).toNatClampNeg)) r1616 I L (fun (r1617 : Int64) => W_X9_dearOf v1 r1617 I L (fun (r1618 : Int64) => vp_in ((I 436 10) + v1) 16 ∧ (vp_in v1 12 ∧ (vp_in (I 442 (v1.toNatClampNeg)) 16 ∧ (vp_in v1 12 ∧ (W_X9_ideal 445 (I 443 (v1.toNatClampNeg)) I (up2 L 446 (((I 436 10) + v1).toNatClampNeg) r1618) (fun (r1623 : Int64) => W_X9_made v1 ((up2 L 446 (((I 436 10) + v1).toNatClampNeg) r1618) 445 ((I 442 (v1.toNatClampNeg)).toNatClampNeg)) r1623 I (up2 L 446 (((I 436 10) + v1).toNatClampNeg) r1618) (fun (r1624 : Int64) => W_X9_late r1624 x1612 I (up2 L 446 (((I 436 10) + v1).toNatClampNeg) r1618) (fun (r1625 : Int64) => vp_in ((I 436 10) + v1) 16 ∧ (∀ L1627 : TL, L1627 = (up2 (up2 L 446 (((I 436 10) + v1).toNatClampNeg) r1618) 445 (((I 436 10) + v1).toNatClampNeg) r1625) → (vp_in v1 12 ∧ (vp_in (I 442 (v1.toNatClampNeg)) 16 ∧ (vp_in v1 12 ∧ (W_X9_ideal 444 (I 443 (v1.toNatClampNeg)) I L1627 (fun (r1631 : Int64) => W_X9_made v1 (L1627 444 ((I 442 (v1.toNatClampNeg)).toNatClampNeg)) r1631 I L1627 (fun (r1632 : Int64) => W_X9_late r1632 x1612 I L1627 (fun (r1633 : Int64) => vp_in ((21 : Int32) + v1) 241 ∧ (vp_in ((33 : Int32) + v1) 241 ∧ (vp_in ((21 : Int32) + v1) 241 ∧ (∀ x1637 : Int64, x1637 = ((r1633 &&& ((L1627 437 (((21 : Int32) + v1).toNatClampNeg)) ^^^ (-1))) ||| ((L1627 437 (((33 : Int32) + v1).toNatClampNeg)) &&& (L1627 437 (((21 : Int32) + v1).toNatClampNeg)))) → (vp_in ((9 : Int32) + v1) 241 ∧ (vp_in ((I 436 10) + v1) 16 ∧ (vp_in ((9 : Int32) + v1) 241 ∧ (vp_in ((I 436 10) + v1) 16 ∧ (∀ L1642 : TL, L1642 = (up2 L1627 444 (((I 436 10) + v1).toNatClampNeg) ((x1637 &&& ((L1627 437 (((9 : Int32) + v1).toNatClampNeg)) ^^^ (-1))) ||| ((L1627 446 (((I 436 10) + v1).toNatClampNeg)) &&& (L1627 437 (((9 : Int32) + v1).toNatClampNeg))))) → (R60 (v1 + 1) L1642)))))))))))))))))))))))))))))))))
def L_X9_waves_60 (I : TI) (Q : TL → Prop) : Nat → Int32 → TL → Prop
  | 0, _, _ => False
  | n9 + 1, v1, L => D_X9_waves_60 I Q (fun v1 L => L_X9_waves_60 I Q n9 v1 L) v1 L
def D_X9_waves_2 (I : TI) (Q : TL → Prop) (R2 : Int32 → TL → Prop) (v1 : Int32) (L : TL) : Prop :=
  ((I 436 10) ≤ v1 → ∃ n1643, L_X9_waves_60 I Q n1643 (0 : Int32) L) ∧ (¬ (I 436 10) ≤ v1 → vp_in ((5 : Int32) + v1) 241 ∧ (vp_in v1 16 ∧ (∀ L1646 : TL, L1646 = (up2 L 444 (v1.toNatClampNeg) (L 437 (((5 : Int32) + v1).toNatClampNeg))) → (vp_in ((5 : Int32) + v1) 241 ∧ (vp_in v1 16 ∧ (∀ L1649 : TL, L1649 = (up2 L1646 445 (v1.toNatClampNeg) (L1646 437 (((5 : Int32) + v1).toNatClampNeg))) → (vp_in ((5 : Int32) + v1) 241 ∧ (vp_in v1 16 ∧ (∀ L1652 : TL, L1652 = (up2 L1649 446 (v1.toNatClampNeg) (L1649 437 (((5 : Int32) + v1).toNatClampNeg))) → (R2 (v1 + 1) L1652))))))))))
def L_X9_waves_2 (I : TI) (Q : TL → Prop) : Nat → Int32 → TL → Prop
  | 0, _, _ => False
  | n9 + 1, v1, L => D_X9_waves_2 I Q (fun v1 L => L_X9_waves_2 I Q n9 v1 L) v1 L
def W_X9_waves (I : TI) (L : TL) (Q : TL → Prop) : Prop :=
  ∃ n1653, L_X9_waves_2 I Q n1653 (0 : Int32) L
def W_X9_waveOf (p1 : Int32) (p2 : Int32) (I : TI) (L : TL) (Q : Int64 → Prop) : Prop :=
  (¬ p2 = 0 → (¬ p2 = 1 → vp_in p1 16 ∧ (Q (L 446 (p1.toNatClampNeg)))) ∧ (p2 = 1 → vp_in p1 16 ∧ (Q (L 445 (p1.toNatClampNeg))))) ∧ (p2 = 0 → vp_in p1 16 ∧ (Q (L 444 (p1.toNatClampNeg))))
def B_X9_changesOf_37 (v1 : Int64) (v4 : Int32) (s0 : Int32) (s1 : Int32) (I : TI) (L : TL) (Q : Int32 → Prop) (R5 : Int32 → Int32 → Prop) : Prop :=
  R5 (s0 + s1) (v4 + 1)
def D_X9_changesOf_5 (v1 : Int64) (I : TI) (L : TL) (Q : Int32 → Prop) (R5 : Int32 → Int32 → Prop) (v3 : Int32) (v4 : Int32) : Prop :=
  ((I 436 7) < v4 → Q v3) ∧ (¬ (I 436 7) < v4 → W_X9_bit v1 v4 I L (fun (r1664 : Int32) => W_X9_bit v1 (v4 - 1) I L (fun (r1665 : Int32) => (¬ r1664 = r1665 → B_X9_changesOf_37 v1 v4 v3 (1 : Int32) I L Q R5) ∧ (r1664 = r1665 → B_X9_changesOf_37 v1 v4 v3 (0 : Int32) I L Q R5))))
def L_X9_changesOf_5 (v1 : Int64) (I : TI) (L : TL) (Q : Int32 → Prop) : Nat → Int32 → Int32 → Prop
  | 0, _, _ => False
  | n9 + 1, v3, v4 => D_X9_changesOf_5 v1 I L Q (fun v3 v4 => L_X9_changesOf_5 v1 I L Q n9 v3 v4) v3 v4
def W_X9_changesOf (p1 : Int64) (I : TI) (L : TL) (Q : Int32 → Prop) : Prop :=
  ∃ n1666, L_X9_changesOf_5 p1 I L Q n1666 (0 : Int32) (1 : Int32)
def D_X9_wrongs_4 (I : TI) (L : TL) (Q : Int32 → Prop) (R4 : Int32 → Int32 → Prop) (v1 : Int32) (v2 : Int32) : Prop :=
  W_X9_nets I L (fun (r1675 : Int32) => (r1675 ≤ v2 → Q v1) ∧ (¬ r1675 ≤ v2 → vp_in v2 16 ∧ (vp_in v2 16 ∧ (W_X9_ones ((L 444 (v2.toNatClampNeg)) ^^^ (L 446 (v2.toNatClampNeg))) I L (fun (r1678 : Int32) => R4 (v1 + r1678) (v2 + 1))))))
def L_X9_wrongs_4 (I : TI) (L : TL) (Q : Int32 → Prop) : Nat → Int32 → Int32 → Prop
  | 0, _, _ => False
  | n9 + 1, v1, v2 => D_X9_wrongs_4 I L Q (fun v1 v2 => L_X9_wrongs_4 I L Q n9 v1 v2) v1 v2
def W_X9_wrongs (I : TI) (L : TL) (Q : Int32 → Prop) : Prop :=
  ∃ n1679, L_X9_wrongs_4 I L Q n1679 (0 : Int32) (0 : Int32)
def D_X9_endOf_3 (v1 : Int64) (v3 : Int32) (I : TI) (L : TL) (Q : Int32 → Prop) (R3 : Int32 → Prop) (v4 : Int32) : Prop :=
  ((I 436 7) ≤ v4 → Q v4) ∧ (¬ (I 436 7) ≤ v4 → W_X9_bit v1 (v4 + 1) I L (fun (r1684 : Int32) => W_X9_bit v1 v3 I L (fun (r1685 : Int32) => (¬ r1684 = r1685 → Q v4) ∧ (r1684 = r1685 → R3 (v4 + 1)))))
def L_X9_endOf_3 (v1 : Int64) (v3 : Int32) (I : TI) (L : TL) (Q : Int32 → Prop) : Nat → Int32 → Prop
  | 0, _ => False
  | n9 + 1, v4 => D_X9_endOf_3 v1 v3 I L Q (fun v4 => L_X9_endOf_3 v1 v3 I L Q n9 v4) v4
def W_X9_endOf (p1 : Int64) (p3 : Int32) (I : TI) (L : TL) (Q : Int32 → Prop) : Prop :=
  ∃ n1686, L_X9_endOf_3 p1 p3 I L Q n1686 p3
def W_X9_isPulse (p1 : Int32) (p2 : Int32) (p3 : Int32) (I : TI) (L : TL) (Q : Int32 → Prop) : Prop :=
  W_X9_times p2 p3 I L (fun (r1690 : Int64) => vp_in ((9 : Int32) + (p1 - (I 436 10))) 241 ∧ (vp_in ((21 : Int32) + (p1 - (I 436 10))) 241 ∧ (∀ x1693 : Int64, x1693 = (r1690 &&& (((L 437 (((9 : Int32) + (p1 - (I 436 10))).toNatClampNeg)) ||| (L 437 (((21 : Int32) + (p1 - (I 436 10))).toNatClampNeg))) ^^^ (-1))) → ((p2 ≤ 0 → Q 0) ∧ (¬ p2 ≤ 0 → ((I 436 7) ≤ p3 → Q 0) ∧ (¬ (I 436 7) ≤ p3 → ((L 437 0) < (((p3 - p2) + 1).toInt64) → Q 0) ∧ (¬ (L 437 0) < (((p3 - p2) + 1).toInt64) → (x1693 = 0 → Q 0) ∧ (¬ x1693 = 0 → Q 1))))))))
def B_X9_findsPulse_70 (v1 : Int32) (v2 : Int32) (v4 : Int32) (I : TI) (L : TL) (Q : Int32 → TI → Prop) (R7 : Int32 → TI → Prop) : Prop :=
  R7 (v4 + 1) I
def D_X9_findsPulse_7 (v1 : Int32) (v2 : Int32) (L : TL) (Q : Int32 → TI → Prop) (R7 : Int32 → TI → Prop) (v3 : Int32) (I : TI) : Prop :=
  ((I 436 7) < v3 → Q 0 I) ∧ (¬ (I 436 7) < v3 → vp_in v1 16 ∧ (W_X9_endOf (L 444 (v1.toNatClampNeg)) v3 I L (fun (r1701 : Int32) => W_X9_isPulse v1 v3 r1701 I L (fun (r1702 : Int32) => (r1702 = 0 → B_X9_findsPulse_70 v1 v2 r1701 I L Q R7) ∧ (¬ r1702 = 0 → (¬ ((up2 (up2 I 436 18 v3) 436 19 r1701) 436 20) = v2 → ∀ I1703 : TI, I1703 = (up2 (up2 (up2 I 436 18 v3) 436 19 r1701) 436 20 (((up2 (up2 I 436 18 v3) 436 19 r1701) 436 20) + 1)) → (B_X9_findsPulse_70 v1 v2 r1701 I1703 L Q R7)) ∧ (((up2 (up2 I 436 18 v3) 436 19 r1701) 436 20) = v2 → Q 1 (up2 (up2 I 436 18 v3) 436 19 r1701)))))))
def L_X9_findsPulse_7 (v1 : Int32) (v2 : Int32) (L : TL) (Q : Int32 → TI → Prop) : Nat → Int32 → TI → Prop
  | 0, _, _ => False
  | n9 + 1, v3, I => D_X9_findsPulse_7 v1 v2 L Q (fun v3 I => L_X9_findsPulse_7 v1 v2 L Q n9 v3 I) v3 I
def W_X9_findsPulse (p1 : Int32) (p2 : Int32) (I : TI) (L : TL) (Q : Int32 → TI → Prop) : Prop :=
  ∃ n1704, L_X9_findsPulse_7 p1 p2 L Q n1704 (0 : Int32) (up2 I 436 20 0)
def W_X9_pulsesOf (p1 : Int32) (I : TI) (L : TL) (Q : Int32 → TI → Prop) : Prop :=
  W_X9_findsPulse p1 ((-1) : Int32) I L (fun (r1707 : Int32) (I1708 : TI) => Q (I1708 436 20) I1708)
def W_X9_costOf (p1 : Int32) (p2 : Int32) (p3 : Int32) (I : TI) (L : TL) (Q : Int32 → Prop) : Prop :=
  W_X9_dependence p1 I L (fun (r1711 : Int64) => W_X9_ones r1711 I L (fun (r1712 : Int32) => Q (((I 436 8) * ((p3 - p2) + 1)) * r1712)))
def B_X9_delayFor_12 (s1 : Int32) (s2 : Int32) (I : TI) (L : TL) (Q : Int32 → Prop) : Prop :=
  W_X9_delayOf s1 s2 I L (fun (r1715 : Int32) => Q r1715)
def W_X9_delayFor (p1 : Int32) (p2 : Int32) (I : TI) (L : TL) (Q : Int32 → Prop) : Prop :=
  (¬ p2 = 1 → B_X9_delayFor_12 p1 (1 : Int32) I L Q) ∧ (p2 = 1 → B_X9_delayFor_12 p1 (0 : Int32) I L Q)
def D_X9_lays_3 (v1 : Int32) (L : TL) (Q : TI → Prop) (R3 : Int32 → TI → Prop) (v2 : Int32) (I : TI) : Prop :=
  (v2 < 0 → Q I) ∧ (¬ v2 < 0 → vp_in (I 436 22) 600 ∧ (∀ I1719 : TI, I1719 = (up2 I 447 ((I 436 22).toNatClampNeg) ((v1 >>> (v2 &&& 31)) &&& 255)) → (R3 (v2 + (-8)) (up2 I1719 436 22 ((I1719 436 22) + 1)))))
def L_X9_lays_3 (v1 : Int32) (L : TL) (Q : TI → Prop) : Nat → Int32 → TI → Prop
  | 0, _, _ => False
  | n9 + 1, v2, I => D_X9_lays_3 v1 L Q (fun v2 I => L_X9_lays_3 v1 L Q n9 v2 I) v2 I
def W_X9_lays (p1 : Int32) (I : TI) (L : TL) (Q : TI → Prop) : Prop :=
  ∃ n1720, L_X9_lays_3 p1 L Q n1720 (24 : Int32) I
def W_X9_feed (p1 : Int32) (p2 : Int32) (p3 : Int32) (p4 : Int32) (p5 : Int32) (I : TI) (L : TL) (Q : Int32 → TI → Prop) : Prop :=
  ((((up2 I 436 0 0) 436 22) + 20) ≤ 600 → W_X9_lays p1 (up2 I 436 0 0) L (fun (I1726 : TI) => W_X9_lays p2 I1726 L (fun (I1727 : TI) => W_X9_lays p3 I1727 L (fun (I1728 : TI) => W_X9_lays p4 I1728 L (fun (I1729 : TI) => W_X9_lays p5 I1729 L (fun (I1730 : TI) => Q (I1730 436 22) I1730)))))) ∧ (¬ (((up2 I 436 0 0) 436 22) + 20) ≤ 600 → Q (-1) (up2 I 436 0 0))
def W_X9_errorPosition (I : TI) (L : TL) (Q : Int32 → TI → Prop) : Prop :=
  Q ((up2 I 436 0 0) 436 30) (up2 I 436 0 0)
def W_X9_byteAt (p1 : Int32) (I : TI) (L : TL) (Q : Int32 → Prop) : Prop :=
  ((I 436 23) ≤ p1 → Q (-1)) ∧ (¬ (I 436 23) ≤ p1 → vp_in p1 600 ∧ (Q (I 447 (p1.toNatClampNeg))))
def W_X9_isLetter (p0 : Int32) (I : TI) (L : TL) (Q : Int32 → Prop) : Prop :=
  (p0 < 97 → Q 0) ∧ (¬ p0 < 97 → (122 < p0 → Q 0) ∧ (¬ 122 < p0 → Q 1))
def W_X9_isFigure (p0 : Int32) (I : TI) (L : TL) (Q : Int32 → Prop) : Prop :=
  (p0 < 48 → Q 0) ∧ (¬ p0 < 48 → (57 < p0 → Q 0) ∧ (¬ 57 < p0 → Q 1))
def B_X9_readsWord_60 (I : TI) (L : TL) (Q : TI → TL → Prop) (R5 : TI → TL → Prop) : Prop :=
  R5 (up2 I 436 24 ((I 436 24) + 1)) L
def D_X9_readsWord_5 (Q : TI → TL → Prop) (R5 : TI → TL → Prop) (I : TI) (L : TL) : Prop :=
  W_X9_byteAt (I 436 24) I L (fun (r1739 : Int32) => W_X9_isLetter r1739 I L (fun (r1740 : Int32) => (r1740 = 0 → Q (up2 I 436 26 1) L) ∧ (¬ r1740 = 0 → (10 ≤ ((I 436 24) - (I 436 25)) → B_X9_readsWord_60 I L Q R5) ∧ (¬ 10 ≤ ((I 436 24) - (I 436 25)) → vp_in (I 436 24) 600 ∧ (∀ L1742 : TL, L1742 = (up2 L 436 28 ((((27 : Int64) * (L 436 28)) + ((I 447 ((I 436 24).toNatClampNeg)).toInt64)) - 96)) → (B_X9_readsWord_60 I L1742 Q R5))))))
def L_X9_readsWord_5 (Q : TI → TL → Prop) : Nat → TI → TL → Prop
  | 0, _, _ => False
  | n9 + 1, I, L => D_X9_readsWord_5 Q (fun I L => L_X9_readsWord_5 Q n9 I L) I L
def W_X9_readsWord (I : TI) (L : TL) (Q : TI → TL → Prop) : Prop :=
  ∃ n1743, L_X9_readsWord_5 Q n1743 I (up2 L 436 28 0)
def B_X9_readsNumber_56 (s1 : Int32) (I : TI) (L : TL) (Q : TI → Prop) (R5 : TI → Prop) : Prop :=
  ∀ I1750 : TI, I1750 = (up2 (up2 I 436 27 s1) 436 24 (((up2 I 436 27 s1) 436 24) + 1)) → (R5 I1750)
def D_X9_readsNumber_5 (L : TL) (Q : TI → Prop) (R5 : TI → Prop) (I : TI) : Prop :=
  W_X9_byteAt (I 436 24) I L (fun (r1751 : Int32) => W_X9_isFigure r1751 I L (fun (r1752 : Int32) => (r1752 = 0 → Q (up2 I 436 26 2)) ∧ (¬ r1752 = 0 → ((I 436 27) ≤ 9999999 → vp_in (I 436 24) 600 ∧ (B_X9_readsNumber_56 ((((10 : Int32) * (I 436 27)) + (I 447 ((I 436 24).toNatClampNeg))) - 48) I L Q R5)) ∧ (¬ (I 436 27) ≤ 9999999 → B_X9_readsNumber_56 (I 436 27) I L Q R5))))
def L_X9_readsNumber_5 (L : TL) (Q : TI → Prop) : Nat → TI → Prop
  | 0, _ => False
  | n9 + 1, I => D_X9_readsNumber_5 L Q (fun I => L_X9_readsNumber_5 L Q n9 I) I
def W_X9_readsNumber (I : TI) (L : TL) (Q : TI → Prop) : Prop :=
  ∃ n1754, L_X9_readsNumber_5 L Q n1754 (up2 I 436 27 0)
def B_X9_next_26 (I : TI) (L : TL) (Q : TI → TL → Prop) (R0 : TI → Prop) : Prop :=
  R0 (up2 I 436 24 ((I 436 24) + 1))
def D_X9_next_0 (L : TL) (Q : TI → TL → Prop) (R0 : TI → Prop) (I : TI) : Prop :=
  W_X9_byteAt (I 436 24) I L (fun (r1773 : Int32) => (r1773 = 32 → B_X9_next_26 I L Q R0) ∧ (¬ r1773 = 32 → W_X9_byteAt (I 436 24) I L (fun (r1774 : Int32) => (¬ r1774 = 10 → (((up2 I 436 25 (I 436 24)) 436 24) < ((up2 I 436 25 (I 436 24)) 436 23) → vp_in ((up2 I 436 25 (I 436 24)) 436 24) 600 ∧ (W_X9_isLetter ((up2 I 436 25 (I 436 24)) 447 (((up2 I 436 25 (I 436 24)) 436 24).toNatClampNeg)) (up2 I 436 25 (I 436 24)) L (fun (r1776 : Int32) => (r1776 = 0 → vp_in ((up2 I 436 25 (I 436 24)) 436 24) 600 ∧ (W_X9_isFigure ((up2 I 436 25 (I 436 24)) 447 (((up2 I 436 25 (I 436 24)) 436 24).toNatClampNeg)) (up2 I 436 25 (I 436 24)) L (fun (r1778 : Int32) => (r1778 = 0 → ∀ I1779 : TI, I1779 = (up2 (up2 (up2 I 436 25 (I 436 24)) 436 26 3) 436 24 (((up2 (up2 I 436 25 (I 436 24)) 436 26 3) 436 24) + 1)) → (Q I1779 L)) ∧ (¬ r1778 = 0 → W_X9_readsNumber (up2 I 436 25 (I 436 24)) L (fun (I1780 : TI) => Q I1780 L))))) ∧ (¬ r1776 = 0 → W_X9_readsWord (up2 I 436 25 (I 436 24)) L (fun (I1781 : TI) (L1782 : TL) => Q I1781 L1782))))) ∧ (¬ ((up2 I 436 25 (I 436 24)) 436 24) < ((up2 I 436 25 (I 436 24)) 436 23) → Q (up2 (up2 I 436 25 (I 436 24)) 436 26 0) L)) ∧ (r1774 = 10 → B_X9_next_26 I L Q R0))))
def L_X9_next_0 (L : TL) (Q : TI → TL → Prop) : Nat → TI → Prop
  | 0, _ => False
  | n9 + 1, I => D_X9_next_0 L Q (fun I => L_X9_next_0 L Q n9 I) I
def W_X9_next (I : TI) (L : TL) (Q : TI → TL → Prop) : Prop :=
  ∃ n1783, L_X9_next_0 L Q n1783 I
def W_X9_starts (p1 : Int32) (I : TI) (L : TL) (Q : TI → TL → Prop) : Prop :=
  ∀ I1786 : TI, I1786 = (up2 (up2 (up2 (up2 I 436 23 p1) 436 22 0) 436 24 0) 436 29 0) → (W_X9_next (up2 I1786 436 30 (-1)) L (fun (I1787 : TI) (L1788 : TL) => Q I1787 L1788))
def W_X9_faults (p1 : Int32) (I : TI) (L : TL) (Q : Int32 → TI → Prop) : Prop :=
  (¬ (I 436 29) = 0 → Q 0 I) ∧ ((I 436 29) = 0 → Q 0 (up2 (up2 I 436 29 p1) 436 30 ((up2 I 436 29 p1) 436 25)))
def W_X9_isGood (I : TI) (L : TL) (Q : Int32 → Prop) : Prop :=
  (¬ (I 436 29) = 0 → Q 0) ∧ ((I 436 29) = 0 → Q 1)
def W_X9_isWord (p1 : Int64) (I : TI) (L : TL) (Q : Int32 → Prop) : Prop :=
  W_X9_isGood I L (fun (r1790 : Int32) => (r1790 = 0 → Q 0) ∧ (¬ r1790 = 0 → (¬ (I 436 26) = 1 → Q 0) ∧ ((I 436 26) = 1 → (10 < ((I 436 24) - (I 436 25)) → Q 0) ∧ (¬ 10 < ((I 436 24) - (I 436 25)) → (¬ (L 436 28) = p1 → Q 0) ∧ ((L 436 28) = p1 → Q 1)))))
def W_X9_passes (p1 : Int64) (I : TI) (L : TL) (Q : Int32 → TI → TL → Prop) : Prop :=
  W_X9_isWord p1 I L (fun (r1794 : Int32) => (¬ r1794 = 0 → W_X9_next I L (fun (I1795 : TI) (L1796 : TL) => Q 1 I1795 L1796)) ∧ (r1794 = 0 → Q 0 I L))
def W_X9_isByte (p1 : Int32) (I : TI) (L : TL) (Q : Int32 → Prop) : Prop :=
  W_X9_isGood I L (fun (r1799 : Int32) => (r1799 = 0 → Q 0) ∧ (¬ r1799 = 0 → (¬ (I 436 26) = 3 → Q 0) ∧ ((I 436 26) = 3 → vp_in (I 436 25) 600 ∧ ((¬ (I 447 ((I 436 25).toNatClampNeg)) = p1 → Q 0) ∧ ((I 447 ((I 436 25).toNatClampNeg)) = p1 → Q 1)))))
def W_X9_must (p1 : Int32) (I : TI) (L : TL) (Q : TI → TL → Prop) : Prop :=
  W_X9_isGood I L (fun (r1807 : Int32) => (¬ r1807 = 0 → W_X9_isByte p1 I L (fun (r1808 : Int32) => (r1808 = 0 → W_X9_faults (1 : Int32) I L (fun (r1809 : Int32) (I1810 : TI) => Q I1810 L)) ∧ (¬ r1808 = 0 → W_X9_next I L (fun (I1811 : TI) (L1812 : TL) => Q I1811 L1812)))) ∧ (r1807 = 0 → Q I L))
def B_X9_number_47 (v1 : Int32) (I : TI) (L : TL) (Q : Int32 → TI → TL → Prop) : Prop :=
  W_X9_isGood I L (fun (r1831 : Int32) => (¬ r1831 = 0 → W_X9_next I L (fun (I1832 : TI) (L1833 : TL) => Q (I 436 27) I1832 L1833)) ∧ (r1831 = 0 → Q v1 I L))
def W_X9_number (p1 : Int32) (p2 : Int32) (I : TI) (L : TL) (Q : Int32 → TI → TL → Prop) : Prop :=
  W_X9_isGood I L (fun (r1834 : Int32) => (¬ r1834 = 0 → ((I 436 26) = 2 → W_X9_in ((I 436 27).toInt64) (p1.toInt64) (p2.toInt64) I L (fun (r1835 : Int32) => (¬ r1835 = 0 → B_X9_number_47 p1 I L Q) ∧ (r1835 = 0 → W_X9_faults (2 : Int32) I L (fun (r1836 : Int32) (I1837 : TI) => B_X9_number_47 p1 I1837 L Q)))) ∧ (¬ (I 436 26) = 2 → W_X9_faults (1 : Int32) I L (fun (r1838 : Int32) (I1839 : TI) => B_X9_number_47 p1 I1839 L Q))) ∧ (r1834 = 0 → Q p1 I L))
def B_X9_headRead_16 (I : TI) (L : TL) (Q : TI → TL → Prop) : Prop :=
  W_X9_number (4 : Int32) (60 : Int32) I L (fun (r1884 : Int32) (I1885 : TI) (L1886 : TL) => W_X9_number (1 : Int32) (20 : Int32) I1885 L1886 (fun (r1887 : Int32) (I1888 : TI) (L1889 : TL) => W_X9_number (0 : Int32) (9 : Int32) I1888 L1889 (fun (r1890 : Int32) (I1891 : TI) (L1892 : TL) => W_X9_number (0 : Int32) (99 : Int32) I1891 L1892 (fun (r1893 : Int32) (I1894 : TI) (L1895 : TL) => W_X9_must (59 : Int32) I1894 L1895 (fun (I1896 : TI) (L1897 : TL) => W_X9_isGood I1896 L1897 (fun (r1898 : Int32) => (r1898 = 0 → Q I1896 L1897) ∧ (¬ r1898 = 0 → W_X9_begins r1884 r1887 r1890 r1893 I1896 L1897 (fun (I1899 : TI) (L1900 : TL) => Q I1899 L1900))))))))
def W_X9_headRead (I : TI) (L : TL) (Q : TI → TL → Prop) : Prop :=
  W_X9_passes (1171592 : Int64) I L (fun (r1901 : Int32) (I1902 : TI) (L1903 : TL) => (¬ r1901 = 0 → B_X9_headRead_16 I1902 L1903 Q) ∧ (r1901 = 0 → W_X9_faults (1 : Int32) I1902 L1903 (fun (r1904 : Int32) (I1905 : TI) => B_X9_headRead_16 I1905 L1903 Q)))
def B_X9_inputRead_130 (v3 : Int64) (I : TI) (L : TL) (Q : TI → TL → Prop) : Prop :=
  W_X9_must (59 : Int32) I L (fun (I1959 : TI) (L1960 : TL) => W_X9_isGood I1959 L1960 (fun (r1961 : Int32) => (¬ r1961 = 0 → vp_in ((5 : Int32) + (I1959 436 10)) 241 ∧ (∀ L1963 : TL, L1963 = (up2 L1960 437 (((5 : Int32) + (I1959 436 10)).toNatClampNeg) v3) → (Q (up2 I1959 436 10 ((I1959 436 10) + 1)) L1963))) ∧ (r1961 = 0 → Q I1959 L1960)))
def B_X9_inputRead_99 (v3 : Int64) (I : TI) (L : TL) (Q : TI → TL → Prop) (R53 : Int32 → Int64 → TI → TL → Prop) : Prop :=
  W_X9_number (1 : Int32) (I 436 7) I L (fun (r1964 : Int32) (I1965 : TI) (L1966 : TL) => W_X9_isGood I1965 L1966 (fun (r1967 : Int32) => (r1967 = 0 → R53 r1964 v3 I1965 L1966) ∧ (¬ r1967 = 0 → W_X9_times r1964 (I1965 436 7) I1965 L1966 (fun (r1968 : Int64) => R53 r1964 (v3 ^^^ r1968) I1965 L1966))))
def D_X9_inputRead_53 (Q : TI → TL → Prop) (R53 : Int32 → Int64 → TI → TL → Prop) (v2 : Int32) (v3 : Int64) (I : TI) (L : TL) : Prop :=
  W_X9_isGood I L (fun (r1969 : Int32) => (r1969 = 0 → B_X9_inputRead_130 v3 I L Q) ∧ (¬ r1969 = 0 → (¬ (I 436 26) = 2 → B_X9_inputRead_130 v3 I L Q) ∧ ((I 436 26) = 2 → W_X9_in ((I 436 27).toInt64) (1 : Int64) ((I 436 7).toInt64) I L (fun (r1970 : Int32) => (r1970 = 0 → B_X9_inputRead_99 v3 I L Q R53) ∧ (¬ r1970 = 0 → (v2 < (I 436 27) → B_X9_inputRead_99 v3 I L Q R53) ∧ (¬ v2 < (I 436 27) → W_X9_faults (4 : Int32) I L (fun (r1971 : Int32) (I1972 : TI) => B_X9_inputRead_99 v3 I1972 L Q R53)))))))
def L_X9_inputRead_53 (Q : TI → TL → Prop) : Nat → Int32 → Int64 → TI → TL → Prop
  | 0, _, _, _, _ => False
  | n9 + 1, v2, v3, I, L => D_X9_inputRead_53 Q (fun v2 v3 I L => L_X9_inputRead_53 Q n9 v2 v3 I L) v2 v3 I L
def B_X9_inputRead_52 (v2 : Int32) (s0 : Int64) (I : TI) (L : TL) (Q : TI → TL → Prop) : Prop :=
  ∃ n1973, L_X9_inputRead_53 Q n1973 v2 s0 I L
def B_X9_inputRead_14 (I : TI) (L : TL) (Q : TI → TL → Prop) : Prop :=
  W_X9_isGood I L (fun (r1974 : Int32) => (¬ r1974 = 0 → W_X9_next I L (fun (I1975 : TI) (L1976 : TL) => W_X9_number (0 : Int32) (1 : Int32) I1975 L1976 (fun (r1977 : Int32) (I1978 : TI) (L1979 : TL) => (¬ r1977 = 1 → B_X9_inputRead_52 (0 : Int32) (0 : Int64) I1978 L1979 Q) ∧ (r1977 = 1 → W_X9_times (0 : Int32) (I1978 436 7) I1978 L1979 (fun (r1980 : Int64) => B_X9_inputRead_52 (0 : Int32) r1980 I1978 L1979 Q))))) ∧ (r1974 = 0 → Q I L))
def W_X9_inputRead (I : TI) (L : TL) (Q : TI → TL → Prop) : Prop :=
  (¬ (I 436 10) = 4 → B_X9_inputRead_14 I L Q) ∧ ((I 436 10) = 4 → W_X9_faults (3 : Int32) I L (fun (r1981 : Int32) (I1982 : TI) => B_X9_inputRead_14 I1982 L Q))
def W_X9_kindHere (I : TI) (L : TL) (Q : Int32 → Prop) : Prop :=
  W_X9_isWord (1111 : Int64) I L (fun (r1990 : Int32) => (r1990 = 0 → W_X9_isWord (423 : Int64) I L (fun (r1991 : Int32) => (r1991 = 0 → W_X9_isWord (17919 : Int64) I L (fun (r1992 : Int32) => (r1992 = 0 → W_X9_isWord (276673 : Int64) I L (fun (r1993 : Int32) => (r1993 = 0 → W_X9_isWord (10629 : Int64) I L (fun (r1994 : Int32) => (r1994 = 0 → W_X9_isWord (10631 : Int64) I L (fun (r1995 : Int32) => (r1995 = 0 → W_X9_isWord (375062 : Int64) I L (fun (r1996 : Int32) => (r1996 = 0 → Q (-1)) ∧ (¬ r1996 = 0 → Q 6))) ∧ (¬ r1995 = 0 → Q 5))) ∧ (¬ r1994 = 0 → Q 4))) ∧ (¬ r1993 = 0 → Q 3))) ∧ (¬ r1992 = 0 → Q 2))) ∧ (¬ r1991 = 0 → Q 1))) ∧ (¬ r1990 = 0 → Q 0))
def D_X9_gateRead_116 (Q : TI → TL → Prop) (R116 : Int32 → TI → TL → Prop) (v2 : Int32) (I : TI) (L : TL) : Prop :=
  (3 ≤ v2 → W_X9_must (59 : Int32) I L (fun (I2077 : TI) (L2078 : TL) => W_X9_isGood I2077 L2078 (fun (r2079 : Int32) => (r2079 = 0 → Q I2077 L2078) ∧ (¬ r2079 = 0 → Q (up2 I2077 436 11 ((I2077 436 11) + 1)) L2078)))) ∧ (¬ 3 ≤ v2 → W_X9_number (1 : Int32) (9 : Int32) I L (fun (r2080 : Int32) (I2081 : TI) (L2082 : TL) => vp_in (((45 : Int32) + ((3 : Int32) * (I 436 11))) + v2) 241 ∧ (∀ L2084 : TL, L2084 = (up2 L2082 437 ((((45 : Int32) + ((3 : Int32) * (I 436 11))) + v2).toNatClampNeg) (r2080.toInt64)) → (R116 (v2 + 1) I2081 L2084))))
def L_X9_gateRead_116 (Q : TI → TL → Prop) : Nat → Int32 → TI → TL → Prop
  | 0, _, _, _ => False
  | n9 + 1, v2, I, L => D_X9_gateRead_116 Q (fun v2 I L => L_X9_gateRead_116 Q n9 v2 I L) v2 I L
def B_X9_gateRead_113 (s1 : Int32) (s2 : Int32) (I : TI) (L : TL) (Q : TI → TL → Prop) : Prop :=
  vp_in s1 12 ∧ (∃ n2086, L_X9_gateRead_116 Q n2086 (0 : Int32) (up2 I 443 (s1.toNatClampNeg) s2) L)
def B_X9_gateRead_43 (v1 : Int32) (I : TI) (L : TL) (Q : TI → TL → Prop) : Prop :=
  W_X9_isGood I L (fun (r2087 : Int32) => (¬ r2087 = 0 → W_X9_next I L (fun (I2088 : TI) (L2089 : TL) => vp_in (I2088 436 11) 12 ∧ (W_X9_nets (up2 I2088 441 ((I2088 436 11).toNatClampNeg) v1) L2089 (fun (r2091 : Int32) => W_X9_number (0 : Int32) (r2091 - 1) (up2 I2088 441 ((I2088 436 11).toNatClampNeg) v1) L2089 (fun (r2092 : Int32) (I2093 : TI) (L2094 : TL) => vp_in ((up2 I2088 441 ((I2088 436 11).toNatClampNeg) v1) 436 11) 12 ∧ (∀ I2096 : TI, I2096 = (up2 I2093 442 (((up2 I2088 441 ((I2088 436 11).toNatClampNeg) v1) 436 11).toNatClampNeg) r2092) → ((5 ≤ v1 → B_X9_gateRead_113 (I2096 436 11) ((-1) : Int32) I2096 L2094 Q) ∧ (¬ 5 ≤ v1 → W_X9_nets I2096 L2094 (fun (r2097 : Int32) => W_X9_number (0 : Int32) (r2097 - 1) I2096 L2094 (fun (r2098 : Int32) (I2099 : TI) (L2100 : TL) => B_X9_gateRead_113 (I2096 436 11) r2098 I2099 L2100 Q)))))))))) ∧ (r2087 = 0 → Q I L))
def B_X9_gateRead_15 (I : TI) (L : TL) (Q : TI → TL → Prop) : Prop :=
  W_X9_isGood I L (fun (r2101 : Int32) => (¬ r2101 = 0 → W_X9_next I L (fun (I2102 : TI) (L2103 : TL) => W_X9_kindHere I2102 L2103 (fun (r2104 : Int32) => (¬ r2104 = (-1) → B_X9_gateRead_43 r2104 I2102 L2103 Q) ∧ (r2104 = (-1) → W_X9_faults (1 : Int32) I2102 L2103 (fun (r2105 : Int32) (I2106 : TI) => B_X9_gateRead_43 r2104 I2106 L2103 Q))))) ∧ (r2101 = 0 → Q I L))
def W_X9_gateRead (I : TI) (L : TL) (Q : TI → TL → Prop) : Prop :=
  (¬ (I 436 11) = 12 → B_X9_gateRead_15 I L Q) ∧ ((I 436 11) = 12 → W_X9_faults (3 : Int32) I L (fun (r2107 : Int32) (I2108 : TI) => B_X9_gateRead_15 I2108 L Q))
def B_X9_reads0_107 (I : TI) (L : TL) (Q : TI → TL → Prop) : Prop :=
  W_X9_isGood I L (fun (r2157 : Int32) => (r2157 = 0 → Q I L) ∧ (¬ r2157 = 0 → ((I 436 26) = 0 → Q I L) ∧ (¬ (I 436 26) = 0 → W_X9_faults (1 : Int32) I L (fun (r2158 : Int32) (I2159 : TI) => Q I2159 L))))
def D_X9_reads0_73 (Q : TI → TL → Prop) (R73 : Int32 → TI → TL → Prop) (v1 : Int32) (I : TI) (L : TL) : Prop :=
  (3 ≤ v1 → W_X9_must (59 : Int32) I L (fun (I2160 : TI) (L2161 : TL) => B_X9_reads0_107 I2160 L2161 Q)) ∧ (¬ 3 ≤ v1 → W_X9_number (0 : Int32) (99999 : Int32) I L (fun (r2162 : Int32) (I2163 : TI) (L2164 : TL) => vp_in ((1 : Int32) + v1) 241 ∧ (∀ L2166 : TL, L2166 = (up2 L2164 437 (((1 : Int32) + v1).toNatClampNeg) (r2162.toInt64)) → (R73 (v1 + 1) I2163 L2166))))
def L_X9_reads0_73 (Q : TI → TL → Prop) : Nat → Int32 → TI → TL → Prop
  | 0, _, _, _ => False
  | n9 + 1, v1, I, L => D_X9_reads0_73 Q (fun v1 I L => L_X9_reads0_73 Q n9 v1 I L) v1 I L
def D_X9_reads0_44 (Q : TI → TL → Prop) (R44 : TI → TL → Prop) (I : TI) (L : TL) : Prop :=
  W_X9_isWord (139055 : Int64) I L (fun (r2167 : Int32) => (r2167 = 0 → W_X9_passes (241111072 : Int64) I L (fun (r2168 : Int32) (I2169 : TI) (L2170 : TL) => (r2168 = 0 → B_X9_reads0_107 I2169 L2170 Q) ∧ (¬ r2168 = 0 → ∃ n2171, L_X9_reads0_73 Q n2171 (0 : Int32) I2169 L2170))) ∧ (¬ r2167 = 0 → W_X9_gateRead I L (fun (I2172 : TI) (L2173 : TL) => R44 I2172 L2173)))
def L_X9_reads0_44 (Q : TI → TL → Prop) : Nat → TI → TL → Prop
  | 0, _, _ => False
  | n9 + 1, I, L => D_X9_reads0_44 Q (fun I L => L_X9_reads0_44 Q n9 I L) I L
def D_X9_reads0_27 (Q : TI → TL → Prop) (R27 : TI → TL → Prop) (I : TI) (L : TL) : Prop :=
  W_X9_isWord (5070782 : Int64) I L (fun (r2174 : Int32) => (r2174 = 0 → ∃ n2175, L_X9_reads0_44 Q n2175 I L) ∧ (¬ r2174 = 0 → W_X9_inputRead I L (fun (I2176 : TI) (L2177 : TL) => R27 I2176 L2177)))
def L_X9_reads0_27 (Q : TI → TL → Prop) : Nat → TI → TL → Prop
  | 0, _, _ => False
  | n9 + 1, I, L => D_X9_reads0_27 Q (fun I L => L_X9_reads0_27 Q n9 I L) I L
def W_X9_reads0 (I : TI) (L : TL) (Q : TI → TL → Prop) : Prop :=
  W_X9_headRead I L (fun (I2178 : TI) (L2179 : TL) => W_X9_isGood I2178 L2179 (fun (r2180 : Int32) => (r2180 = 0 → ∃ n2181, L_X9_reads0_27 Q n2181 I2178 L2179) ∧ (¬ r2180 = 0 → W_X9_isWord (5070782 : Int64) I2178 L2179 (fun (r2182 : Int32) => (¬ r2182 = 0 → ∃ n2183, L_X9_reads0_27 Q n2183 I2178 L2179) ∧ (r2182 = 0 → W_X9_faults (1 : Int32) I2178 L2179 (fun (r2184 : Int32) (I2185 : TI) => ∃ n2186, L_X9_reads0_27 Q n2186 I2185 L2179))))))
def D_X9_load_196 (v2 : Int32) (v3 : Int32) (v4 : Int32) (v5 : Int32) (v6 : Int32) (L : TL) (Q : Int32 → TI → TL → Prop) (R196 : Int32 → TI → Prop) (v7 : Int32) (I : TI) : Prop :=
  (12 ≤ v7 → ∀ I2253 : TI, I2253 = (up2 (up2 (up2 (up2 I 436 7 v2) 436 8 v3) 436 9 v4) 436 10 v5) → (Q (((-10) : Int32) - ((up2 I2253 436 11 v6) 436 29)) (up2 I2253 436 11 v6) L)) ∧ (¬ 12 ≤ v7 → vp_in v7 12 ∧ (vp_in v7 12 ∧ (vp_in v7 12 ∧ (vp_in v7 12 ∧ (∀ I2258 : TI, I2258 = (up2 (up2 I 441 (v7.toNatClampNeg) (I 448 (v7.toNatClampNeg))) 442 (v7.toNatClampNeg) ((up2 I 441 (v7.toNatClampNeg) (I 448 (v7.toNatClampNeg))) 449 (v7.toNatClampNeg))) → (vp_in v7 12 ∧ (vp_in v7 12 ∧ (∀ I2261 : TI, I2261 = (up2 I2258 443 (v7.toNatClampNeg) (I2258 450 (v7.toNatClampNeg))) → (R196 (v7 + 1) I2261)))))))))
def L_X9_load_196 (v2 : Int32) (v3 : Int32) (v4 : Int32) (v5 : Int32) (v6 : Int32) (L : TL) (Q : Int32 → TI → TL → Prop) : Nat → Int32 → TI → Prop
  | 0, _, _ => False
  | n9 + 1, v7, I => D_X9_load_196 v2 v3 v4 v5 v6 L Q (fun v7 I => L_X9_load_196 v2 v3 v4 v5 v6 L Q n9 v7 I) v7 I
def D_X9_load_165 (v2 : Int32) (v3 : Int32) (v4 : Int32) (v5 : Int32) (v6 : Int32) (I : TI) (Q : Int32 → TI → TL → Prop) (R165 : Int32 → TL → Prop) (v7 : Int32) (L : TL) : Prop :=
  (241 ≤ v7 → ∃ n2262, L_X9_load_196 v2 v3 v4 v5 v6 L Q n2262 (0 : Int32) I) ∧ (¬ 241 ≤ v7 → vp_in v7 241 ∧ (vp_in v7 241 ∧ (R165 (v7 + 1) (up2 L 437 (v7.toNatClampNeg) (L 438 (v7.toNatClampNeg))))))
def L_X9_load_165 (v2 : Int32) (v3 : Int32) (v4 : Int32) (v5 : Int32) (v6 : Int32) (I : TI) (Q : Int32 → TI → TL → Prop) : Nat → Int32 → TL → Prop
  | 0, _, _ => False
  | n9 + 1, v7, L => D_X9_load_165 v2 v3 v4 v5 v6 I Q (fun v7 L => L_X9_load_165 v2 v3 v4 v5 v6 I Q n9 v7 L) v7 L
def D_X9_load_55 (v1 : Int32) (L : TL) (Q : Int32 → TI → TL → Prop) (R55 : Int32 → TI → Prop) (v2 : Int32) (I : TI) : Prop :=
  (12 ≤ v2 → W_X9_starts v1 I L (fun (I2265 : TI) (L2266 : TL) => W_X9_reads0 I2265 L2266 (fun (I2267 : TI) (L2268 : TL) => W_X9_isGood I2267 L2268 (fun (r2269 : Int32) => (r2269 = 0 → ∃ n2270, L_X9_load_165 (I 436 7) (I 436 8) (I 436 9) (I 436 10) (I 436 11) I2267 Q n2270 (0 : Int32) L2268) ∧ (¬ r2269 = 0 → W_X9_nets (up2 (up2 I2267 436 6 0) 436 5 0) L2268 (fun (r2271 : Int32) => Q r2271 (up2 (up2 I2267 436 6 0) 436 5 0) L2268)))))) ∧ (¬ 12 ≤ v2 → vp_in v2 12 ∧ (vp_in v2 12 ∧ (vp_in v2 12 ∧ (vp_in v2 12 ∧ (∀ I2276 : TI, I2276 = (up2 (up2 I 448 (v2.toNatClampNeg) (I 441 (v2.toNatClampNeg))) 449 (v2.toNatClampNeg) ((up2 I 448 (v2.toNatClampNeg) (I 441 (v2.toNatClampNeg))) 442 (v2.toNatClampNeg))) → (vp_in v2 12 ∧ (vp_in v2 12 ∧ (∀ I2279 : TI, I2279 = (up2 I2276 450 (v2.toNatClampNeg) (I2276 443 (v2.toNatClampNeg))) → (R55 (v2 + 1) I2279)))))))))
def L_X9_load_55 (v1 : Int32) (L : TL) (Q : Int32 → TI → TL → Prop) : Nat → Int32 → TI → Prop
  | 0, _, _ => False
  | n9 + 1, v2, I => D_X9_load_55 v1 L Q (fun v2 I => L_X9_load_55 v1 L Q n9 v2 I) v2 I
def D_X9_load_28 (v1 : Int32) (I : TI) (Q : Int32 → TI → TL → Prop) (R28 : Int32 → TL → Prop) (v2 : Int32) (L : TL) : Prop :=
  (241 ≤ v2 → ∃ n2280, L_X9_load_55 v1 L Q n2280 (0 : Int32) I) ∧ (¬ 241 ≤ v2 → vp_in v2 241 ∧ (vp_in v2 241 ∧ (R28 (v2 + 1) (up2 L 438 (v2.toNatClampNeg) (L 437 (v2.toNatClampNeg))))))
def L_X9_load_28 (v1 : Int32) (I : TI) (Q : Int32 → TI → TL → Prop) : Nat → Int32 → TL → Prop
  | 0, _, _ => False
  | n9 + 1, v2, L => D_X9_load_28 v1 I Q (fun v2 L => L_X9_load_28 v1 I Q n9 v2 L) v2 L
def W_X9_load (p1 : Int32) (I : TI) (L : TL) (Q : Int32 → TI → TL → Prop) : Prop :=
  W_X9_in (p1.toInt64) (0 : Int64) (((up2 I 436 0 0) 436 22).toInt64) (up2 I 436 0 0) L (fun (r2283 : Int32) => W_X9_fails r2283 (1 : Int32) (up2 I 436 0 0) L (fun (r2284 : Int32) (I2285 : TI) => (r2284 = 0 → ∃ n2286, L_X9_load_28 p1 I2285 Q n2286 (0 : Int32) L) ∧ (¬ r2284 = 0 → Q 0 I2285 L)))
def W_X9_noNet (p1 : Int32) (I : TI) (L : TL) (Q : Int32 → TI → Prop) : Prop :=
  W_X9_nets (up2 I 436 0 0) L (fun (r2292 : Int32) => W_X9_in (p1.toInt64) (0 : Int64) ((r2292 - 1).toInt64) (up2 I 436 0 0) L (fun (r2293 : Int32) => W_X9_fails r2293 (1 : Int32) (up2 I 436 0 0) L (fun (r2294 : Int32) (I2295 : TI) => (r2294 = 0 ∨ r2294 = 1) ∧ (Q r2294 I2295))))
def W_X9_noGate (p1 : Int32) (I : TI) (L : TL) (Q : Int32 → TI → Prop) : Prop :=
  W_X9_nets (up2 I 436 0 0) L (fun (r2302 : Int32) => W_X9_in (p1.toInt64) (((up2 I 436 0 0) 436 10).toInt64) ((r2302 - 1).toInt64) (up2 I 436 0 0) L (fun (r2303 : Int32) => W_X9_fails r2303 (1 : Int32) (up2 I 436 0 0) L (fun (r2304 : Int32) (I2305 : TI) => (r2304 = 0 ∨ r2304 = 1) ∧ (Q r2304 I2305))))
def W_X9_noWave (p1 : Int32) (p2 : Int32) (I : TI) (L : TL) (Q : Int32 → TI → TL → Prop) : Prop :=
  W_X9_noNet p1 I L (fun (r2313 : Int32) (I2314 : TI) => (¬ r2313 = 0 → Q 1 I2314 L) ∧ (r2313 = 0 → W_X9_in (p2.toInt64) (0 : Int64) (2 : Int64) I2314 L (fun (r2315 : Int32) => W_X9_fails r2315 (1 : Int32) I2314 L (fun (r2316 : Int32) (I2317 : TI) => (r2316 = 0 → W_X9_waves I2317 L (fun (L2318 : TL) => Q 0 I2317 L2318)) ∧ (¬ r2316 = 0 → Q 1 I2317 L)))))
def W_X9_size (p1 : Int32) (I : TI) (L : TL) (Q : Int32 → TI → Prop) : Prop :=
  W_X9_in (p1.toInt64) (0 : Int64) (9 : Int64) (up2 I 436 0 0) L (fun (r2323 : Int32) => W_X9_fails r2323 (1 : Int32) (up2 I 436 0 0) L (fun (r2324 : Int32) (I2325 : TI) => (r2324 = 0 → (p1 = 0 → Q (I2325 436 10) I2325) ∧ (p1 = 1 → Q (I2325 436 11) I2325) ∧ (p1 = 2 → Q (I2325 436 7) I2325) ∧ (p1 = 3 → Q ((L 437 0).toInt32) I2325) ∧ (p1 = 4 → Q (I2325 436 8) I2325) ∧ (p1 = 5 → Q (I2325 436 9) I2325) ∧ (p1 = 6 → Q ((L 437 4).toInt32) I2325) ∧ (p1 < 0 ∨ 6 < p1 → vp_in (((1 : Int32) + p1) - 7) 241 ∧ (Q ((L 437 ((((1 : Int32) + p1) - 7).toNatClampNeg)).toInt32) I2325))) ∧ (¬ r2324 = 0 → Q 0 I2325)))
def B_X9_gate_168 (v1 : Int32) (v2 : Int32) (I : TI) (L : TL) (Q : Int32 → TI → TL → Prop) : Prop :=
  W_X9_delayOf v1 (v2 - 3) I L (fun (r2365 : Int32) => Q r2365 I L)
def W_X9_gate (p1 : Int32) (p2 : Int32) (I : TI) (L : TL) (Q : Int32 → TI → TL → Prop) : Prop :=
  W_X9_noGate p1 I L (fun (r2366 : Int32) (I2367 : TI) => (¬ r2366 = 0 → Q 0 I2367 L) ∧ (r2366 = 0 → W_X9_in (p2.toInt64) (0 : Int64) (9 : Int64) I2367 L (fun (r2368 : Int32) => W_X9_fails r2368 (1 : Int32) I2367 L (fun (r2369 : Int32) (I2370 : TI) => (r2369 = 0 → W_X9_waves I2370 L (fun (L2371 : TL) => (p2 = 0 → vp_in (p1 - (I2370 436 10)) 12 ∧ (Q (I2370 441 ((p1 - (I2370 436 10)).toNatClampNeg)) I2370 L2371)) ∧ (p2 = 1 → vp_in (p1 - (I2370 436 10)) 12 ∧ (Q (I2370 442 ((p1 - (I2370 436 10)).toNatClampNeg)) I2370 L2371)) ∧ (p2 = 2 → vp_in (p1 - (I2370 436 10)) 12 ∧ (Q (I2370 443 ((p1 - (I2370 436 10)).toNatClampNeg)) I2370 L2371)) ∧ (p2 = 3 → B_X9_gate_168 p1 p2 I2370 L2371 Q) ∧ (p2 = 4 → B_X9_gate_168 p1 p2 I2370 L2371 Q) ∧ (p2 = 5 → B_X9_gate_168 p1 p2 I2370 L2371 Q) ∧ (p2 = 6 → W_X9_dependence p1 I2370 L2371 (fun (r2375 : Int64) => W_X9_ones r2375 I2370 L2371 (fun (r2376 : Int32) => Q r2376 I2370 L2371))) ∧ (p2 = 7 → vp_in ((9 : Int32) + (p1 - (I2370 436 10))) 241 ∧ (W_X9_ones (L2371 437 (((9 : Int32) + (p1 - (I2370 436 10))).toNatClampNeg)) I2370 L2371 (fun (r2378 : Int32) => Q r2378 I2370 L2371))) ∧ (p2 = 8 → vp_in ((21 : Int32) + (p1 - (I2370 436 10))) 241 ∧ (vp_in ((9 : Int32) + (p1 - (I2370 436 10))) 241 ∧ (W_X9_ones ((L2371 437 (((21 : Int32) + (p1 - (I2370 436 10))).toNatClampNeg)) &&& ((L2371 437 (((9 : Int32) + (p1 - (I2370 436 10))).toNatClampNeg)) ^^^ (-1))) I2370 L2371 (fun (r2381 : Int32) => Q r2381 I2370 L2371)))) ∧ (p2 = 9 → W_X9_pulsesOf p1 I2370 L2371 (fun (r2382 : Int32) (I2383 : TI) => Q r2382 I2383 L2371)) ∧ (p2 < 0 ∨ 9 < p2 → B_X9_gate_168 p1 p2 I2370 L2371 Q))) ∧ (¬ r2369 = 0 → Q 0 I2370 L)))))
def B_X9_value_40 (v1 : Int32) (v2 : Int32) (v3 : Int32) (s1 : Int32) (I : TI) (L : TL) (Q : Int32 → TI → TL → Prop) : Prop :=
  W_X9_fails s1 (1 : Int32) I L (fun (r2402 : Int32) (I2403 : TI) => (r2402 = 0 → W_X9_waves I2403 L (fun (L2404 : TL) => W_X9_waveOf v1 v3 I2403 L2404 (fun (r2405 : Int64) => W_X9_bit r2405 v2 I2403 L2404 (fun (r2406 : Int32) => Q r2406 I2403 L2404)))) ∧ (¬ r2402 = 0 → Q 0 I2403 L))
def B_X9_value_39 (v1 : Int32) (v2 : Int32) (v3 : Int32) (I : TI) (L : TL) (Q : Int32 → TI → TL → Prop) : Prop :=
  B_X9_value_40 v1 v2 v3 (0 : Int32) I L Q
def W_X9_value (p1 : Int32) (p2 : Int32) (p3 : Int32) (I : TI) (L : TL) (Q : Int32 → TI → TL → Prop) : Prop :=
  W_X9_noNet p1 I L (fun (r2407 : Int32) (I2408 : TI) => (¬ r2407 = 0 → Q 0 I2408 L) ∧ (r2407 = 0 → W_X9_in (p2.toInt64) (0 : Int64) ((I2408 436 7).toInt64) I2408 L (fun (r2409 : Int32) => (r2409 = 0 → B_X9_value_39 p1 p2 p3 I2408 L Q) ∧ (¬ r2409 = 0 → W_X9_in (p3.toInt64) (0 : Int64) (2 : Int64) I2408 L (fun (r2410 : Int32) => (r2410 = 0 → B_X9_value_39 p1 p2 p3 I2408 L Q) ∧ (¬ r2410 = 0 → B_X9_value_40 p1 p2 p3 (1 : Int32) I2408 L Q))))))
def W_X9_stateAt (p1 : Int32) (p2 : Int32) (I : TI) (L : TL) (Q : Int32 → TI → Prop) : Prop :=
  W_X9_noNet p1 I L (fun (r2420 : Int32) (I2421 : TI) => (¬ r2420 = 0 → Q 0 I2421) ∧ (r2420 = 0 → W_X9_in (p2.toInt64) (0 : Int64) ((I2421 436 7).toInt64) I2421 L (fun (r2422 : Int32) => W_X9_fails r2422 (1 : Int32) I2421 L (fun (r2423 : Int32) (I2424 : TI) => (r2423 = 0 → (0 ≤ (p1 - (I2424 436 10)) → vp_in ((9 : Int32) + (p1 - (I2424 436 10))) 241 ∧ (W_X9_bit (L 437 (((9 : Int32) + (p1 - (I2424 436 10))).toNatClampNeg)) p2 I2424 L (fun (r2426 : Int32) => (¬ r2426 = 1 → vp_in ((21 : Int32) + (p1 - (I2424 436 10))) 241 ∧ (W_X9_bit (L 437 (((21 : Int32) + (p1 - (I2424 436 10))).toNatClampNeg)) p2 I2424 L (fun (r2428 : Int32) => Q r2428 I2424))) ∧ (r2426 = 1 → Q 2 I2424)))) ∧ (¬ 0 ≤ (p1 - (I2424 436 10)) → Q 0 I2424)) ∧ (¬ r2423 = 0 → Q 0 I2424)))))
def W_X9_wave (p1 : Int32) (p2 : Int32) (I : TI) (L : TL) (Q : Int64 → TI → TL → Prop) : Prop :=
  W_X9_noWave p1 p2 I L (fun (r2433 : Int32) (I2434 : TI) (L2435 : TL) => (r2433 = 0 → W_X9_waveOf p1 p2 I2434 L2435 (fun (r2436 : Int64) => Q r2436 I2434 L2435)) ∧ (¬ r2433 = 0 → Q 0 I2434 L2435))
def W_X9_changes (p1 : Int32) (p2 : Int32) (I : TI) (L : TL) (Q : Int32 → TI → TL → Prop) : Prop :=
  W_X9_noWave p1 p2 I L (fun (r2442 : Int32) (I2443 : TI) (L2444 : TL) => (r2442 = 0 → W_X9_waveOf p1 p2 I2443 L2444 (fun (r2445 : Int64) => W_X9_changesOf r2445 I2443 L2444 (fun (r2446 : Int32) => Q r2446 I2443 L2444))) ∧ (¬ r2442 = 0 → Q 0 I2443 L2444))
def D_X9_quietFrom_16 (v1 : Int32) (v2 : Int32) (I : TI) (L : TL) (Q : Int32 → TI → TL → Prop) (R16 : Int32 → Prop) (v3 : Int32) : Prop :=
  (v3 ≤ 0 → Q v3 I L) ∧ (¬ v3 ≤ 0 → W_X9_waveOf v1 v2 I L (fun (r2461 : Int64) => W_X9_bit r2461 (v3 - 1) I L (fun (r2462 : Int32) => W_X9_waveOf v1 v2 I L (fun (r2463 : Int64) => W_X9_bit r2463 (I 436 7) I L (fun (r2464 : Int32) => (¬ r2462 = r2464 → Q v3 I L) ∧ (r2462 = r2464 → R16 (v3 + (-1))))))))
def L_X9_quietFrom_16 (v1 : Int32) (v2 : Int32) (I : TI) (L : TL) (Q : Int32 → TI → TL → Prop) : Nat → Int32 → Prop
  | 0, _ => False
  | n9 + 1, v3 => D_X9_quietFrom_16 v1 v2 I L Q (fun v3 => L_X9_quietFrom_16 v1 v2 I L Q n9 v3) v3
def W_X9_quietFrom (p1 : Int32) (p2 : Int32) (I : TI) (L : TL) (Q : Int32 → TI → TL → Prop) : Prop :=
  W_X9_noWave p1 p2 I L (fun (r2465 : Int32) (I2466 : TI) (L2467 : TL) => (r2465 = 0 → ∃ n2468, L_X9_quietFrom_16 p1 p2 I2466 L2467 Q n2468 (I2466 436 7)) ∧ (¬ r2465 = 0 → Q 0 I2466 L2467))
def B_X9_shortest_86 (v3 : Int64) (v6 : Int32) (v7 : Int32) (s0 : Int32) (I : TI) (L : TL) (Q : Int32 → TI → TL → Prop) (R31 : Int32 → Int32 → Prop) : Prop :=
  R31 s0 (v6 + v7)
def D_X9_shortest_31 (v3 : Int64) (I : TI) (L : TL) (Q : Int32 → TI → TL → Prop) (R31 : Int32 → Int32 → Prop) (v5 : Int32) (v6 : Int32) : Prop :=
  ((I 436 7) < v6 → Q v5 I L) ∧ (¬ (I 436 7) < v6 → W_X9_endOf v3 v6 I L (fun (r2485 : Int32) => ((I 436 7) ≤ r2485 → Q v5 I L) ∧ (¬ (I 436 7) ≤ r2485 → W_X9_endOf v3 v6 I L (fun (r2486 : Int32) => (¬ v5 = (-1) → W_X9_lesser v5 ((r2486 - v6) + 1) I L (fun (r2487 : Int32) => B_X9_shortest_86 v3 v6 ((r2486 - v6) + 1) r2487 I L Q R31)) ∧ (v5 = (-1) → B_X9_shortest_86 v3 v6 ((r2486 - v6) + 1) ((r2486 - v6) + 1) I L Q R31)))))
def L_X9_shortest_31 (v3 : Int64) (I : TI) (L : TL) (Q : Int32 → TI → TL → Prop) : Nat → Int32 → Int32 → Prop
  | 0, _, _ => False
  | n9 + 1, v5, v6 => D_X9_shortest_31 v3 I L Q (fun v5 v6 => L_X9_shortest_31 v3 I L Q n9 v5 v6) v5 v6
def W_X9_shortest (p1 : Int32) (p2 : Int32) (I : TI) (L : TL) (Q : Int32 → TI → TL → Prop) : Prop :=
  W_X9_noWave p1 p2 I L (fun (r2488 : Int32) (I2489 : TI) (L2490 : TL) => (r2488 = 0 → W_X9_waveOf p1 p2 I2489 L2490 (fun (r2491 : Int64) => W_X9_endOf r2491 (0 : Int32) I2489 L2490 (fun (r2492 : Int32) => ∃ n2493, L_X9_shortest_31 r2491 I2489 L2490 Q n2493 ((-1) : Int32) (r2492 + 1)))) ∧ (¬ r2488 = 0 → Q 0 I2489 L2490))
def W_X9_wrong (p1 : Int32) (I : TI) (L : TL) (Q : Int32 → TI → TL → Prop) : Prop :=
  W_X9_noNet p1 I L (fun (r2500 : Int32) (I2501 : TI) => (r2500 = 0 → W_X9_waves I2501 L (fun (L2502 : TL) => vp_in p1 16 ∧ (vp_in p1 16 ∧ (W_X9_ones ((L2502 444 (p1.toNatClampNeg)) ^^^ (L2502 446 (p1.toNatClampNeg))) I2501 L2502 (fun (r2505 : Int32) => Q r2505 I2501 L2502))))) ∧ (¬ r2500 = 0 → Q 0 I2501 L))
def D_X9_firstWrong_16 (v1 : Int32) (I : TI) (L : TL) (Q : Int32 → TI → TL → Prop) (R16 : Int32 → Prop) (v2 : Int32) : Prop :=
  ((I 436 7) < v2 → Q (-1) I L) ∧ (¬ (I 436 7) < v2 → vp_in v1 16 ∧ (vp_in v1 16 ∧ (W_X9_bit ((L 444 (v1.toNatClampNeg)) ^^^ (L 446 (v1.toNatClampNeg))) v2 I L (fun (r2520 : Int32) => (¬ r2520 = 1 → R16 (v2 + 1)) ∧ (r2520 = 1 → Q v2 I L)))))
def L_X9_firstWrong_16 (v1 : Int32) (I : TI) (L : TL) (Q : Int32 → TI → TL → Prop) : Nat → Int32 → Prop
  | 0, _ => False
  | n9 + 1, v2 => D_X9_firstWrong_16 v1 I L Q (fun v2 => L_X9_firstWrong_16 v1 I L Q n9 v2) v2
def W_X9_firstWrong (p1 : Int32) (I : TI) (L : TL) (Q : Int32 → TI → TL → Prop) : Prop :=
  W_X9_noNet p1 I L (fun (r2521 : Int32) (I2522 : TI) => (r2521 = 0 → W_X9_waves I2522 L (fun (L2523 : TL) => ∃ n2524, L_X9_firstWrong_16 p1 I2522 L2523 Q n2524 (0 : Int32))) ∧ (¬ r2521 = 0 → Q 0 I2522 L))
def W_X9_allWrong (I : TI) (L : TL) (Q : Int32 → TI → TL → Prop) : Prop :=
  W_X9_waves (up2 I 436 0 0) L (fun (L2527 : TL) => W_X9_wrongs (up2 I 436 0 0) L2527 (fun (r2528 : Int32) => Q r2528 (up2 I 436 0 0) L2527))
def B_X9_worst_61 (v2 : Int32) (s0 : Int32) (I : TI) (L : TL) (Q : Int32 → TI → TL → Prop) (R13 : Int32 → Int32 → Prop) : Prop :=
  R13 s0 (v2 + 1)
def D_X9_worst_13 (I : TI) (L : TL) (Q : Int32 → TI → TL → Prop) (R13 : Int32 → Int32 → Prop) (v1 : Int32) (v2 : Int32) : Prop :=
  W_X9_nets I L (fun (r2545 : Int32) => (r2545 ≤ v2 → Q v1 I L) ∧ (¬ r2545 ≤ v2 → vp_in v2 16 ∧ (vp_in v2 16 ∧ (W_X9_ones ((L 444 (v2.toNatClampNeg)) ^^^ (L 446 (v2.toNatClampNeg))) I L (fun (r2548 : Int32) => vp_in v1 16 ∧ (vp_in v1 16 ∧ (W_X9_ones ((L 444 (v1.toNatClampNeg)) ^^^ (L 446 (v1.toNatClampNeg))) I L (fun (r2551 : Int32) => (r2548 ≤ r2551 → B_X9_worst_61 v2 v1 I L Q R13) ∧ (¬ r2548 ≤ r2551 → B_X9_worst_61 v2 v2 I L Q R13)))))))))
def L_X9_worst_13 (I : TI) (L : TL) (Q : Int32 → TI → TL → Prop) : Nat → Int32 → Int32 → Prop
  | 0, _, _ => False
  | n9 + 1, v1, v2 => D_X9_worst_13 I L Q (fun v1 v2 => L_X9_worst_13 I L Q n9 v1 v2) v1 v2
def W_X9_worst (I : TI) (L : TL) (Q : Int32 → TI → TL → Prop) : Prop :=
  W_X9_waves (up2 I 436 0 0) L (fun (L2552 : TL) => ∃ n2553, L_X9_worst_13 (up2 I 436 0 0) L2552 Q n2553 (0 : Int32) (1 : Int32))
def W_X9_dependsOn (p1 : Int32) (I : TI) (L : TL) (Q : Int32 → TI → Prop) : Prop :=
  W_X9_noGate p1 I L (fun (r2557 : Int32) (I2558 : TI) => (r2557 = 0 → W_X9_dependence p1 I2558 L (fun (r2559 : Int64) => Q (r2559.toInt32) I2558)) ∧ (¬ r2557 = 0 → Q 0 I2558))
def W_X9_touches (p1 : Int32) (I : TI) (L : TL) (Q : Int32 → TI → Prop) : Prop :=
  W_X9_noNet p1 I L (fun (r2563 : Int32) (I2564 : TI) => (r2563 = 0 → W_X9_touched p1 I2564 L (fun (r2565 : Int64) => Q (r2565.toInt32) I2564)) ∧ (¬ r2563 = 0 → Q 0 I2564))
def B_X9_longest_103 (v1 : Int32) (v2 : Int32) (I : TI) (L : TL) (Q : Int32 → TI → Prop) (R12 : Int32 → TI → Prop) : Prop :=
  R12 (v2 + 1) I
def B_X9_longest_98 (v1 : Int32) (v2 : Int32) (s1 : Int32) (s2 : Int32) (s3 : Int32) (s4 : Int32) (I : TI) (L : TL) (Q : Int32 → TI → Prop) (R12 : Int32 → TI → Prop) : Prop :=
  W_X9_greater s3 s4 I L (fun (r2590 : Int32) => vp_in s1 16 ∧ (B_X9_longest_103 v1 v2 (up2 I 451 (s1.toNatClampNeg) (s2 + r2590)) L Q R12))
def D_X9_longest_12 (v1 : Int32) (L : TL) (Q : Int32 → TI → Prop) (R12 : Int32 → TI → Prop) (v2 : Int32) (I : TI) : Prop :=
  (v1 < v2 → vp_in v1 16 ∧ (Q (I 451 (v1.toNatClampNeg)) I)) ∧ (¬ v1 < v2 → vp_in v2 16 ∧ ((((up2 I 451 (v2.toNatClampNeg) 0) 436 10) ≤ v2 → vp_in (v2 - ((up2 I 451 (v2.toNatClampNeg) 0) 436 10)) 12 ∧ (∀ x2595 : Int32, x2595 = ((up2 I 451 (v2.toNatClampNeg) 0) 443 ((v2 - ((up2 I 451 (v2.toNatClampNeg) 0) 436 10)).toNatClampNeg)) → (W_X9_delayOf v2 (0 : Int32) (up2 I 451 (v2.toNatClampNeg) 0) L (fun (r2596 : Int32) => W_X9_delayOf v2 (1 : Int32) (up2 I 451 (v2.toNatClampNeg) 0) L (fun (r2597 : Int32) => W_X9_greater r2596 r2597 (up2 I 451 (v2.toNatClampNeg) 0) L (fun (r2598 : Int32) => vp_in (v2 - ((up2 I 451 (v2.toNatClampNeg) 0) 436 10)) 12 ∧ (vp_in ((up2 I 451 (v2.toNatClampNeg) 0) 442 ((v2 - ((up2 I 451 (v2.toNatClampNeg) 0) 436 10)).toNatClampNeg)) 16 ∧ ((¬ x2595 = (-1) → vp_in x2595 16 ∧ (B_X9_longest_98 v1 v2 v2 r2598 ((up2 I 451 (v2.toNatClampNeg) 0) 451 (((up2 I 451 (v2.toNatClampNeg) 0) 442 ((v2 - ((up2 I 451 (v2.toNatClampNeg) 0) 436 10)).toNatClampNeg)).toNatClampNeg)) ((up2 I 451 (v2.toNatClampNeg) 0) 451 (x2595.toNatClampNeg)) (up2 I 451 (v2.toNatClampNeg) 0) L Q R12)) ∧ (x2595 = (-1) → B_X9_longest_98 v1 v2 v2 r2598 ((up2 I 451 (v2.toNatClampNeg) 0) 451 (((up2 I 451 (v2.toNatClampNeg) 0) 442 ((v2 - ((up2 I 451 (v2.toNatClampNeg) 0) 436 10)).toNatClampNeg)).toNatClampNeg)) (0 : Int32) (up2 I 451 (v2.toNatClampNeg) 0) L Q R12))))))))) ∧ (¬ ((up2 I 451 (v2.toNatClampNeg) 0) 436 10) ≤ v2 → B_X9_longest_103 v1 v2 (up2 I 451 (v2.toNatClampNeg) 0) L Q R12)))
def L_X9_longest_12 (v1 : Int32) (L : TL) (Q : Int32 → TI → Prop) : Nat → Int32 → TI → Prop
  | 0, _, _ => False
  | n9 + 1, v2, I => D_X9_longest_12 v1 L Q (fun v2 I => L_X9_longest_12 v1 L Q n9 v2 I) v2 I
def W_X9_longest (p1 : Int32) (I : TI) (L : TL) (Q : Int32 → TI → Prop) : Prop :=
  W_X9_noNet p1 I L (fun (r2602 : Int32) (I2603 : TI) => (r2602 = 0 → ∃ n2604, L_X9_longest_12 p1 L Q n2604 (0 : Int32) I2603) ∧ (¬ r2602 = 0 → Q 0 I2603))
def B_X9_noPulse_33 (s1 : Int32) (I : TI) (L : TL) (Q : Int32 → TI → TL → Prop) : Prop :=
  W_X9_fails s1 (1 : Int32) I L (fun (r2621 : Int32) (I2622 : TI) => (r2621 = 0 ∨ r2621 = 1) ∧ (Q r2621 I2622 L))
def B_X9_noPulse_32 (I : TI) (L : TL) (Q : Int32 → TI → TL → Prop) : Prop :=
  B_X9_noPulse_33 (0 : Int32) I L Q
def W_X9_noPulse (p1 : Int32) (p2 : Int32) (I : TI) (L : TL) (Q : Int32 → TI → TL → Prop) : Prop :=
  W_X9_noGate p1 I L (fun (r2624 : Int32) (I2625 : TI) => (r2624 = 0 → W_X9_waves I2625 L (fun (L2626 : TL) => (p2 < 0 → B_X9_noPulse_32 I2625 L2626 Q) ∧ (¬ p2 < 0 → W_X9_findsPulse p1 p2 I2625 L2626 (fun (r2627 : Int32) (I2628 : TI) => (r2627 = 0 → B_X9_noPulse_32 I2628 L2626 Q) ∧ (¬ r2627 = 0 → B_X9_noPulse_33 (1 : Int32) I2628 L2626 Q))))) ∧ (¬ r2624 = 0 → Q 1 I2625 L))
def W_X9_pulse (p1 : Int32) (p2 : Int32) (p3 : Int32) (I : TI) (L : TL) (Q : Int32 → TI → TL → Prop) : Prop :=
  W_X9_noPulse p1 p2 I L (fun (r2639 : Int32) (I2640 : TI) (L2641 : TL) => (¬ r2639 = 0 → Q 0 I2640 L2641) ∧ (r2639 = 0 → W_X9_in (p3.toInt64) (0 : Int64) (4 : Int64) I2640 L2641 (fun (r2642 : Int32) => W_X9_fails r2642 (1 : Int32) I2640 L2641 (fun (r2643 : Int32) (I2644 : TI) => (r2643 = 0 → vp_in p1 16 ∧ (W_X9_bit (L2641 444 (p1.toNatClampNeg)) (I2644 436 18) I2644 L2641 (fun (r2646 : Int32) => (p3 = 0 → Q (I2644 436 18) I2644 L2641) ∧ (p3 = 1 → Q (I2644 436 19) I2644 L2641) ∧ (p3 = 2 → Q r2646 I2644 L2641) ∧ (p3 = 3 → W_X9_costOf p1 (I2644 436 18) (I2644 436 19) I2644 L2641 (fun (r2647 : Int32) => Q r2647 I2644 L2641)) ∧ (p3 < 0 ∨ 3 < p3 → W_X9_delayFor p1 r2646 I2644 L2641 (fun (r2648 : Int32) => ((((I2644 436 19) - (I2644 436 18)) + 1) ≤ r2648 → Q 0 I2644 L2641) ∧ (¬ (((I2644 436 19) - (I2644 436 18)) + 1) ≤ r2648 → Q 1 I2644 L2641)))))) ∧ (¬ r2643 = 0 → Q 0 I2644 L2641)))))
def W_X9_of (p1 : Int32) (p2 : Int32) (I : TI) (L : TL) (Q : Int32 → Prop) : Prop :=
  vp_in (((81 : Int32) + ((8 : Int32) * p1)) + p2) 241 ∧ (Q ((L 437 ((((81 : Int32) + ((8 : Int32) * p1)) + p2).toNatClampNeg)).toInt32))
def W_X9_sets (p1 : Int32) (p2 : Int32) (p3 : Int32) (I : TI) (L : TL) (Q : TL → Prop) : Prop :=
  vp_in (((81 : Int32) + ((8 : Int32) * p1)) + p2) 241 ∧ (∀ L2653 : TL, L2653 = (up2 L 437 ((((81 : Int32) + ((8 : Int32) * p1)) + p2).toNatClampNeg) (p3.toInt64)) → (Q L2653))
def W_X9_noDispute (p1 : Int32) (I : TI) (L : TL) (Q : Int32 → TI → Prop) : Prop :=
  W_X9_in (p1.toInt64) (0 : Int64) ((L 437 4) - 1) (up2 I 436 0 0) L (fun (r2658 : Int32) => W_X9_fails r2658 (1 : Int32) (up2 I 436 0 0) L (fun (r2659 : Int32) (I2660 : TI) => (r2659 = 0 ∨ r2659 = 1) ∧ (Q r2659 I2660)))
def W_X9_loserOf (p1 : Int32) (I : TI) (L : TL) (Q : Int32 → Prop) : Prop :=
  W_X9_of p1 (5 : Int32) I L (fun (r2666 : Int32) => W_X9_of p1 (7 : Int32) I L (fun (r2667 : Int32) => (¬ r2666 = r2667 → W_X9_of p1 (4 : Int32) I L (fun (r2668 : Int32) => Q r2668)) ∧ (r2666 = r2667 → W_X9_of p1 (4 : Int32) I L (fun (r2669 : Int32) => Q ((1 : Int32) - r2669)))))
def W_X9_stakeOf (p1 : Int32) (I : TI) (L : TL) (Q : Int32 → Prop) : Prop :=
  W_X9_of p1 (0 : Int32) I L (fun (r2674 : Int32) => W_X9_of p1 (1 : Int32) I L (fun (r2675 : Int32) => W_X9_of p1 (2 : Int32) I L (fun (r2676 : Int32) => W_X9_costOf r2674 r2675 r2676 I L (fun (r2677 : Int32) => Q r2677))))
def W_X9_windowOf (p1 : Int32) (I : TI) (L : TL) (Q : Int64 → Prop) : Prop :=
  W_X9_of p1 (1 : Int32) I L (fun (r2681 : Int32) => W_X9_of p1 (2 : Int32) I L (fun (r2682 : Int32) => W_X9_times r2681 r2682 I L (fun (r2683 : Int64) => Q r2683)))
def B_X9_replayed_31 (v1 : Int32) (s0 : Int64) (I : TI) (L : TL) (Q : Int32 → Prop) : Prop :=
  W_X9_windowOf v1 I L (fun (r2692 : Int64) => (¬ (s0 &&& r2692) = 0 → Q 1) ∧ ((s0 &&& r2692) = 0 → Q 0))
def W_X9_replayed (p1 : Int32) (I : TI) (L : TL) (Q : Int32 → Prop) : Prop :=
  W_X9_of p1 (0 : Int32) I L (fun (r2693 : Int32) => vp_in r2693 16 ∧ (∀ x2695 : Int64, x2695 = (L 446 (r2693.toNatClampNeg)) → (W_X9_of p1 (3 : Int32) I L (fun (r2696 : Int32) => (¬ r2696 = 1 → B_X9_replayed_31 p1 (x2695 ^^^ (-1)) I L Q) ∧ (r2696 = 1 → B_X9_replayed_31 p1 x2695 I L Q)))))
def W_X9_dispute (p1 : Int32) (p2 : Int32) (I : TI) (L : TL) (Q : Int32 → TI → Prop) : Prop :=
  W_X9_noDispute p1 I L (fun (r2706 : Int32) (I2707 : TI) => (¬ r2706 = 0 → Q 0 I2707) ∧ (r2706 = 0 → W_X9_in (p2.toInt64) (0 : Int64) (9 : Int64) I2707 L (fun (r2708 : Int32) => W_X9_fails r2708 (1 : Int32) I2707 L (fun (r2709 : Int32) (I2710 : TI) => (r2709 = 0 → (8 ≤ p2 → (¬ p2 = 9 → W_X9_of p1 (7 : Int32) I2710 L (fun (r2711 : Int32) => (¬ r2711 = (-1) → W_X9_loserOf p1 I2710 L (fun (r2712 : Int32) => Q r2712 I2710)) ∧ (r2711 = (-1) → Q (-1) I2710))) ∧ (p2 = 9 → W_X9_stakeOf p1 I2710 L (fun (r2713 : Int32) => Q r2713 I2710))) ∧ (¬ 8 ≤ p2 → W_X9_of p1 p2 I2710 L (fun (r2714 : Int32) => Q r2714 I2710))) ∧ (¬ r2709 = 0 → Q 0 I2710)))))
def B_X9_disputes_57 (v1 : Int32) (v3 : Int32) (s0 : Int32) (s1 : Int32) (I : TI) (L : TL) (Q : Int32 → TI → Prop) (R28 : Int32 → Int32 → Prop) : Prop :=
  R28 (s0 + s1) (v3 + 1)
def D_X9_disputes_28 (v1 : Int32) (I : TI) (L : TL) (Q : Int32 → TI → Prop) (R28 : Int32 → Int32 → Prop) (v2 : Int32) (v3 : Int32) : Prop :=
  ((L 437 4) ≤ (v3.toInt64) → Q v2 I) ∧ (¬ (L 437 4) ≤ (v3.toInt64) → W_X9_of v3 (6 : Int32) I L (fun (r2723 : Int32) => (¬ r2723 = v1 → B_X9_disputes_57 v1 v3 v2 (0 : Int32) I L Q R28) ∧ (r2723 = v1 → B_X9_disputes_57 v1 v3 v2 (1 : Int32) I L Q R28)))
def L_X9_disputes_28 (v1 : Int32) (I : TI) (L : TL) (Q : Int32 → TI → Prop) : Nat → Int32 → Int32 → Prop
  | 0, _, _ => False
  | n9 + 1, v2, v3 => D_X9_disputes_28 v1 I L Q (fun v2 v3 => L_X9_disputes_28 v1 I L Q n9 v2 v3) v2 v3
def W_X9_disputes (p1 : Int32) (I : TI) (L : TL) (Q : Int32 → TI → Prop) : Prop :=
  W_X9_in (p1.toInt64) (0 : Int64) (4 : Int64) (up2 I 436 0 0) L (fun (r2724 : Int32) => W_X9_fails r2724 (1 : Int32) (up2 I 436 0 0) L (fun (r2725 : Int32) (I2726 : TI) => (r2725 = 0 → ∃ n2727, L_X9_disputes_28 p1 I2726 L Q n2727 (0 : Int32) (0 : Int32)) ∧ (¬ r2725 = 0 → Q 0 I2726)))
def B_X9_noTimes_43 (s1 : Int32) (I : TI) (L : TL) (Q : Int32 → TI → Prop) : Prop :=
  W_X9_fails s1 (2 : Int32) I L (fun (r2740 : Int32) (I2741 : TI) => (r2740 = 0 → Q 0 I2741) ∧ (¬ r2740 = 0 → Q 1 I2741))
def B_X9_noTimes_42 (I : TI) (L : TL) (Q : Int32 → TI → Prop) : Prop :=
  B_X9_noTimes_43 (0 : Int32) I L Q
def W_X9_noTimes (p1 : Int32) (p2 : Int32) (p3 : Int32) (I : TI) (L : TL) (Q : Int32 → TI → Prop) : Prop :=
  W_X9_noGate p1 I L (fun (r2742 : Int32) (I2743 : TI) => (¬ r2742 = 0 → Q 1 I2743) ∧ (r2742 = 0 → W_X9_in (p2.toInt64) (0 : Int64) ((I2743 436 7).toInt64) I2743 L (fun (r2744 : Int32) => (r2744 = 0 → B_X9_noTimes_42 I2743 L Q) ∧ (¬ r2744 = 0 → W_X9_in (p3.toInt64) (p2.toInt64) ((I2743 436 7).toInt64) I2743 L (fun (r2745 : Int32) => (r2745 = 0 → B_X9_noTimes_42 I2743 L Q) ∧ (¬ r2745 = 0 → B_X9_noTimes_43 (1 : Int32) I2743 L Q))))))
def W_X9_cost (p1 : Int32) (p2 : Int32) (p3 : Int32) (I : TI) (L : TL) (Q : Int32 → TI → Prop) : Prop :=
  W_X9_noTimes p1 p2 p3 I L (fun (r2749 : Int32) (I2750 : TI) => (r2749 = 0 → W_X9_costOf p1 p2 p3 I2750 L (fun (r2751 : Int32) => Q r2751 I2750)) ∧ (¬ r2749 = 0 → Q 0 I2750))
def W_X9_wrongBehind (p1 : Int32) (p2 : Int32) (p3 : Int32) (I : TI) (L : TL) (Q : Int32 → TL → Prop) : Prop :=
  vp_in (((9 : Int32) + p1) - (I 436 10)) 241 ∧ (∀ x2760 : Int64, x2760 = (L 437 ((((9 : Int32) + p1) - (I 436 10)).toNatClampNeg)) → (W_X9_times p2 p3 I L (fun (r2761 : Int64) => vp_in (((9 : Int32) + p1) - (I 436 10)) 241 ∧ (∀ L2763 : TL, L2763 = (up2 L 437 ((((9 : Int32) + p1) - (I 436 10)).toNatClampNeg) (x2760 ||| r2761)) → (W_X9_waves I L2763 (fun (L2764 : TL) => W_X9_wrongs I L2764 (fun (r2765 : Int32) => vp_in (((9 : Int32) + p1) - (I 436 10)) 241 ∧ (∀ L2767 : TL, L2767 = (up2 L2764 437 ((((9 : Int32) + p1) - (I 436 10)).toNatClampNeg) x2760) → (W_X9_waves I L2767 (fun (L2768 : TL) => Q r2765 L2768))))))))))
def W_X9_gain (p1 : Int32) (p2 : Int32) (p3 : Int32) (I : TI) (L : TL) (Q : Int32 → TI → TL → Prop) : Prop :=
  W_X9_noTimes p1 p2 p3 I L (fun (r2775 : Int32) (I2776 : TI) => (r2775 = 0 → W_X9_waves I2776 L (fun (L2777 : TL) => W_X9_wrongs I2776 L2777 (fun (r2778 : Int32) => W_X9_wrongBehind p1 p2 p3 I2776 L2777 (fun (r2779 : Int32) (L2780 : TL) => Q (r2778 - r2779) I2776 L2780)))) ∧ (¬ r2775 = 0 → Q 0 I2776 L))
def B_X9_bestReplay_152 (v1 : Int32) (v2 : Int32) (v3 : Int32) (v4 : Int32) (v5 : Int32) (I : TI) (L : TL) (Q : Int32 → TI → TL → Prop) (R24 : Int32 → Int32 → Int32 → Int32 → TI → TL → Prop) (R36 : Int32 → Int32 → Int32 → Int32 → TI → TL → Prop) : Prop :=
  R36 v1 v2 v3 (v5 + 1) I L
def B_X9_bestReplay_127 (v1 : Int32) (v2 : Int32) (v3 : Int32) (v4 : Int32) (v5 : Int32) (v8 : Int32) (v9 : Int32) (s0 : Int32) (I : TI) (L : TL) (Q : Int32 → TI → TL → Prop) (R24 : Int32 → Int32 → Int32 → Int32 → TI → TL → Prop) (R36 : Int32 → Int32 → Int32 → Int32 → TI → TL → Prop) : Prop :=
  (¬ s0 = 0 → B_X9_bestReplay_152 (((100 : Int32) * v4) + v5) v9 v8 v4 v5 I L Q R24 R36) ∧ (s0 = 0 → B_X9_bestReplay_152 v1 v2 v3 v4 v5 I L Q R24 R36)
def B_X9_bestReplay_126 (v1 : Int32) (v2 : Int32) (v3 : Int32) (v4 : Int32) (v5 : Int32) (v8 : Int32) (v9 : Int32) (I : TI) (L : TL) (Q : Int32 → TI → TL → Prop) (R24 : Int32 → Int32 → Int32 → Int32 → TI → TL → Prop) (R36 : Int32 → Int32 → Int32 → Int32 → TI → TL → Prop) : Prop :=
  B_X9_bestReplay_127 v1 v2 v3 v4 v5 v8 v9 (0 : Int32) I L Q R24 R36
def B_X9_bestReplay_122 (v1 : Int32) (v2 : Int32) (v3 : Int32) (v4 : Int32) (v5 : Int32) (v8 : Int32) (v9 : Int32) (I : TI) (L : TL) (Q : Int32 → TI → TL → Prop) (R24 : Int32 → Int32 → Int32 → Int32 → TI → TL → Prop) (R36 : Int32 → Int32 → Int32 → Int32 → TI → TL → Prop) : Prop :=
  B_X9_bestReplay_127 v1 v2 v3 v4 v5 v8 v9 (1 : Int32) I L Q R24 R36
def D_X9_bestReplay_36 (v4 : Int32) (Q : Int32 → TI → TL → Prop) (R24 : Int32 → Int32 → Int32 → Int32 → TI → TL → Prop) (R36 : Int32 → Int32 → Int32 → Int32 → TI → TL → Prop) (v1 : Int32) (v2 : Int32) (v3 : Int32) (v5 : Int32) (I : TI) (L : TL) : Prop :=
  W_X9_findsPulse v4 v5 I L (fun (r2808 : Int32) (I2809 : TI) => (r2808 = 0 → R24 v1 v2 v3 (v4 + 1) I2809 L) ∧ (¬ r2808 = 0 → W_X9_costOf v4 (I2809 436 18) (I2809 436 19) I2809 L (fun (r2810 : Int32) => ((r2810.toInt64) ≤ (L 437 3) → W_X9_wrongBehind v4 (I2809 436 18) (I2809 436 19) I2809 L (fun (r2811 : Int32) (L2812 : TL) => (r2811 < v2 → B_X9_bestReplay_122 v1 v2 v3 v4 v5 r2810 r2811 I2809 L2812 Q R24 R36) ∧ (¬ r2811 < v2 → (¬ r2811 = v2 → B_X9_bestReplay_126 v1 v2 v3 v4 v5 r2810 r2811 I2809 L2812 Q R24 R36) ∧ (r2811 = v2 → (v1 = (-1) → B_X9_bestReplay_126 v1 v2 v3 v4 v5 r2810 r2811 I2809 L2812 Q R24 R36) ∧ (¬ v1 = (-1) → (v3 ≤ r2810 → B_X9_bestReplay_126 v1 v2 v3 v4 v5 r2810 r2811 I2809 L2812 Q R24 R36) ∧ (¬ v3 ≤ r2810 → B_X9_bestReplay_122 v1 v2 v3 v4 v5 r2810 r2811 I2809 L2812 Q R24 R36)))))) ∧ (¬ (r2810.toInt64) ≤ (L 437 3) → B_X9_bestReplay_152 v1 v2 v3 v4 v5 I2809 L Q R24 R36))))
def L_X9_bestReplay_36 (v4 : Int32) (Q : Int32 → TI → TL → Prop) (R24 : Int32 → Int32 → Int32 → Int32 → TI → TL → Prop) : Nat → Int32 → Int32 → Int32 → Int32 → TI → TL → Prop
  | 0, _, _, _, _, _, _ => False
  | n9 + 1, v1, v2, v3, v5, I, L => D_X9_bestReplay_36 v4 Q R24 (fun v1 v2 v3 v5 I L => L_X9_bestReplay_36 v4 Q R24 n9 v1 v2 v3 v5 I L) v1 v2 v3 v5 I L
def D_X9_bestReplay_24 (Q : Int32 → TI → TL → Prop) (R24 : Int32 → Int32 → Int32 → Int32 → TI → TL → Prop) (v1 : Int32) (v2 : Int32) (v3 : Int32) (v4 : Int32) (I : TI) (L : TL) : Prop :=
  W_X9_nets I L (fun (r2813 : Int32) => (r2813 ≤ v4 → Q v1 I L) ∧ (¬ r2813 ≤ v4 → ∃ n2814, L_X9_bestReplay_36 v4 Q R24 n2814 v1 v2 v3 (0 : Int32) I L))
def L_X9_bestReplay_24 (Q : Int32 → TI → TL → Prop) : Nat → Int32 → Int32 → Int32 → Int32 → TI → TL → Prop
  | 0, _, _, _, _, _, _ => False
  | n9 + 1, v1, v2, v3, v4, I, L => D_X9_bestReplay_24 Q (fun v1 v2 v3 v4 I L => L_X9_bestReplay_24 Q n9 v1 v2 v3 v4 I L) v1 v2 v3 v4 I L
def W_X9_bestReplay (I : TI) (L : TL) (Q : Int32 → TI → TL → Prop) : Prop :=
  W_X9_waves (up2 I 436 0 0) L (fun (L2815 : TL) => W_X9_wrongs (up2 I 436 0 0) L2815 (fun (r2816 : Int32) => ∃ n2817, L_X9_bestReplay_24 Q n2817 ((-1) : Int32) r2816 (0 : Int32) ((up2 I 436 0 0) 436 10) (up2 I 436 0 0) L2815))
def B_X9_misjudged_57 (v2 : Int32) (s0 : Int32) (s1 : Int32) (I : TI) (L : TL) (Q : Int32 → TI → TL → Prop) (R13 : Int32 → Int32 → Prop) : Prop :=
  R13 (s0 + s1) (v2 + 1)
def B_X9_misjudged_56 (v2 : Int32) (s0 : Int32) (I : TI) (L : TL) (Q : Int32 → TI → TL → Prop) (R13 : Int32 → Int32 → Prop) : Prop :=
  B_X9_misjudged_57 v2 s0 (0 : Int32) I L Q R13
def D_X9_misjudged_13 (I : TI) (L : TL) (Q : Int32 → TI → TL → Prop) (R13 : Int32 → Int32 → Prop) (v1 : Int32) (v2 : Int32) : Prop :=
  ((L 437 4) ≤ (v2.toInt64) → Q v1 I L) ∧ (¬ (L 437 4) ≤ (v2.toInt64) → W_X9_of v2 (7 : Int32) I L (fun (r2826 : Int32) => (r2826 = (-1) → B_X9_misjudged_56 v2 v1 I L Q R13) ∧ (¬ r2826 = (-1) → W_X9_of v2 (7 : Int32) I L (fun (r2827 : Int32) => W_X9_replayed v2 I L (fun (r2828 : Int32) => (r2827 = r2828 → B_X9_misjudged_56 v2 v1 I L Q R13) ∧ (¬ r2827 = r2828 → B_X9_misjudged_57 v2 v1 (1 : Int32) I L Q R13))))))
def L_X9_misjudged_13 (I : TI) (L : TL) (Q : Int32 → TI → TL → Prop) : Nat → Int32 → Int32 → Prop
  | 0, _, _ => False
  | n9 + 1, v1, v2 => D_X9_misjudged_13 I L Q (fun v1 v2 => L_X9_misjudged_13 I L Q n9 v1 v2) v1 v2
def W_X9_misjudged (I : TI) (L : TL) (Q : Int32 → TI → TL → Prop) : Prop :=
  W_X9_waves (up2 I 436 0 0) L (fun (L2829 : TL) => ∃ n2830, L_X9_misjudged_13 (up2 I 436 0 0) L2829 Q n2830 (0 : Int32) (0 : Int32))
def D_X9_excess_18 (I : TI) (L : TL) (Q : UInt64 → TI → TL → Prop) (R18 : Int32 → Int32 → Int32 → Prop) (v1 : Int32) (v2 : Int32) (v3 : Int32) : Prop :=
  W_X9_nets I L (fun (r2845 : Int32) => (r2845 ≤ v3 → (¬ v2 = 0 → vf_n64 (FP.ddiv (FP.i2d v1) (FP.i2d v2)) ∧ (Q (FP.ddiv (FP.i2d v1) (FP.i2d v2)) I L)) ∧ (v2 = 0 → Q (FP.dconst0) I L)) ∧ (¬ r2845 ≤ v3 → vp_in v3 16 ∧ (W_X9_changesOf (L 444 (v3.toNatClampNeg)) I L (fun (r2848 : Int32) => vp_in v3 16 ∧ (W_X9_changesOf (L 446 (v3.toNatClampNeg)) I L (fun (r2850 : Int32) => R18 (v1 + r2848) (v2 + r2850) (v3 + 1)))))))
def L_X9_excess_18 (I : TI) (L : TL) (Q : UInt64 → TI → TL → Prop) : Nat → Int32 → Int32 → Int32 → Prop
  | 0, _, _, _ => False
  | n9 + 1, v1, v2, v3 => D_X9_excess_18 I L Q (fun v1 v2 v3 => L_X9_excess_18 I L Q n9 v1 v2 v3) v1 v2 v3
def W_X9_excess (I : TI) (L : TL) (Q : UInt64 → TI → TL → Prop) : Prop :=
  W_X9_waves (up2 I 436 0 0) L (fun (L2851 : TL) => ∃ n2852, L_X9_excess_18 (up2 I 436 0 0) L2851 Q n2852 (0 : Int32) (0 : Int32) ((up2 I 436 0 0) 436 10))
def D_X9_settledShare_9 (I : TI) (L : TL) (Q : UInt32 → TI → Prop) (R9 : Int32 → Int32 → Prop) (v1 : Int32) (v2 : Int32) : Prop :=
  ((I 436 11) ≤ v2 → (¬ (I 436 11) = 0 → vf_n32 (FP.fdiv (FP.i2f v1) (FP.i2f ((I 436 11) * ((I 436 7) + 1)))) ∧ (Q (FP.fdiv (FP.i2f v1) (FP.i2f ((I 436 11) * ((I 436 7) + 1)))) I)) ∧ ((I 436 11) = 0 → Q (FP.fconst0) I)) ∧ (¬ (I 436 11) ≤ v2 → vp_in ((9 : Int32) + v2) 241 ∧ (W_X9_ones (L 437 (((9 : Int32) + v2).toNatClampNeg)) I L (fun (r2861 : Int32) => R9 (v1 + r2861) (v2 + 1))))
def L_X9_settledShare_9 (I : TI) (L : TL) (Q : UInt32 → TI → Prop) : Nat → Int32 → Int32 → Prop
  | 0, _, _ => False
  | n9 + 1, v1, v2 => D_X9_settledShare_9 I L Q (fun v1 v2 => L_X9_settledShare_9 I L Q n9 v1 v2) v1 v2
def W_X9_settledShare (I : TI) (L : TL) (Q : UInt32 → TI → Prop) : Prop :=
  ∃ n2862, L_X9_settledShare_9 (up2 I 436 0 0) L Q n2862 (0 : Int32) (0 : Int32)
def D_X9_records_54 (I : TI) (Q : TI → TL → Prop) (R54 : Int32 → TL → Prop) (v1 : Int32) (L : TL) : Prop :=
  (241 ≤ v1 → Q (up2 I 436 6 ((I 436 6) + 1)) L) ∧ (¬ 241 ≤ v1 → vp_in v1 241 ∧ (vp_in (((241 : Int32) * (I 436 6)) + v1) 2410 ∧ (∀ L2871 : TL, L2871 = (up2 L 440 ((((241 : Int32) * (I 436 6)) + v1).toNatClampNeg) (L 437 (v1.toNatClampNeg))) → (R54 (v1 + 1) L2871))))
def L_X9_records_54 (I : TI) (Q : TI → TL → Prop) : Nat → Int32 → TL → Prop
  | 0, _, _ => False
  | n9 + 1, v1, L => D_X9_records_54 I Q (fun v1 L => L_X9_records_54 I Q n9 v1 L) v1 L
def B_X9_records_52 (I : TI) (L : TL) (Q : TI → TL → Prop) : Prop :=
  ∃ n2872, L_X9_records_54 I Q n2872 (0 : Int32) L
def D_X9_records_13 (I : TI) (Q : TI → TL → Prop) (R13 : Int32 → TL → Prop) (v1 : Int32) (L : TL) : Prop :=
  (2410 ≤ v1 → B_X9_records_52 (up2 I 436 6 ((I 436 6) - 1)) L Q) ∧ (¬ 2410 ≤ v1 → vp_in v1 2410 ∧ (vp_in (v1 - 241) 2410 ∧ (∀ L2875 : TL, L2875 = (up2 L 440 ((v1 - 241).toNatClampNeg) (L 440 (v1.toNatClampNeg))) → (R13 (v1 + 1) L2875))))
def L_X9_records_13 (I : TI) (Q : TI → TL → Prop) : Nat → Int32 → TL → Prop
  | 0, _, _ => False
  | n9 + 1, v1, L => D_X9_records_13 I Q (fun v1 L => L_X9_records_13 I Q n9 v1 L) v1 L
def W_X9_records (I : TI) (L : TL) (Q : TI → TL → Prop) : Prop :=
  (¬ (I 436 6) = 10 → B_X9_records_52 I L Q) ∧ ((I 436 6) = 10 → ∃ n2876, L_X9_records_13 I Q n2876 (241 : Int32) L)
def B_X9_isDisputed_63 (v1 : Int32) (v2 : Int32) (v3 : Int32) (v4 : Int32) (I : TI) (L : TL) (Q : Int32 → Prop) (R3 : Int32 → Prop) : Prop :=
  R3 (v4 + 1)
def D_X9_isDisputed_3 (v1 : Int32) (v2 : Int32) (v3 : Int32) (I : TI) (L : TL) (Q : Int32 → Prop) (R3 : Int32 → Prop) (v4 : Int32) : Prop :=
  ((L 437 4) ≤ (v4.toInt64) → Q 0) ∧ (¬ (L 437 4) ≤ (v4.toInt64) → W_X9_of v4 (0 : Int32) I L (fun (r2885 : Int32) => (¬ r2885 = v1 → B_X9_isDisputed_63 v1 v2 v3 v4 I L Q R3) ∧ (r2885 = v1 → W_X9_of v4 (6 : Int32) I L (fun (r2886 : Int32) => (1 < r2886 → B_X9_isDisputed_63 v1 v2 v3 v4 I L Q R3) ∧ (¬ 1 < r2886 → W_X9_of v4 (1 : Int32) I L (fun (r2887 : Int32) => (v3 < r2887 → B_X9_isDisputed_63 v1 v2 v3 v4 I L Q R3) ∧ (¬ v3 < r2887 → W_X9_of v4 (2 : Int32) I L (fun (r2888 : Int32) => (r2888 < v2 → B_X9_isDisputed_63 v1 v2 v3 v4 I L Q R3) ∧ (¬ r2888 < v2 → Q 1)))))))))
def L_X9_isDisputed_3 (v1 : Int32) (v2 : Int32) (v3 : Int32) (I : TI) (L : TL) (Q : Int32 → Prop) : Nat → Int32 → Prop
  | 0, _ => False
  | n9 + 1, v4 => D_X9_isDisputed_3 v1 v2 v3 I L Q (fun v4 => L_X9_isDisputed_3 v1 v2 v3 I L Q n9 v4) v4
def W_X9_isDisputed (p1 : Int32) (p2 : Int32) (p3 : Int32) (I : TI) (L : TL) (Q : Int32 → Prop) : Prop :=
  ∃ n2889, L_X9_isDisputed_3 p1 p2 p3 I L Q n2889 (0 : Int32)
def B_X9_open_146 (v5 : Int32) (s1 : Int32) (s2 : Int32) (s3 : Int32) (I : TI) (L : TL) (Q : Int32 → TI → TL → Prop) : Prop :=
  W_X9_sets s1 s2 s3 I L (fun (L2928 : TL) => W_X9_sets v5 (6 : Int32) (0 : Int32) I L2928 (fun (L2929 : TL) => W_X9_sets v5 (7 : Int32) ((-1) : Int32) I L2929 (fun (L2930 : TL) => Q v5 I (up2 L2930 437 4 ((L2930 437 4) + 1)))))
def W_X9_open (p1 : Int32) (p2 : Int32) (p3 : Int32) (p4 : Int32) (I : TI) (L : TL) (Q : Int32 → TI → TL → Prop) : Prop :=
  W_X9_noPulse p2 p3 I L (fun (r2931 : Int32) (I2932 : TI) (L2933 : TL) => (¬ r2931 = 0 → Q 0 I2932 L2933) ∧ (r2931 = 0 → W_X9_in (p1.toInt64) (0 : Int64) (1 : Int64) I2932 L2933 (fun (r2934 : Int32) => W_X9_fails r2934 (2 : Int32) I2932 L2933 (fun (r2935 : Int32) (I2936 : TI) => (r2935 = 0 → W_X9_isDisputed p2 (I2936 436 18) (I2936 436 19) I2936 L2933 (fun (r2937 : Int32) => (r2937 = 0 → (¬ (L2933 437 4) = 20 → W_X9_records I2936 L2933 (fun (I2938 : TI) (L2939 : TL) => W_X9_sets ((L2939 437 4).toInt32) (0 : Int32) p2 I2938 L2939 (fun (L2940 : TL) => W_X9_sets ((L2939 437 4).toInt32) (1 : Int32) (I2938 436 18) I2938 L2940 (fun (L2941 : TL) => W_X9_sets ((L2939 437 4).toInt32) (2 : Int32) (I2938 436 19) I2938 L2941 (fun (L2942 : TL) => vp_in p2 16 ∧ (W_X9_bit (L2942 444 (p2.toNatClampNeg)) (I2938 436 18) I2938 L2942 (fun (r2944 : Int32) => W_X9_sets ((L2939 437 4).toInt32) (3 : Int32) r2944 I2938 L2942 (fun (L2945 : TL) => W_X9_sets ((L2939 437 4).toInt32) (4 : Int32) p1 I2938 L2945 (fun (L2946 : TL) => (p4 = 0 → B_X9_open_146 ((L2939 437 4).toInt32) ((L2939 437 4).toInt32) (5 : Int32) (0 : Int32) I2938 L2946 Q) ∧ (¬ p4 = 0 → B_X9_open_146 ((L2939 437 4).toInt32) ((L2939 437 4).toInt32) (5 : Int32) (1 : Int32) I2938 L2946 Q)))))))))) ∧ ((L2933 437 4) = 20 → Q (-3) I2936 L2933)) ∧ (¬ r2937 = 0 → Q (-2) I2936 L2933))) ∧ (¬ r2935 = 0 → Q 0 I2936 L2933)))))
def W_X9_pays (p1 : Int32) (p2 : Int32) (I : TI) (L : TL) (Q : TL → Prop) : Prop :=
  vp_in ((1 : Int32) + p1) 241 ∧ (vp_in ((1 : Int32) + p1) 241 ∧ (∀ L2951 : TL, L2951 = (up2 L 437 (((1 : Int32) + p1).toNatClampNeg) ((L 437 (((1 : Int32) + p1).toNatClampNeg)) - (p2.toInt64))) → (Q (up2 L2951 437 3 ((L2951 437 3) + (p2.toInt64))))))
def B_X9_judge_90 (v1 : Int32) (v2 : Int32) (s0 : Int32) (I : TI) (L : TL) (Q : Int32 → TI → TL → Prop) : Prop :=
  vp_in ((1 : Int32) + s0) 241 ∧ ((((I 436 9).toInt64) ≤ (L 437 (((1 : Int32) + s0).toNatClampNeg)) → W_X9_records I L (fun (I2981 : TI) (L2982 : TL) => W_X9_sets v1 (7 : Int32) v2 I2981 L2982 (fun (L2983 : TL) => W_X9_sets v1 (6 : Int32) (1 : Int32) I2981 L2983 (fun (L2984 : TL) => W_X9_pays s0 (I2981 436 9) I2981 L2984 (fun (L2985 : TL) => Q v2 I2981 L2985))))) ∧ (¬ ((I 436 9).toInt64) ≤ (L 437 (((1 : Int32) + s0).toNatClampNeg)) → Q (-3) I L))
def B_X9_judge_62 (v1 : Int32) (s0 : Int32) (I : TI) (L : TL) (Q : Int32 → TI → TL → Prop) : Prop :=
  W_X9_of v1 (5 : Int32) I L (fun (r2986 : Int32) => (¬ r2986 = s0 → W_X9_of v1 (4 : Int32) I L (fun (r2987 : Int32) => B_X9_judge_90 v1 s0 r2987 I L Q)) ∧ (r2986 = s0 → W_X9_of v1 (4 : Int32) I L (fun (r2988 : Int32) => B_X9_judge_90 v1 s0 ((1 : Int32) - r2988) I L Q)))
def W_X9_judge (p1 : Int32) (I : TI) (L : TL) (Q : Int32 → TI → TL → Prop) : Prop :=
  W_X9_noDispute p1 I L (fun (r2989 : Int32) (I2990 : TI) => (r2989 = 0 → W_X9_of p1 (6 : Int32) I2990 L (fun (r2991 : Int32) => (r2991 = 0 → W_X9_of p1 (2 : Int32) I2990 L (fun (r2992 : Int32) => W_X9_of p1 (1 : Int32) I2990 L (fun (r2993 : Int32) => W_X9_of p1 (0 : Int32) I2990 L (fun (r2994 : Int32) => W_X9_of p1 (3 : Int32) I2990 L (fun (r2995 : Int32) => W_X9_delayFor r2994 r2995 I2990 L (fun (r2996 : Int32) => (((r2992 - r2993) + 1) ≤ r2996 → B_X9_judge_62 p1 (0 : Int32) I2990 L Q) ∧ (¬ ((r2992 - r2993) + 1) ≤ r2996 → B_X9_judge_62 p1 (1 : Int32) I2990 L Q))))))) ∧ (¬ r2991 = 0 → Q (-2) I2990 L))) ∧ (¬ r2989 = 0 → Q 0 I2990 L))
def B_X9_appeal_99 (v1 : Int32) (v3 : Int32) (v4 : Int32) (s0 : Int32) (I : TI) (L : TL) (Q : Int32 → TI → TL → Prop) : Prop :=
  W_X9_sets v1 (7 : Int32) v4 I L (fun (L3028 : TL) => W_X9_sets v1 (6 : Int32) (2 : Int32) I L3028 (fun (L3029 : TL) => W_X9_of v1 (0 : Int32) I L3029 (fun (r3030 : Int32) => vp_in (((9 : Int32) + r3030) - (I 436 10)) 241 ∧ (W_X9_windowOf v1 I L3029 (fun (r3032 : Int64) => vp_in (((9 : Int32) + r3030) - (I 436 10)) 241 ∧ (∀ L3034 : TL, L3034 = (up2 L3029 437 ((((9 : Int32) + r3030) - (I 436 10)).toNatClampNeg) ((L3029 437 ((((9 : Int32) + r3030) - (I 436 10)).toNatClampNeg)) ||| r3032)) → (vp_in ((1 : Int32) + s0) 241 ∧ (W_X9_lesser v3 ((L3034 437 (((1 : Int32) + s0).toNatClampNeg)).toInt32) I L3034 (fun (r3036 : Int32) => W_X9_pays s0 r3036 I L3034 (fun (L3037 : TL) => Q v4 I L3037))))))))))
def B_X9_appeal_85 (v1 : Int32) (v2 : Int32) (v3 : Int32) (v4 : Int32) (s0 : Int32) (I : TI) (L : TL) (Q : Int32 → TI → TL → Prop) : Prop :=
  (s0 = 0 → B_X9_appeal_99 v1 v3 v4 ((1 : Int32) - v2) I L Q) ∧ (¬ s0 = 0 → B_X9_appeal_99 v1 v3 v4 v2 I L Q)
def W_X9_appeal (p1 : Int32) (I : TI) (L : TL) (Q : Int32 → TI → TL → Prop) : Prop :=
  W_X9_noDispute p1 I L (fun (r3038 : Int32) (I3039 : TI) => (r3038 = 0 → W_X9_of p1 (6 : Int32) I3039 L (fun (r3040 : Int32) => (r3040 = 1 → W_X9_loserOf p1 I3039 L (fun (r3041 : Int32) => W_X9_stakeOf p1 I3039 L (fun (r3042 : Int32) => vp_in ((1 : Int32) + r3041) 241 ∧ (((r3042.toInt64) ≤ (L 437 (((1 : Int32) + r3041).toNatClampNeg)) → W_X9_records I3039 L (fun (I3044 : TI) (L3045 : TL) => W_X9_waves I3044 L3045 (fun (L3046 : TL) => W_X9_replayed p1 I3044 L3046 (fun (r3047 : Int32) => W_X9_of p1 (7 : Int32) I3044 L3046 (fun (r3048 : Int32) => (¬ r3047 = r3048 → B_X9_appeal_85 p1 r3041 r3042 r3047 (0 : Int32) I3044 L3046 Q) ∧ (r3047 = r3048 → B_X9_appeal_85 p1 r3041 r3042 r3047 (1 : Int32) I3044 L3046 Q)))))) ∧ (¬ (r3042.toInt64) ≤ (L 437 (((1 : Int32) + r3041).toNatClampNeg)) → Q (-3) I3039 L))))) ∧ (¬ r3040 = 1 → Q (-2) I3039 L))) ∧ (¬ r3038 = 0 → Q 0 I3039 L))
def B_X9_accept_172 (v1 : Int32) (v5 : Int32) (s1 : Int32) (s2 : Int64) (I : TI) (L : TL) (Q : Int32 → TI → TL → Prop) : Prop :=
  vp_in s1 241 ∧ (W_X9_sets v1 (6 : Int32) (3 : Int32) I (up2 L 437 (s1.toNatClampNeg) s2) (fun (L3108 : TL) => Q v5 I L3108))
def B_X9_accept_115 (v1 : Int32) (v2 : Int32) (v3 : Int64) (v5 : Int32) (s0 : Int32) (I : TI) (L : TL) (Q : Int32 → TI → TL → Prop) : Prop :=
  vp_in ((21 : Int32) + v2) 241 ∧ (vp_in ((21 : Int32) + v2) 241 ∧ (∀ L3111 : TL, L3111 = (up2 L 437 (((21 : Int32) + v2).toNatClampNeg) ((L 437 (((21 : Int32) + v2).toNatClampNeg)) ||| v3)) → ((s0 = 0 → vp_in ((33 : Int32) + v2) 241 ∧ (B_X9_accept_172 v1 v5 ((33 : Int32) + v2) ((L3111 437 (((33 : Int32) + v2).toNatClampNeg)) &&& (v3 ^^^ (-1))) I L3111 Q)) ∧ (¬ s0 = 0 → vp_in ((33 : Int32) + v2) 241 ∧ (B_X9_accept_172 v1 v5 ((33 : Int32) + v2) ((L3111 437 (((33 : Int32) + v2).toNatClampNeg)) ||| v3) I L3111 Q)))))
def B_X9_accept_107 (v1 : Int32) (v2 : Int32) (v3 : Int64) (v5 : Int32) (s0 : Int32) (s1 : Int32) (I : TI) (L : TL) (Q : Int32 → TI → TL → Prop) : Prop :=
  (¬ s0 = s1 → B_X9_accept_115 v1 v2 v3 v5 (0 : Int32) I L Q) ∧ (s0 = s1 → B_X9_accept_115 v1 v2 v3 v5 (1 : Int32) I L Q)
def B_X9_accept_92 (v1 : Int32) (v2 : Int32) (v3 : Int64) (v5 : Int32) (s0 : Int32) (I : TI) (L : TL) (Q : Int32 → TI → TL → Prop) : Prop :=
  W_X9_of v1 (3 : Int32) I L (fun (r3114 : Int32) => (¬ r3114 = 1 → B_X9_accept_107 v1 v2 v3 v5 s0 (0 : Int32) I L Q) ∧ (r3114 = 1 → B_X9_accept_107 v1 v2 v3 v5 s0 (1 : Int32) I L Q))
def W_X9_accept (p1 : Int32) (I : TI) (L : TL) (Q : Int32 → TI → TL → Prop) : Prop :=
  W_X9_noDispute p1 I L (fun (r3115 : Int32) (I3116 : TI) => (r3115 = 0 → W_X9_of p1 (6 : Int32) I3116 L (fun (r3117 : Int32) => (r3117 = 1 → W_X9_records I3116 L (fun (I3118 : TI) (L3119 : TL) => W_X9_of p1 (0 : Int32) I3118 L3119 (fun (r3120 : Int32) => W_X9_windowOf p1 I3118 L3119 (fun (r3121 : Int64) => vp_in ((21 : Int32) + (r3120 - (I3118 436 10))) 241 ∧ (vp_in ((9 : Int32) + (r3120 - (I3118 436 10))) 241 ∧ (W_X9_ones (r3121 &&& (((L3119 437 (((21 : Int32) + (r3120 - (I3118 436 10))).toNatClampNeg)) ||| (L3119 437 (((9 : Int32) + (r3120 - (I3118 436 10))).toNatClampNeg))) ^^^ (-1))) I3118 L3119 (fun (r3124 : Int32) => W_X9_of p1 (7 : Int32) I3118 L3119 (fun (r3125 : Int32) => (¬ r3125 = 1 → B_X9_accept_92 p1 (r3120 - (I3118 436 10)) r3121 r3124 (0 : Int32) I3118 L3119 Q) ∧ (r3125 = 1 → B_X9_accept_92 p1 (r3120 - (I3118 436 10)) r3121 r3124 (1 : Int32) I3118 L3119 Q))))))))) ∧ (¬ r3117 = 1 → Q (-2) I3116 L))) ∧ (¬ r3115 = 0 → Q 0 I3116 L))
def W_X9_replay (p1 : Int32) (p2 : Int32) (p3 : Int32) (I : TI) (L : TL) (Q : Int32 → TI → TL → Prop) : Prop :=
  W_X9_noTimes p1 p2 p3 I L (fun (r3137 : Int32) (I3138 : TI) => (r3137 = 0 → W_X9_costOf p1 p2 p3 I3138 L (fun (r3139 : Int32) => ((r3139.toInt64) ≤ (L 437 3) → W_X9_records I3138 L (fun (I3140 : TI) (L3141 : TL) => W_X9_times p2 p3 I3140 L3141 (fun (r3142 : Int64) => vp_in ((9 : Int32) + (p1 - (I3140 436 10))) 241 ∧ (W_X9_ones (r3142 &&& ((L3141 437 (((9 : Int32) + (p1 - (I3140 436 10))).toNatClampNeg)) ^^^ (-1))) I3140 L3141 (fun (r3144 : Int32) => vp_in ((9 : Int32) + (p1 - (I3140 436 10))) 241 ∧ (W_X9_times p2 p3 I3140 (up2 L3141 437 3 ((L3141 437 3) - (r3139.toInt64))) (fun (r3146 : Int64) => vp_in ((9 : Int32) + (p1 - (I3140 436 10))) 241 ∧ (∀ L3148 : TL, L3148 = (up2 (up2 L3141 437 3 ((L3141 437 3) - (r3139.toInt64))) 437 (((9 : Int32) + (p1 - (I3140 436 10))).toNatClampNeg) (((up2 L3141 437 3 ((L3141 437 3) - (r3139.toInt64))) 437 (((9 : Int32) + (p1 - (I3140 436 10))).toNatClampNeg)) ||| r3146)) → (Q r3144 I3140 L3148))))))))) ∧ (¬ (r3139.toInt64) ≤ (L 437 3) → Q (-3) I3138 L))) ∧ (¬ r3137 = 0 → Q 0 I3138 L))
def B_X9_forgets_138 (v2 : Int64) (v4 : Int32) (v5 : Int32) (I : TI) (L : TL) (Q : Int32 → TL → Prop) (R82 : Int32 → Int32 → TL → Prop) : Prop :=
  R82 v4 (v5 + 1) L
def D_X9_forgets_82 (v2 : Int64) (I : TI) (Q : Int32 → TL → Prop) (R82 : Int32 → Int32 → TL → Prop) (v4 : Int32) (v5 : Int32) (L : TL) : Prop :=
  ((L 437 4) ≤ (v5.toInt64) → Q v4 L) ∧ (¬ (L 437 4) ≤ (v5.toInt64) → W_X9_of v5 (0 : Int32) I L (fun (r3167 : Int32) => (((shrL v2 r3167) &&& 1) = 0 → B_X9_forgets_138 v2 v4 v5 I L Q R82) ∧ (¬ ((shrL v2 r3167) &&& 1) = 0 → W_X9_of v5 (6 : Int32) I L (fun (r3168 : Int32) => (r3168 ≤ 1 → W_X9_sets v5 (6 : Int32) (4 : Int32) I L (fun (L3169 : TL) => B_X9_forgets_138 v2 (v4 + 1) v5 I L3169 Q R82)) ∧ (¬ r3168 ≤ 1 → B_X9_forgets_138 v2 v4 v5 I L Q R82)))))
def L_X9_forgets_82 (v2 : Int64) (I : TI) (Q : Int32 → TL → Prop) : Nat → Int32 → Int32 → TL → Prop
  | 0, _, _, _ => False
  | n9 + 1, v4, v5, L => D_X9_forgets_82 v2 I Q (fun v4 v5 L => L_X9_forgets_82 v2 I Q n9 v4 v5 L) v4 v5 L
def B_X9_forgets_73 (v2 : Int64) (v4 : Int32) (v5 : Int32) (I : TI) (L : TL) (Q : Int32 → TL → Prop) (R12 : Int32 → TL → Prop) : Prop :=
  R12 (v5 + 1) L
def D_X9_forgets_12 (v2 : Int64) (v4 : Int32) (I : TI) (Q : Int32 → TL → Prop) (R12 : Int32 → TL → Prop) (v5 : Int32) (L : TL) : Prop :=
  ((I 436 11) ≤ v5 → ∃ n3170, L_X9_forgets_82 v2 I Q n3170 v4 (0 : Int32) L) ∧ (¬ (I 436 11) ≤ v5 → (¬ ((shrL v2 ((I 436 10) + v5)) &&& 1) = 0 → vp_in ((9 : Int32) + v5) 241 ∧ (vp_in ((21 : Int32) + v5) 241 ∧ (∀ L3173 : TL, L3173 = (up2 (up2 L 437 (((9 : Int32) + v5).toNatClampNeg) 0) 437 (((21 : Int32) + v5).toNatClampNeg) 0) → (vp_in ((33 : Int32) + v5) 241 ∧ (B_X9_forgets_73 v2 v4 v5 I (up2 L3173 437 (((33 : Int32) + v5).toNatClampNeg) 0) Q R12))))) ∧ (((shrL v2 ((I 436 10) + v5)) &&& 1) = 0 → B_X9_forgets_73 v2 v4 v5 I L Q R12))
def L_X9_forgets_12 (v2 : Int64) (v4 : Int32) (I : TI) (Q : Int32 → TL → Prop) : Nat → Int32 → TL → Prop
  | 0, _, _ => False
  | n9 + 1, v5, L => D_X9_forgets_12 v2 v4 I Q (fun v5 L => L_X9_forgets_12 v2 v4 I Q n9 v5 L) v5 L
def W_X9_forgets (p1 : Int32) (I : TI) (L : TL) (Q : Int32 → TL → Prop) : Prop :=
  W_X9_touched p1 I L (fun (r3175 : Int64) => ∃ n3176, L_X9_forgets_12 r3175 (0 : Int32) I Q n3176 (0 : Int32) L)
def B_X9_setDelay_38 (v1 : Int32) (v2 : Int32) (v3 : Int32) (s1 : Int32) (I : TI) (L : TL) (Q : Int32 → TI → TL → Prop) : Prop :=
  W_X9_fails s1 (2 : Int32) I L (fun (r3201 : Int32) (I3202 : TI) => (r3201 = 0 → W_X9_records I3202 L (fun (I3203 : TI) (L3204 : TL) => W_X9_delayOf v1 v2 I3203 L3204 (fun (r3205 : Int32) => vp_in (((45 : Int32) + ((3 : Int32) * (v1 - (I3203 436 10)))) + v2) 241 ∧ (∀ L3207 : TL, L3207 = (up2 L3204 437 ((((45 : Int32) + ((3 : Int32) * (v1 - (I3203 436 10)))) + v2).toNatClampNeg) (v3.toInt64)) → ((¬ r3205 = v3 → W_X9_forgets v1 I3203 L3207 (fun (r3208 : Int32) (L3209 : TL) => Q r3205 I3203 L3209)) ∧ (r3205 = v3 → Q r3205 I3203 L3207)))))) ∧ (¬ r3201 = 0 → Q 0 I3202 L))
def B_X9_setDelay_37 (v1 : Int32) (v2 : Int32) (v3 : Int32) (I : TI) (L : TL) (Q : Int32 → TI → TL → Prop) : Prop :=
  B_X9_setDelay_38 v1 v2 v3 (0 : Int32) I L Q
def W_X9_setDelay (p1 : Int32) (p2 : Int32) (p3 : Int32) (I : TI) (L : TL) (Q : Int32 → TI → TL → Prop) : Prop :=
  W_X9_noGate p1 I L (fun (r3210 : Int32) (I3211 : TI) => (¬ r3210 = 0 → Q 0 I3211 L) ∧ (r3210 = 0 → W_X9_in (p2.toInt64) (0 : Int64) (2 : Int64) I3211 L (fun (r3212 : Int32) => (r3212 = 0 → B_X9_setDelay_37 p1 p2 p3 I3211 L Q) ∧ (¬ r3212 = 0 → W_X9_in (p3.toInt64) (1 : Int64) (9 : Int64) I3211 L (fun (r3213 : Int32) => (r3213 = 0 → B_X9_setDelay_37 p1 p2 p3 I3211 L Q) ∧ (¬ r3213 = 0 → B_X9_setDelay_38 p1 p2 p3 (1 : Int32) I3211 L Q))))))
def W_X9_toggle (p1 : Int32) (p2 : Int32) (I : TI) (L : TL) (Q : Int32 → TI → TL → Prop) : Prop :=
  W_X9_in (p1.toInt64) (0 : Int64) ((((up2 I 436 0 0) 436 10) - 1).toInt64) (up2 I 436 0 0) L (fun (r3227 : Int32) => W_X9_fails r3227 (1 : Int32) (up2 I 436 0 0) L (fun (r3228 : Int32) (I3229 : TI) => (¬ r3228 = 0 → Q 0 I3229 L) ∧ (r3228 = 0 → W_X9_in (p2.toInt64) (0 : Int64) ((I3229 436 7).toInt64) I3229 L (fun (r3230 : Int32) => W_X9_fails r3230 (2 : Int32) I3229 L (fun (r3231 : Int32) (I3232 : TI) => (r3231 = 0 → W_X9_records I3232 L (fun (I3233 : TI) (L3234 : TL) => vp_in ((5 : Int32) + p1) 241 ∧ (W_X9_times p2 (I3233 436 7) I3233 L3234 (fun (r3236 : Int64) => vp_in ((5 : Int32) + p1) 241 ∧ (∀ L3238 : TL, L3238 = (up2 L3234 437 (((5 : Int32) + p1).toNatClampNeg) ((L3234 437 (((5 : Int32) + p1).toNatClampNeg)) ^^^ r3236)) → (W_X9_forgets p1 I3233 L3238 (fun (r3239 : Int32) (L3240 : TL) => Q r3239 I3233 L3240))))))) ∧ (¬ r3231 = 0 → Q 0 I3232 L))))))
def B_X9_deposit_35 (v1 : Int32) (v2 : Int32) (s1 : Int32) (I : TI) (L : TL) (Q : Int32 → TI → TL → Prop) : Prop :=
  W_X9_fails s1 (1 : Int32) I L (fun (r3261 : Int32) (I3262 : TI) => (r3261 = 0 → vp_in ((1 : Int32) + v1) 241 ∧ ((((L 437 (((1 : Int32) + v1).toNatClampNeg)) + (v2.toInt64)) ≤ 1000000 → W_X9_records I3262 L (fun (I3264 : TI) (L3265 : TL) => vp_in ((1 : Int32) + v1) 241 ∧ (vp_in ((1 : Int32) + v1) 241 ∧ (∀ L3268 : TL, L3268 = (up2 L3265 437 (((1 : Int32) + v1).toNatClampNeg) ((L3265 437 (((1 : Int32) + v1).toNatClampNeg)) + (v2.toInt64))) → (vp_in ((1 : Int32) + v1) 241 ∧ (Q ((L3268 437 (((1 : Int32) + v1).toNatClampNeg)).toInt32) I3264 L3268)))))) ∧ (¬ ((L 437 (((1 : Int32) + v1).toNatClampNeg)) + (v2.toInt64)) ≤ 1000000 → Q (-3) I3262 L))) ∧ (¬ r3261 = 0 → Q 0 I3262 L))
def B_X9_deposit_34 (v1 : Int32) (v2 : Int32) (I : TI) (L : TL) (Q : Int32 → TI → TL → Prop) : Prop :=
  B_X9_deposit_35 v1 v2 (0 : Int32) I L Q
def W_X9_deposit (p1 : Int32) (p2 : Int32) (I : TI) (L : TL) (Q : Int32 → TI → TL → Prop) : Prop :=
  W_X9_in (p1.toInt64) (0 : Int64) (2 : Int64) (up2 I 436 0 0) L (fun (r3270 : Int32) => (r3270 = 0 → B_X9_deposit_34 p1 p2 (up2 I 436 0 0) L Q) ∧ (¬ r3270 = 0 → W_X9_in (p2.toInt64) (0 : Int64) (99999 : Int64) (up2 I 436 0 0) L (fun (r3271 : Int32) => (r3271 = 0 → B_X9_deposit_34 p1 p2 (up2 I 436 0 0) L Q) ∧ (¬ r3271 = 0 → B_X9_deposit_35 p1 p2 (1 : Int32) (up2 I 436 0 0) L Q))))
def W_X9_setLimit (p1 : Int32) (I : TI) (L : TL) (Q : Int32 → TI → TL → Prop) : Prop :=
  W_X9_in (p1.toInt64) (1 : Int64) (20 : Int64) (up2 I 436 0 0) L (fun (r3277 : Int32) => W_X9_fails r3277 (1 : Int32) (up2 I 436 0 0) L (fun (r3278 : Int32) (I3279 : TI) => (r3278 = 0 → W_X9_records I3279 L (fun (I3280 : TI) (L3281 : TL) => Q ((L3281 437 0).toInt32) I3280 (up2 L3281 437 0 (p1.toInt64)))) ∧ (¬ r3278 = 0 → Q 0 I3279 L)))
def W_X9_undoCount (I : TI) (L : TL) (Q : Int32 → TI → Prop) : Prop :=
  Q ((up2 I 436 0 0) 436 6) (up2 I 436 0 0)
def D_X9_undo_26 (I : TI) (Q : Int32 → TI → TL → Prop) (R26 : Int32 → TL → Prop) (v1 : Int32) (L : TL) : Prop :=
  (241 ≤ v1 → Q (I 436 6) I L) ∧ (¬ 241 ≤ v1 → vp_in (((241 : Int32) * (I 436 6)) + v1) 2410 ∧ (vp_in v1 241 ∧ (∀ L3288 : TL, L3288 = (up2 L 437 (v1.toNatClampNeg) (L 440 ((((241 : Int32) * (I 436 6)) + v1).toNatClampNeg))) → (R26 (v1 + 1) L3288))))
def L_X9_undo_26 (I : TI) (Q : Int32 → TI → TL → Prop) : Nat → Int32 → TL → Prop
  | 0, _, _ => False
  | n9 + 1, v1, L => D_X9_undo_26 I Q (fun v1 L => L_X9_undo_26 I Q n9 v1 L) v1 L
def W_X9_undo (I : TI) (L : TL) (Q : Int32 → TI → TL → Prop) : Prop :=
  (¬ ((up2 I 436 0 0) 436 6) = 0 → ∃ n3289, L_X9_undo_26 (up2 (up2 I 436 0 0) 436 6 (((up2 I 436 0 0) 436 6) - 1)) Q n3289 (0 : Int32) L) ∧ (((up2 I 436 0 0) 436 6) = 0 → Q (-1) (up2 I 436 0 0) L)
def D_X9_saveSnapshot_7 (I : TI) (Q : TI → TL → Prop) (R7 : Int32 → TL → Prop) (v1 : Int32) (L : TL) : Prop :=
  (241 ≤ v1 → Q (up2 I 436 5 1) L) ∧ (¬ 241 ≤ v1 → vp_in v1 241 ∧ (vp_in v1 241 ∧ (R7 (v1 + 1) (up2 L 439 (v1.toNatClampNeg) (L 437 (v1.toNatClampNeg))))))
def L_X9_saveSnapshot_7 (I : TI) (Q : TI → TL → Prop) : Nat → Int32 → TL → Prop
  | 0, _, _ => False
  | n9 + 1, v1, L => D_X9_saveSnapshot_7 I Q (fun v1 L => L_X9_saveSnapshot_7 I Q n9 v1 L) v1 L
def W_X9_saveSnapshot (I : TI) (L : TL) (Q : TI → TL → Prop) : Prop :=
  ∃ n3296, L_X9_saveSnapshot_7 (up2 I 436 0 0) Q n3296 (0 : Int32) L
def D_X9_restoreSnapshot_16 (I : TI) (Q : Int32 → TI → TL → Prop) (R16 : Int32 → TL → Prop) (v1 : Int32) (L : TL) : Prop :=
  (241 ≤ v1 → Q 1 (up2 I 436 6 0) L) ∧ (¬ 241 ≤ v1 → vp_in v1 241 ∧ (vp_in v1 241 ∧ (R16 (v1 + 1) (up2 L 437 (v1.toNatClampNeg) (L 439 (v1.toNatClampNeg))))))
def L_X9_restoreSnapshot_16 (I : TI) (Q : Int32 → TI → TL → Prop) : Nat → Int32 → TL → Prop
  | 0, _, _ => False
  | n9 + 1, v1, L => D_X9_restoreSnapshot_16 I Q (fun v1 L => L_X9_restoreSnapshot_16 I Q n9 v1 L) v1 L
def W_X9_restoreSnapshot (I : TI) (L : TL) (Q : Int32 → TI → TL → Prop) : Prop :=
  (¬ ((up2 I 436 0 0) 436 5) = 0 → ∃ n3303, L_X9_restoreSnapshot_16 (up2 I 436 0 0) Q n3303 (0 : Int32) L) ∧ (((up2 I 436 0 0) 436 5) = 0 → Q 0 (up2 I 436 0 0) L)
def W_X9_signOf (p1 : Int32) (p2 : Int32) (p3 : Int32) (I : TI) (L : TL) (Q : Int32 → Prop) : Prop :=
  W_X9_waveOf p1 p2 I L (fun (r3310 : Int64) => W_X9_bit r3310 p3 I L (fun (r3311 : Int32) => (0 < p2 → Q ((48 : Int32) + r3311)) ∧ (¬ 0 < p2 → (0 ≤ (p1 - (I 436 10)) → vp_in ((9 : Int32) + (p1 - (I 436 10))) 241 ∧ (W_X9_bit (L 437 (((9 : Int32) + (p1 - (I 436 10))).toNatClampNeg)) p3 I L (fun (r3313 : Int32) => (¬ r3313 = 1 → vp_in ((21 : Int32) + (p1 - (I 436 10))) 241 ∧ (W_X9_bit (L 437 (((21 : Int32) + (p1 - (I 436 10))).toNatClampNeg)) p3 I L (fun (r3315 : Int32) => (¬ r3315 = 1 → Q ((48 : Int32) + r3311)) ∧ (r3315 = 1 → (¬ r3311 = 1 → Q 108) ∧ (r3311 = 1 → Q 104))))) ∧ (r3313 = 1 → (¬ r3311 = 1 → Q 76) ∧ (r3311 = 1 → Q 72))))) ∧ (¬ 0 ≤ (p1 - (I 436 10)) → Q ((48 : Int32) + r3311)))))
def D_X9_format_23 (v1 : Int32) (v2 : Int32) (L : TL) (Q : Int32 → TI → TL → Prop) (R23 : Int32 → TI → Prop) (v3 : Int32) (I : TI) : Prop :=
  ((I 436 7) < v3 → Q (I 436 36) I L) ∧ (¬ (I 436 7) < v3 → W_X9_signOf v1 v2 v3 I L (fun (r3326 : Int32) => vp_in v3 61 ∧ (∀ I3328 : TI, I3328 = (up2 I 452 (v3.toNatClampNeg) (r3326.toInt8.toInt32).toInt8.toInt32) → (R23 (v3 + 1) I3328))))
def L_X9_format_23 (v1 : Int32) (v2 : Int32) (L : TL) (Q : Int32 → TI → TL → Prop) : Nat → Int32 → TI → Prop
  | 0, _, _ => False
  | n9 + 1, v3, I => D_X9_format_23 v1 v2 L Q (fun v3 I => L_X9_format_23 v1 v2 L Q n9 v3 I) v3 I
def W_X9_format (p1 : Int32) (p2 : Int32) (I : TI) (L : TL) (Q : Int32 → TI → TL → Prop) : Prop :=
  W_X9_noWave p1 p2 I L (fun (r3329 : Int32) (I3330 : TI) (L3331 : TL) => (r3329 = 0 → ∃ n3332, L_X9_format_23 p1 p2 L3331 Q n3332 (0 : Int32) (up2 I3330 436 36 ((I3330 436 7) + 1))) ∧ (¬ r3329 = 0 → Q 0 I3330 L3331))
def W_X9_formattedByte (p1 : Int32) (I : TI) (L : TL) (Q : Int32 → TI → Prop) : Prop :=
  W_X9_in (p1.toInt64) (0 : Int64) ((((up2 I 436 0 0) 436 36) - 1).toInt64) (up2 I 436 0 0) L (fun (r3335 : Int32) => (r3335 = 0 → Q (-1) (up2 I 436 0 0)) ∧ (¬ r3335 = 0 → vp_in p1 61 ∧ (Q ((up2 I 436 0 0) 452 (p1.toNatClampNeg)) (up2 I 436 0 0))))
def W_X9_adds (p1 : Int32) (I : TI) (L : TL) (Q : TI → Prop) : Prop :=
  vp_in (I 436 40) 200 ∧ (∀ I3339 : TI, I3339 = (up2 (up2 I 453 ((I 436 40).toNatClampNeg) p1) 436 40 (((up2 I 453 ((I 436 40).toNatClampNeg) p1) 436 40) + 1)) → (Q I3339))
def W_X9_propertyHere (I : TI) (L : TL) (Q : Int32 → Prop) : Prop :=
  W_X9_isWord (10361 : Int64) I L (fun (r3349 : Int32) => (r3349 = 0 → W_X9_isWord (223456 : Int64) I L (fun (r3350 : Int32) => (r3350 = 0 → W_X9_isWord (70367 : Int64) I L (fun (r3351 : Int32) => (r3351 = 0 → W_X9_isWord (1277864983 : Int64) I L (fun (r3352 : Int32) => (r3352 = 0 → W_X9_isWord (12588757 : Int64) I L (fun (r3353 : Int32) => (r3353 = 0 → W_X9_isWord (7443765193 : Int64) I L (fun (r3354 : Int32) => (r3354 = 0 → W_X9_isWord (9988168 : Int64) I L (fun (r3355 : Int32) => (r3355 = 0 → W_X9_isWord (240992974 : Int64) I L (fun (r3356 : Int32) => (r3356 = 0 → W_X9_isWord (237458 : Int64) I L (fun (r3357 : Int32) => (r3357 = 0 → Q (-1)) ∧ (¬ r3357 = 0 → Q 8))) ∧ (¬ r3356 = 0 → Q 7))) ∧ (¬ r3355 = 0 → Q 6))) ∧ (¬ r3354 = 0 → Q 5))) ∧ (¬ r3353 = 0 → Q 4))) ∧ (¬ r3352 = 0 → Q 3))) ∧ (¬ r3351 = 0 → Q 2))) ∧ (¬ r3350 = 0 → Q 1))) ∧ (¬ r3349 = 0 → Q 0))
def W_X9_valueRead (I : TI) (L : TL) (Q : TI → TL → Prop) : Prop :=
  W_X9_isGood I L (fun (r3369 : Int32) => (¬ r3369 = 0 → (¬ (I 436 26) = 2 → W_X9_propertyHere I L (fun (r3370 : Int32) => (¬ r3370 = (-1) → W_X9_adds r3370 I L (fun (I3371 : TI) => W_X9_next I3371 L (fun (I3372 : TI) (L3373 : TL) => Q I3372 L3373))) ∧ (r3370 = (-1) → W_X9_faults (1 : Int32) I L (fun (r3374 : Int32) (I3375 : TI) => Q I3375 L)))) ∧ ((I 436 26) = 2 → W_X9_number (0 : Int32) (9999 : Int32) I L (fun (r3376 : Int32) (I3377 : TI) (L3378 : TL) => W_X9_adds ((100 : Int32) + r3376) I3377 L3378 (fun (I3379 : TI) => Q I3379 L3378)))) ∧ (r3369 = 0 → Q I L))
def W_X9_goesIn (p1 : Int32) (I : TI) (L : TL) (Q : Int32 → TI → TL → Prop) : Prop :=
  (¬ (I 436 42) = 6 → vp_in ((up2 I 436 42 ((I 436 42) + 1)) 436 41) 200 ∧ (∀ I3387 : TI, I3387 = (up2 (up2 I 436 42 ((I 436 42) + 1)) 454 (((up2 I 436 42 ((I 436 42) + 1)) 436 41).toNatClampNeg) p1) → (W_X9_next (up2 I3387 436 41 ((I3387 436 41) + 1)) L (fun (I3388 : TI) (L3389 : TL) => Q 1 I3388 L3389)))) ∧ ((I 436 42) = 6 → W_X9_faults (3 : Int32) I L (fun (r3390 : Int32) (I3391 : TI) => (r3390 = 0 ∨ r3390 = 1) ∧ (Q r3390 I3391 L)))
def W_X9_strength (p0 : Int32) (I : TI) (L : TL) (Q : Int32 → Prop) : Prop :=
  (¬ p0 = 25 → (¬ p0 = 24 → (¬ p0 = 23 → Q 0) ∧ (p0 = 23 → Q 3)) ∧ (p0 = 24 → Q 2)) ∧ (p0 = 25 → Q 1)
def D_X9_settles_0 (v1 : Int32) (L : TL) (Q : TI → Prop) (R0 : TI → Prop) (I : TI) : Prop :=
  W_X9_isGood I L (fun (r3399 : Int32) => (r3399 = 0 → Q I) ∧ (¬ r3399 = 0 → ((I 436 41) ≤ 0 → Q I) ∧ (¬ (I 436 41) ≤ 0 → vp_in ((I 436 41) - 1) 200 ∧ (W_X9_strength (I 454 (((I 436 41) - 1).toNatClampNeg)) I L (fun (r3401 : Int32) => (r3401 < v1 → Q I) ∧ (¬ r3401 < v1 → vp_in ((up2 I 436 41 ((I 436 41) - 1)) 436 41) 200 ∧ (W_X9_adds ((up2 I 436 41 ((I 436 41) - 1)) 454 (((up2 I 436 41 ((I 436 41) - 1)) 436 41).toNatClampNeg)) (up2 I 436 41 ((I 436 41) - 1)) L (fun (I3403 : TI) => vp_in (I3403 436 41) 200 ∧ ((¬ (I3403 454 ((I3403 436 41).toNatClampNeg)) = 23 → R0 I3403) ∧ ((I3403 454 ((I3403 436 41).toNatClampNeg)) = 23 → R0 (up2 I3403 436 42 ((I3403 436 42) - 1))))))))))))
def L_X9_settles_0 (v1 : Int32) (L : TL) (Q : TI → Prop) : Nat → TI → Prop
  | 0, _ => False
  | n9 + 1, I => D_X9_settles_0 v1 L Q (fun I => L_X9_settles_0 v1 L Q n9 I) I
def W_X9_settles (p1 : Int32) (I : TI) (L : TL) (Q : TI → Prop) : Prop :=
  ∃ n3405, L_X9_settles_0 p1 L Q n3405 I
def D_X9_isInside_2 (I : TI) (L : TL) (Q : Int32 → Prop) (R2 : Int32 → Prop) (v1 : Int32) : Prop :=
  ((I 436 41) ≤ v1 → Q 0) ∧ (¬ (I 436 41) ≤ v1 → vp_in v1 200 ∧ ((¬ (I 454 (v1.toNatClampNeg)) = 1 → R2 (v1 + 1)) ∧ ((I 454 (v1.toNatClampNeg)) = 1 → Q 1)))
def L_X9_isInside_2 (I : TI) (L : TL) (Q : Int32 → Prop) : Nat → Int32 → Prop
  | 0, _ => False
  | n9 + 1, v1 => D_X9_isInside_2 I L Q (fun v1 => L_X9_isInside_2 I L Q n9 v1) v1
def W_X9_isInside (I : TI) (L : TL) (Q : Int32 → Prop) : Prop :=
  ∃ n3409, L_X9_isInside_2 I L Q n3409 (0 : Int32)
def B_X9_comparisonRead_99 (v1 : Int32) (I : TI) (L : TL) (Q : TI → TL → Prop) : Prop :=
  W_X9_isGood I L (fun (r3446 : Int32) => (¬ r3446 = 0 → W_X9_next I L (fun (I3447 : TI) (L3448 : TL) => W_X9_valueRead I3447 L3448 (fun (I3449 : TI) (L3450 : TL) => W_X9_isGood I3449 L3450 (fun (r3451 : Int32) => (r3451 = 0 → Q I3449 L3450) ∧ (¬ r3451 = 0 → W_X9_adds v1 I3449 L3450 (fun (I3452 : TI) => Q I3452 L3450)))))) ∧ (r3446 = 0 → Q I L))
def B_X9_comparisonRead_77 (s0 : Int32) (I : TI) (L : TL) (Q : TI → TL → Prop) : Prop :=
  (¬ s0 = 21 → B_X9_comparisonRead_99 s0 I L Q) ∧ (s0 = 21 → W_X9_isByte (61 : Int32) I L (fun (r3453 : Int32) => (¬ r3453 = 0 → B_X9_comparisonRead_99 s0 I L Q) ∧ (r3453 = 0 → W_X9_faults (1 : Int32) I L (fun (r3454 : Int32) (I3455 : TI) => B_X9_comparisonRead_99 s0 I3455 L Q))))
def B_X9_comparisonRead_36 (s1 : Int32) (I : TI) (L : TL) (Q : TI → TL → Prop) (R0 : TI → TL → Prop) : Prop :=
  W_X9_goesIn s1 I L (fun (r3456 : Int32) (I3457 : TI) (L3458 : TL) => (¬ r3456 = 0 → R0 I3457 L3458) ∧ (r3456 = 0 → Q I3457 L3458))
def B_X9_comparisonRead_19 (I : TI) (L : TL) (Q : TI → TL → Prop) (R0 : TI → TL → Prop) : Prop :=
  W_X9_isWord (10631 : Int64) I L (fun (r3459 : Int32) => (r3459 = 0 → B_X9_comparisonRead_36 (1 : Int32) I L Q R0) ∧ (¬ r3459 = 0 → B_X9_comparisonRead_36 (23 : Int32) I L Q R0))
def D_X9_comparisonRead_0 (Q : TI → TL → Prop) (R0 : TI → TL → Prop) (I : TI) (L : TL) : Prop :=
  W_X9_isWord (10631 : Int64) I L (fun (r3460 : Int32) => (¬ r3460 = 0 → B_X9_comparisonRead_19 I L Q R0) ∧ (r3460 = 0 → W_X9_isByte (40 : Int32) I L (fun (r3461 : Int32) => (r3461 = 0 → W_X9_valueRead I L (fun (I3462 : TI) (L3463 : TL) => W_X9_isByte (60 : Int32) I3462 L3463 (fun (r3464 : Int32) => (r3464 = 0 → W_X9_isByte (62 : Int32) I3462 L3463 (fun (r3465 : Int32) => (r3465 = 0 → B_X9_comparisonRead_77 (21 : Int32) I3462 L3463 Q) ∧ (¬ r3465 = 0 → B_X9_comparisonRead_77 (22 : Int32) I3462 L3463 Q))) ∧ (¬ r3464 = 0 → B_X9_comparisonRead_77 (20 : Int32) I3462 L3463 Q)))) ∧ (¬ r3461 = 0 → B_X9_comparisonRead_19 I L Q R0))))
def L_X9_comparisonRead_0 (Q : TI → TL → Prop) : Nat → TI → TL → Prop
  | 0, _, _ => False
  | n9 + 1, I, L => D_X9_comparisonRead_0 Q (fun I L => L_X9_comparisonRead_0 Q n9 I L) I L
def W_X9_comparisonRead (I : TI) (L : TL) (Q : TI → TL → Prop) : Prop :=
  ∃ n3466, L_X9_comparisonRead_0 Q n3466 I L
def D_X9_closes_5 (Q : TI → TL → Prop) (R5 : TI → TL → Prop) (I : TI) (L : TL) : Prop :=
  W_X9_isByte (41 : Int32) I L (fun (r3481 : Int32) => (r3481 = 0 → Q I L) ∧ (¬ r3481 = 0 → W_X9_isInside I L (fun (r3482 : Int32) => (r3482 = 0 → Q I L) ∧ (¬ r3482 = 0 → W_X9_settles (1 : Int32) I L (fun (I3483 : TI) => ∀ I3484 : TI, I3484 = (up2 (up2 I3483 436 41 ((I3483 436 41) - 1)) 436 42 (((up2 I3483 436 41 ((I3483 436 41) - 1)) 436 42) - 1)) → (W_X9_next I3484 L (fun (I3485 : TI) (L3486 : TL) => W_X9_settles (3 : Int32) I3485 L3486 (fun (I3487 : TI) => R5 I3487 L3486))))))))
def L_X9_closes_5 (Q : TI → TL → Prop) : Nat → TI → TL → Prop
  | 0, _, _ => False
  | n9 + 1, I, L => D_X9_closes_5 Q (fun I L => L_X9_closes_5 Q n9 I L) I L
def W_X9_closes (I : TI) (L : TL) (Q : TI → TL → Prop) : Prop :=
  W_X9_settles (3 : Int32) I L (fun (I3488 : TI) => ∃ n3489, L_X9_closes_5 Q n3489 I3488 L)
def B_X9_reads_151 (I : TI) (L : TL) (Q : TI → TL → Prop) : Prop :=
  W_X9_settles (1 : Int32) I L (fun (I3531 : TI) => Q I3531 L)
def B_X9_reads_145 (I : TI) (L : TL) (Q : TI → TL → Prop) : Prop :=
  W_X9_faults (1 : Int32) I L (fun (r3532 : Int32) (I3533 : TI) => B_X9_reads_151 I3533 L Q)
def B_X9_reads_81 (v2 : Int32) (s0 : Int32) (I : TI) (L : TL) (Q : TI → TL → Prop) (R20 : Int32 → TI → TL → Prop) : Prop :=
  (¬ s0 = 0 → W_X9_strength v2 I L (fun (r3534 : Int32) => W_X9_settles r3534 I L (fun (I3535 : TI) => vp_in (I3535 436 41) 200 ∧ (∀ I3537 : TI, I3537 = (up2 (up2 I3535 454 ((I3535 436 41).toNatClampNeg) v2) 436 41 (((up2 I3535 454 ((I3535 436 41).toNatClampNeg) v2) 436 41) + 1)) → (W_X9_next I3537 L (fun (I3538 : TI) (L3539 : TL) => R20 s0 I3538 L3539)))))) ∧ (s0 = 0 → R20 s0 I L)
def B_X9_reads_71 (s0 : Int32) (I : TI) (L : TL) (Q : TI → TL → Prop) (R20 : Int32 → TI → TL → Prop) : Prop :=
  (s0 = 0 → B_X9_reads_81 s0 (0 : Int32) I L Q R20) ∧ (¬ s0 = 0 → B_X9_reads_81 s0 (1 : Int32) I L Q R20)
def D_X9_reads_20 (Q : TI → TL → Prop) (R20 : Int32 → TI → TL → Prop) (v1 : Int32) (I : TI) (L : TL) : Prop :=
  (v1 = 0 → W_X9_isGood I L (fun (r3540 : Int32) => (r3540 = 0 → B_X9_reads_151 I L Q) ∧ (¬ r3540 = 0 → W_X9_isInside I L (fun (r3541 : Int32) => (¬ r3541 = 0 → B_X9_reads_145 I L Q) ∧ (r3541 = 0 → ((I 436 26) = 0 → B_X9_reads_151 I L Q) ∧ (¬ (I 436 26) = 0 → B_X9_reads_145 I L Q)))))) ∧ (¬ v1 = 0 → W_X9_comparisonRead I L (fun (I3542 : TI) (L3543 : TL) => W_X9_isGood I3542 L3543 (fun (r3544 : Int32) => (¬ r3544 = 0 → W_X9_closes I3542 L3543 (fun (I3545 : TI) (L3546 : TL) => W_X9_isWord (1111 : Int64) I3545 L3546 (fun (r3547 : Int32) => (r3547 = 0 → W_X9_isWord (423 : Int64) I3545 L3546 (fun (r3548 : Int32) => (r3548 = 0 → B_X9_reads_71 (0 : Int32) I3545 L3546 Q R20) ∧ (¬ r3548 = 0 → B_X9_reads_71 (25 : Int32) I3545 L3546 Q R20))) ∧ (¬ r3547 = 0 → B_X9_reads_71 (24 : Int32) I3545 L3546 Q R20)))) ∧ (r3544 = 0 → Q I3542 L3543))))
def L_X9_reads_20 (Q : TI → TL → Prop) : Nat → Int32 → TI → TL → Prop
  | 0, _, _, _ => False
  | n9 + 1, v1, I, L => D_X9_reads_20 Q (fun v1 I L => L_X9_reads_20 Q n9 v1 I L) v1 I L
def W_X9_reads (I : TI) (L : TL) (Q : TI → TL → Prop) : Prop :=
  W_X9_isGood (up2 (up2 (up2 I 436 40 0) 436 42 0) 436 41 0) L (fun (r3549 : Int32) => ∃ n3550, L_X9_reads_20 Q n3550 r3549 (up2 (up2 (up2 I 436 40 0) 436 42 0) 436 41 0) L)
def W_X9_propertyOf (p1 : Int32) (p2 : Int32) (I : TI) (L : TL) (Q : Int32 → TI → Prop) : Prop :=
  (p1 = 0 → Q p2 I) ∧ (p1 = 1 → (0 ≤ (p2 - (I 436 10)) → vp_in (p2 - (I 436 10)) 12 ∧ (Q ((1 : Int32) + (I 441 ((p2 - (I 436 10)).toNatClampNeg))) I)) ∧ (¬ 0 ≤ (p2 - (I 436 10)) → Q 0 I)) ∧ (p1 = 2 → (0 ≤ (p2 - (I 436 10)) → W_X9_dependence p2 I L (fun (r3569 : Int64) => W_X9_ones r3569 I L (fun (r3570 : Int32) => Q r3570 I))) ∧ (¬ 0 ≤ (p2 - (I 436 10)) → Q 0 I)) ∧ (p1 = 3 → vp_in p2 16 ∧ (W_X9_changesOf (L 444 (p2.toNatClampNeg)) I L (fun (r3572 : Int32) => Q r3572 I))) ∧ (p1 = 4 → vp_in p2 16 ∧ (vp_in p2 16 ∧ (W_X9_ones ((L 444 (p2.toNatClampNeg)) ^^^ (L 446 (p2.toNatClampNeg))) I L (fun (r3575 : Int32) => Q r3575 I)))) ∧ (p1 = 5 → (0 ≤ (p2 - (I 436 10)) → vp_in ((9 : Int32) + (p2 - (I 436 10))) 241 ∧ (W_X9_ones (L 437 (((9 : Int32) + (p2 - (I 436 10))).toNatClampNeg)) I L (fun (r3577 : Int32) => Q r3577 I))) ∧ (¬ 0 ≤ (p2 - (I 436 10)) → Q 0 I)) ∧ (p1 = 6 → (0 ≤ (p2 - (I 436 10)) → vp_in ((21 : Int32) + (p2 - (I 436 10))) 241 ∧ (vp_in ((9 : Int32) + (p2 - (I 436 10))) 241 ∧ (W_X9_ones ((L 437 (((21 : Int32) + (p2 - (I 436 10))).toNatClampNeg)) &&& ((L 437 (((9 : Int32) + (p2 - (I 436 10))).toNatClampNeg)) ^^^ (-1))) I L (fun (r3580 : Int32) => Q r3580 I)))) ∧ (¬ 0 ≤ (p2 - (I 436 10)) → Q 0 I)) ∧ (p1 = 7 → (0 ≤ (p2 - (I 436 10)) → W_X9_pulsesOf p2 I L (fun (r3581 : Int32) (I3582 : TI) => Q r3581 I3582)) ∧ (¬ 0 ≤ (p2 - (I 436 10)) → Q 0 I)) ∧ (p1 < 0 ∨ 7 < p1 → vp_in p2 16 ∧ (W_X9_bit (L 444 (p2.toNatClampNeg)) (I 436 7) I L (fun (r3584 : Int32) => Q r3584 I)))
def B_X9_joined_82 (v1 : Int32) (v2 : Int32) (I : TI) (L : TL) (Q : Int32 → Prop) : Prop :=
  ((v1 + v2) ≤ 0 → Q 0) ∧ (¬ (v1 + v2) ≤ 0 → Q 1)
def W_X9_joined (p0 : Int32) (p1 : Int32) (p2 : Int32) (I : TI) (L : TL) (Q : Int32 → Prop) : Prop :=
  (p0 = 20 → (p2 ≤ p1 → Q 0) ∧ (¬ p2 ≤ p1 → Q 1)) ∧ (p0 = 21 → (¬ p1 = p2 → Q 0) ∧ (p1 = p2 → Q 1)) ∧ (p0 = 22 → (p1 ≤ p2 → Q 0) ∧ (¬ p1 ≤ p2 → Q 1)) ∧ (p0 = 23 → B_X9_joined_82 p1 p2 I L Q) ∧ (p0 = 24 → (¬ (p1 + p2) = 2 → Q 0) ∧ ((p1 + p2) = 2 → Q 1)) ∧ (p0 < 20 ∨ 24 < p0 → B_X9_joined_82 p1 p2 I L Q)
def B_X9_holds_135 (v1 : Int32) (v2 : Int32) (v3 : Int32) (I : TI) (L : TL) (Q : Int32 → TI → Prop) (R4 : Int32 → Int32 → TI → Prop) : Prop :=
  R4 v2 (v3 + 1) I
def B_X9_holds_131 (v1 : Int32) (v2 : Int32) (v3 : Int32) (s1 : Int32) (s2 : Int32) (I : TI) (L : TL) (Q : Int32 → TI → Prop) (R4 : Int32 → Int32 → TI → Prop) : Prop :=
  vp_in s1 200 ∧ (B_X9_holds_135 v1 (v2 + 1) v3 (up2 I 455 (s1.toNatClampNeg) s2) L Q R4)
def B_X9_holds_100 (v1 : Int32) (v2 : Int32) (v3 : Int32) (s1 : Int32) (s2 : Int32) (I : TI) (L : TL) (Q : Int32 → TI → Prop) (R4 : Int32 → Int32 → TI → Prop) : Prop :=
  vp_in s1 200 ∧ (B_X9_holds_135 v1 v2 v3 (up2 I 455 (s1.toNatClampNeg) s2) L Q R4)
def D_X9_holds_4 (v1 : Int32) (L : TL) (Q : Int32 → TI → Prop) (R4 : Int32 → Int32 → TI → Prop) (v2 : Int32) (v3 : Int32) (I : TI) : Prop :=
  ((I 436 40) ≤ v3 → (¬ (I 455 0) = 1 → Q 0 I) ∧ ((I 455 0) = 1 → Q 1 I)) ∧ (¬ (I 436 40) ≤ v3 → vp_in v3 200 ∧ ((¬ (I 453 (v3.toNatClampNeg)) = 23 → W_X9_in ((I 453 (v3.toNatClampNeg)).toInt64) (20 : Int64) (25 : Int64) I L (fun (r3608 : Int32) => (r3608 = 0 → ((I 453 (v3.toNatClampNeg)) < 100 → W_X9_propertyOf (I 453 (v3.toNatClampNeg)) v1 I L (fun (r3609 : Int32) (I3610 : TI) => B_X9_holds_131 v1 v2 v3 v2 r3609 I3610 L Q R4)) ∧ (¬ (I 453 (v3.toNatClampNeg)) < 100 → B_X9_holds_131 v1 v2 v3 v2 ((I 453 (v3.toNatClampNeg)) - 100) I L Q R4)) ∧ (¬ r3608 = 0 → vp_in ((v2 + (-1)) - 1) 200 ∧ (vp_in (v2 + (-1)) 200 ∧ (W_X9_joined (I 453 (v3.toNatClampNeg)) (I 455 (((v2 + (-1)) - 1).toNatClampNeg)) (I 455 ((v2 + (-1)).toNatClampNeg)) I L (fun (r3613 : Int32) => (r3613 = 0 → B_X9_holds_100 v1 (v2 + (-1)) v3 ((v2 + (-1)) - 1) (0 : Int32) I L Q R4) ∧ (¬ r3613 = 0 → B_X9_holds_100 v1 (v2 + (-1)) v3 ((v2 + (-1)) - 1) (1 : Int32) I L Q R4))))))) ∧ ((I 453 (v3.toNatClampNeg)) = 23 → vp_in (v2 - 1) 200 ∧ (vp_in (v2 - 1) 200 ∧ (∀ I3616 : TI, I3616 = (up2 I 455 ((v2 - 1).toNatClampNeg) ((1 : Int32) - (I 455 ((v2 - 1).toNatClampNeg)))) → (B_X9_holds_135 v1 v2 v3 I3616 L Q R4))))))
def L_X9_holds_4 (v1 : Int32) (L : TL) (Q : Int32 → TI → Prop) : Nat → Int32 → Int32 → TI → Prop
  | 0, _, _, _ => False
  | n9 + 1, v2, v3, I => D_X9_holds_4 v1 L Q (fun v2 v3 I => L_X9_holds_4 v1 L Q n9 v2 v3 I) v2 v3 I
def W_X9_holds (p1 : Int32) (I : TI) (L : TL) (Q : Int32 → TI → Prop) : Prop :=
  ∃ n3617, L_X9_holds_4 p1 L Q n3617 (0 : Int32) (0 : Int32) I
def B_X9_query_125 (v2 : Int32) (v3 : Int32) (v4 : Int32) (I : TI) (L : TL) (Q : Int32 → TI → TL → Prop) (R94 : Int32 → Int32 → TI → Prop) : Prop :=
  R94 v3 (v4 + 1) I
def D_X9_query_94 (v2 : Int32) (L : TL) (Q : Int32 → TI → TL → Prop) (R94 : Int32 → Int32 → TI → Prop) (v3 : Int32) (v4 : Int32) (I : TI) : Prop :=
  W_X9_nets I L (fun (r3678 : Int32) => (r3678 ≤ v4 → (v2 = 0 → Q v3 I L) ∧ (¬ v2 = 0 → Q (-1) I L)) ∧ (¬ r3678 ≤ v4 → W_X9_holds v4 I L (fun (r3679 : Int32) (I3680 : TI) => (¬ r3679 = 0 → (v2 = 0 → B_X9_query_125 v2 (v3 + 1) v4 I3680 L Q R94) ∧ (¬ v2 = 0 → Q v4 I3680 L)) ∧ (r3679 = 0 → B_X9_query_125 v2 v3 v4 I3680 L Q R94))))
def L_X9_query_94 (v2 : Int32) (L : TL) (Q : Int32 → TI → TL → Prop) : Nat → Int32 → Int32 → TI → Prop
  | 0, _, _, _ => False
  | n9 + 1, v3, v4, I => D_X9_query_94 v2 L Q (fun v3 v4 I => L_X9_query_94 v2 L Q n9 v3 v4 I) v3 v4 I
def B_X9_query_65 (v2 : Int32) (I : TI) (L : TL) (Q : Int32 → TI → TL → Prop) : Prop :=
  W_X9_reads I L (fun (I3681 : TI) (L3682 : TL) => W_X9_isGood I3681 L3682 (fun (r3683 : Int32) => (¬ r3683 = 0 → W_X9_waves I3681 L3682 (fun (L3684 : TL) => ∃ n3685, L_X9_query_94 v2 L3684 Q n3685 (0 : Int32) (0 : Int32) I3681)) ∧ (r3683 = 0 → Q (((-1000000000) : Int32) - (I3681 436 29)) I3681 L3682)))
def W_X9_query (p1 : Int32) (I : TI) (L : TL) (Q : Int32 → TI → TL → Prop) : Prop :=
  W_X9_lesser ((up2 I 436 0 0) 436 22) (200 : Int32) (up2 I 436 0 0) L (fun (r3686 : Int32) => W_X9_in (p1.toInt64) (0 : Int64) (r3686.toInt64) (up2 I 436 0 0) L (fun (r3687 : Int32) => W_X9_fails r3687 (1 : Int32) (up2 I 436 0 0) L (fun (r3688 : Int32) (I3689 : TI) => (r3688 = 0 → W_X9_starts p1 I3689 L (fun (I3690 : TI) (L3691 : TL) => W_X9_passes (3379448 : Int64) I3690 L3691 (fun (r3692 : Int32) (I3693 : TI) (L3694 : TL) => (¬ r3692 = 0 → B_X9_query_65 r3692 I3693 L3694 Q) ∧ (r3692 = 0 → W_X9_passes (257011 : Int64) I3693 L3694 (fun (r3695 : Int32) (I3696 : TI) (L3697 : TL) => (¬ r3695 = 0 → B_X9_query_65 r3692 I3696 L3697 Q) ∧ (r3695 = 0 → W_X9_faults (1 : Int32) I3696 L3697 (fun (r3698 : Int32) (I3699 : TI) => B_X9_query_65 r3692 I3699 L3697 Q))))))) ∧ (¬ r3688 = 0 → Q 0 I3689 L))))
def W_L_load (p1 : Int32) (I : TI) (L : TL) (b : Nat) (d : Nat) (t : Nat) (Q : Int32 → TI → TL → Nat → Nat → Nat → Prop) : Prop :=
  W_X8_load p1 I L b d t (fun (r3709 : Int32) (I3710 : TI) (L3711 : TL) (b3712 : Nat) (d3713 : Nat) (t3714 : Nat) => bnOK b3712 ∧ (bnOK d3713 ∧ (txOK t3714 ∧ (Q 0 I3710 (up2 L3711 456 0 (r3709.toInt64)) b3712 d3713 t3714)))) (fun (e9 : String) (I8 : TI) (L8 : TL) (b8 : Nat) (d8 : Nat) (t8 : Nat) => (e9 = "java/lang/IllegalArgumentException" ∧ Q 1 I8 L8 b8 d8 t8))
def W_L_size (p1 : Int32) (I : TI) (L : TL) (b : Nat) (d : Nat) (Q : Int32 → TL → Prop) : Prop :=
  W_X8_size p1 I L b d (fun (r3719 : Int32) => Q 0 (up2 L 456 0 (r3719.toInt64))) (fun (e9 : String) => (e9 = "java/util/NoSuchElementException" ∧ Q 1 L))
def W_L_gate (p1 : Int32) (p2 : Int32) (I : TI) (L : TL) (b : Nat) (d : Nat) (Q : Int32 → TL → Prop) : Prop :=
  W_X8_gate p1 p2 I L b d (fun (r3721 : Int32) => Q 0 (up2 L 456 0 (r3721.toInt64))) (fun (e9 : String) => (e9 = "java/util/NoSuchElementException" ∧ Q 1 L))
def W_L_value (p1 : Int32) (p2 : Int32) (p3 : Int32) (I : TI) (L : TL) (b : Nat) (d : Nat) (Q : Int32 → TL → Prop) : Prop :=
  W_X8_value p1 p2 p3 I L b d (fun (r3723 : Int32) => Q 0 (up2 L 456 0 (r3723.toInt64))) (fun (e9 : String) => (e9 = "java/util/NoSuchElementException" ∧ Q 1 L))
def W_L_stateAt (p1 : Int32) (p2 : Int32) (I : TI) (L : TL) (b : Nat) (d : Nat) (Q : Int32 → TL → Prop) : Prop :=
  W_X8_stateAt p1 p2 I L b d (fun (r3725 : Int32) => Q 0 (up2 L 456 0 (r3725.toInt64))) (fun (e9 : String) => (e9 = "java/util/NoSuchElementException" ∧ Q 1 L))
def W_L_wave (p1 : Int32) (p2 : Int32) (I : TI) (L : TL) (b : Nat) (d : Nat) (Q : Int32 → TL → Prop) : Prop :=
  W_X8_wave p1 p2 I L b d (fun (r3727 : Int64) => Q 0 (up2 L 456 0 r3727)) (fun (e9 : String) => (e9 = "java/util/NoSuchElementException" ∧ Q 1 L))
def W_L_changes (p1 : Int32) (p2 : Int32) (I : TI) (L : TL) (b : Nat) (d : Nat) (Q : Int32 → TL → Prop) : Prop :=
  W_X8_changes p1 p2 I L b d (fun (r3729 : Int32) => Q 0 (up2 L 456 0 (r3729.toInt64))) (fun (e9 : String) => (e9 = "java/util/NoSuchElementException" ∧ Q 1 L))
def W_L_quietFrom (p1 : Int32) (p2 : Int32) (I : TI) (L : TL) (b : Nat) (d : Nat) (Q : Int32 → TL → Prop) : Prop :=
  W_X8_quietFrom p1 p2 I L b d (fun (r3731 : Int32) => Q 0 (up2 L 456 0 (r3731.toInt64))) (fun (e9 : String) => (e9 = "java/util/NoSuchElementException" ∧ Q 1 L))
def W_L_shortest (p1 : Int32) (p2 : Int32) (I : TI) (L : TL) (b : Nat) (d : Nat) (Q : Int32 → TL → Prop) : Prop :=
  W_X8_shortest p1 p2 I L b d (fun (r3733 : Int32) => Q 0 (up2 L 456 0 (r3733.toInt64))) (fun (e9 : String) => (e9 = "java/util/NoSuchElementException" ∧ Q 1 L))
def W_L_wrong (p1 : Int32) (I : TI) (L : TL) (b : Nat) (d : Nat) (Q : Int32 → TL → Prop) : Prop :=
  W_X8_wrong p1 I L b d (fun (r3735 : Int32) => Q 0 (up2 L 456 0 (r3735.toInt64))) (fun (e9 : String) => (e9 = "java/util/NoSuchElementException" ∧ Q 1 L))
def W_L_firstWrong (p1 : Int32) (I : TI) (L : TL) (b : Nat) (d : Nat) (Q : Int32 → TL → Prop) : Prop :=
  W_X8_firstWrong p1 I L b d (fun (r3737 : Int32) => Q 0 (up2 L 456 0 (r3737.toInt64))) (fun (e9 : String) => (e9 = "java/util/NoSuchElementException" ∧ Q 1 L))
def W_L_dependsOn (p1 : Int32) (I : TI) (L : TL) (b : Nat) (d : Nat) (Q : Int32 → TL → Prop) : Prop :=
  W_X8_dependsOn p1 I L b d (fun (r3739 : Int32) => Q 0 (up2 L 456 0 (r3739.toInt64))) (fun (e9 : String) => (e9 = "java/util/NoSuchElementException" ∧ Q 1 L))
def W_L_touches (p1 : Int32) (I : TI) (L : TL) (b : Nat) (d : Nat) (Q : Int32 → TL → Prop) : Prop :=
  W_X8_touches p1 I L b d (fun (r3741 : Int32) => Q 0 (up2 L 456 0 (r3741.toInt64))) (fun (e9 : String) => (e9 = "java/util/NoSuchElementException" ∧ Q 1 L))
def W_L_longest (p1 : Int32) (I : TI) (L : TL) (b : Nat) (d : Nat) (Q : Int32 → TL → Prop) : Prop :=
  W_X8_longest p1 I L b d (fun (r3743 : Int32) => Q 0 (up2 L 456 0 (r3743.toInt64))) (fun (e9 : String) => (e9 = "java/util/NoSuchElementException" ∧ Q 1 L))
def W_L_pulse (p1 : Int32) (p2 : Int32) (p3 : Int32) (I : TI) (L : TL) (b : Nat) (d : Nat) (Q : Int32 → TL → Prop) : Prop :=
  W_X8_pulse p1 p2 p3 I L b d (fun (r3745 : Int32) => Q 0 (up2 L 456 0 (r3745.toInt64))) (fun (e9 : String) => (e9 = "java/util/NoSuchElementException" ∧ Q 1 L))
def W_L_dispute (p1 : Int32) (p2 : Int32) (I : TI) (L : TL) (b : Nat) (d : Nat) (Q : Int32 → TL → Prop) : Prop :=
  W_X8_dispute p1 p2 I L b d (fun (r3747 : Int32) => Q 0 (up2 L 456 0 (r3747.toInt64))) (fun (e9 : String) => (e9 = "java/util/NoSuchElementException" ∧ Q 1 L))
def W_L_disputes (p1 : Int32) (I : TI) (L : TL) (b : Nat) (d : Nat) (Q : Int32 → TL → Prop) : Prop :=
  W_X8_disputes p1 I L b d (fun (r3749 : Int32) => Q 0 (up2 L 456 0 (r3749.toInt64))) (fun (e9 : String) => (e9 = "java/lang/IllegalArgumentException" ∧ Q 1 L))
def W_L_cost (p1 : Int32) (p2 : Int32) (p3 : Int32) (I : TI) (L : TL) (b : Nat) (d : Nat) (Q : Int32 → TL → Prop) : Prop :=
  W_X8_cost p1 p2 p3 I L b d (fun (r3751 : Int32) => Q 0 (up2 L 456 0 (r3751.toInt64))) (fun (e9 : String) => (e9 = "java/util/NoSuchElementException" ∧ Q 1 L) ∨ (e9 = "java/lang/IllegalArgumentException" ∧ Q 2 L))
def W_L_gain (p1 : Int32) (p2 : Int32) (p3 : Int32) (I : TI) (L : TL) (b : Nat) (d : Nat) (Q : Int32 → TL → Prop) : Prop :=
  W_X8_gain p1 p2 p3 I L b d (fun (r3754 : Int32) (L3755 : TL) => Q 0 (up2 L3755 456 0 (r3754.toInt64))) (fun (e9 : String) (L8 : TL) => (e9 = "java/util/NoSuchElementException" ∧ Q 1 L8) ∨ (e9 = "java/lang/IllegalArgumentException" ∧ Q 2 L8))
def W_L_open (p1 : Int32) (p2 : Int32) (p3 : Int32) (p4 : Int32) (I : TI) (L : TL) (b : Nat) (d : Nat) (Q : Int32 → TI → TL → Prop) : Prop :=
  W_X8_open p1 p2 p3 p4 I L b d (fun (r3759 : Int32) (I3760 : TI) (L3761 : TL) => Q 0 I3760 (up2 L3761 456 0 (r3759.toInt64))) (fun (e9 : String) (I8 : TI) (L8 : TL) => (e9 = "java/util/NoSuchElementException" ∧ Q 1 I8 L8) ∨ (e9 = "java/lang/IllegalArgumentException" ∧ Q 2 I8 L8))
def W_L_judge (p1 : Int32) (I : TI) (L : TL) (b : Nat) (d : Nat) (Q : Int32 → TI → TL → Prop) : Prop :=
  W_X8_judge p1 I L b d (fun (r3765 : Int32) (I3766 : TI) (L3767 : TL) => Q 0 I3766 (up2 L3767 456 0 (r3765.toInt64))) (fun (e9 : String) (I8 : TI) (L8 : TL) => (e9 = "java/util/NoSuchElementException" ∧ Q 1 I8 L8))
def W_L_appeal (p1 : Int32) (I : TI) (L : TL) (b : Nat) (d : Nat) (Q : Int32 → TI → TL → Prop) : Prop :=
  W_X8_appeal p1 I L b d (fun (r3771 : Int32) (I3772 : TI) (L3773 : TL) => Q 0 I3772 (up2 L3773 456 0 (r3771.toInt64))) (fun (e9 : String) (I8 : TI) (L8 : TL) => (e9 = "java/util/NoSuchElementException" ∧ Q 1 I8 L8))
def W_L_accept (p1 : Int32) (I : TI) (L : TL) (b : Nat) (d : Nat) (Q : Int32 → TI → TL → Prop) : Prop :=
  W_X8_accept p1 I L b d (fun (r3777 : Int32) (I3778 : TI) (L3779 : TL) => Q 0 I3778 (up2 L3779 456 0 (r3777.toInt64))) (fun (e9 : String) (I8 : TI) (L8 : TL) => (e9 = "java/util/NoSuchElementException" ∧ Q 1 I8 L8))
def W_L_replay (p1 : Int32) (p2 : Int32) (p3 : Int32) (I : TI) (L : TL) (b : Nat) (d : Nat) (Q : Int32 → TI → TL → Prop) : Prop :=
  W_X8_replay p1 p2 p3 I L b d (fun (r3783 : Int32) (I3784 : TI) (L3785 : TL) => Q 0 I3784 (up2 L3785 456 0 (r3783.toInt64))) (fun (e9 : String) (I8 : TI) (L8 : TL) => (e9 = "java/util/NoSuchElementException" ∧ Q 1 I8 L8) ∨ (e9 = "java/lang/IllegalArgumentException" ∧ Q 2 I8 L8))
def W_L_setDelay (p1 : Int32) (p2 : Int32) (p3 : Int32) (I : TI) (L : TL) (b : Nat) (d : Nat) (Q : Int32 → TI → TL → Prop) : Prop :=
  W_X8_setDelay p1 p2 p3 I L b d (fun (r3789 : Int32) (I3790 : TI) (L3791 : TL) => Q 0 I3790 (up2 L3791 456 0 (r3789.toInt64))) (fun (e9 : String) (I8 : TI) (L8 : TL) => (e9 = "java/util/NoSuchElementException" ∧ Q 1 I8 L8) ∨ (e9 = "java/lang/IllegalArgumentException" ∧ Q 2 I8 L8))
def W_L_toggle (p1 : Int32) (p2 : Int32) (I : TI) (L : TL) (b : Nat) (d : Nat) (Q : Int32 → TI → TL → Prop) : Prop :=
  W_X8_toggle p1 p2 I L b d (fun (r3795 : Int32) (I3796 : TI) (L3797 : TL) => Q 0 I3796 (up2 L3797 456 0 (r3795.toInt64))) (fun (e9 : String) (I8 : TI) (L8 : TL) => (e9 = "java/util/NoSuchElementException" ∧ Q 1 I8 L8) ∨ (e9 = "java/lang/IllegalArgumentException" ∧ Q 2 I8 L8))
def W_L_deposit (p1 : Int32) (p2 : Int32) (I : TI) (L : TL) (b : Nat) (d : Nat) (Q : Int32 → TI → TL → Prop) : Prop :=
  W_X8_deposit p1 p2 I L b d (fun (r3801 : Int32) (I3802 : TI) (L3803 : TL) => Q 0 I3802 (up2 L3803 456 0 (r3801.toInt64))) (fun (e9 : String) (I8 : TI) (L8 : TL) => (e9 = "java/lang/IllegalArgumentException" ∧ Q 1 I8 L8))
def W_L_setLimit (p1 : Int32) (I : TI) (L : TL) (b : Nat) (d : Nat) (Q : Int32 → TI → TL → Prop) : Prop :=
  W_X8_setLimit p1 I L b d (fun (r3807 : Int32) (I3808 : TI) (L3809 : TL) => Q 0 I3808 (up2 L3809 456 0 (r3807.toInt64))) (fun (e9 : String) (I8 : TI) (L8 : TL) => (e9 = "java/lang/IllegalArgumentException" ∧ Q 1 I8 L8))
def W_L_format (p1 : Int32) (p2 : Int32) (I : TI) (L : TL) (b : Nat) (d : Nat) (Q : Int32 → TI → TL → Prop) : Prop :=
  W_X8_format p1 p2 I L b d (fun (r3812 : Int32) (I3813 : TI) => Q 0 I3813 (up2 L 456 0 (r3812.toInt64))) (fun (e9 : String) (I8 : TI) => (e9 = "java/util/NoSuchElementException" ∧ Q 1 I8 L))
def W_L_query (p1 : Int32) (I : TI) (L : TL) (b : Nat) (d : Nat) (t : Nat) (Q : Int32 → TI → TL → Nat → Prop) : Prop :=
  W_X8_query p1 I L b d t (fun (r3818 : Int32) (I3819 : TI) (t3820 : Nat) => txOK t3820 ∧ (Q 0 I3819 (up2 L 456 0 (r3818.toInt64)) t3820)) (fun (e9 : String) (I8 : TI) (t8 : Nat) => (e9 = "java/lang/IllegalArgumentException" ∧ Q 1 I8 L t8))
