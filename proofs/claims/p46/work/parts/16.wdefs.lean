def D_J7_fill_53178_5 (p0 : Nat) (v1 : Int32) (v3 : Int32) (L : TL) (Q : TI → Prop) (R5 : Int32 → TI → Prop) (v2 : Int32) (I : TI) : Prop :=
  (v3 ≤ v2 → Q I) ∧ (¬ v3 ≤ v2 → vp_in v2 (LEN p0) ∧ (R5 (v2 + 1) (up2 I p0 (v2.toNatClampNeg) v1)))
def L_J7_fill_53178_5 (p0 : Nat) (v1 : Int32) (v3 : Int32) (L : TL) (Q : TI → Prop) : Nat → Int32 → TI → Prop
  | 0, _, _ => False
  | n9 + 1, v2, I => D_J7_fill_53178_5 p0 v1 v3 L Q (fun v2 I => L_J7_fill_53178_5 p0 v1 v3 L Q n9 v2 I) v2 I
def W_J7_fill_53178 (p0 : Nat) (p1 : Int32) (I : TI) (L : TL) (Q : TI → Prop) : Prop :=
  ∃ n4, L_J7_fill_53178_5 p0 p1 (nI (LEN p0)) L Q n4 (0 : Int32) I
def W_X2_clear (p0 : Nat) (I : TI) (L : TL) (Q : TI → Prop) : Prop :=
  W_J7_fill_53178 (p0 + 4) (0 : Int32) (up2 (up2 I p0 4 0) p0 5 0) L (fun (I6 : TI) => Q I6)
def W_X6_forget (p0 : Nat) (p1 : Int32) (I : TI) (L : TL) (Q : TL → Prop) : Prop :=
  vp_in p1 16 ∧ (vp_in p1 16 ∧ (∀ L12 : TL, L12 = (up2 (up2 L (p0 + 6) (p1.toNatClampNeg) 0) (p0 + 7) (p1.toNatClampNeg) 0) → (vp_in p1 16 ∧ (Q (up2 L12 (p0 + 8) (p1.toNatClampNeg) 0)))))
def D_X6_clear_2 (p0 : Nat) (I : TI) (Q : TI → TL → Prop) (R2 : Int32 → TL → Prop) (v1 : Int32) (L : TL) : Prop :=
  (16 ≤ v1 → W_J7_fill_53178 (p0 + 9) (0 : Int32) I L (fun (I18 : TI) => Q (up2 I18 p0 7 0) L)) ∧ (¬ 16 ≤ v1 → W_X6_forget p0 v1 I L (fun (L19 : TL) => R2 (v1 + 1) L19))
def L_X6_clear_2 (p0 : Nat) (I : TI) (Q : TI → TL → Prop) : Nat → Int32 → TL → Prop
  | 0, _, _ => False
  | n9 + 1, v1, L => D_X6_clear_2 p0 I Q (fun v1 L => L_X6_clear_2 p0 I Q n9 v1 L) v1 L
def W_X6_clear (p0 : Nat) (I : TI) (L : TL) (Q : TI → TL → Prop) : Prop :=
  ∃ n20, L_X6_clear_2 p0 I Q n20 (0 : Int32) L
def W_X0_clear (p0 : Nat) (I : TI) (L : TL) (Q : TI → TL → Prop) : Prop :=
  W_X2_clear (p0 + 1) I L (fun (I24 : TI) => W_X6_clear (p0 + 6) I24 L (fun (I25 : TI) (L26 : TL) => Q I25 L26))
def W_X2_nets (p0 : Nat) (I : TI) (L : TL) (Q : Int32 → Prop) : Prop :=
  Q ((I p0 4) + (I p0 5))
def W_X8_window (p0 : Int32) (p1 : Int32) (I : TI) (L : TL) (Q : Int64 → Prop) : Prop :=
  Q ((shlL (2 : Int64) p1) - (shlL (1 : Int64) p0))
def B_X2_idealOf_31 (p0 : Nat) (p2 : Nat) (v1 : Int32) (v3 : Int64) (s0 : Int64) (I : TI) (L : TL) (Q : Int64 → Prop) : Prop :=
  W_X8_window (0 : Int32) (I p0 6) I L (fun (r41 : Int64) => vp_in v1 16 ∧ (((I (p0 + 1) (v1.toNatClampNeg)) = 0 → Q (v3 &&& s0)) ∧ ((I (p0 + 1) (v1.toNatClampNeg)) = 1 → Q (v3 ||| s0)) ∧ ((I (p0 + 1) (v1.toNatClampNeg)) = 2 → Q (v3 ^^^ s0)) ∧ ((I (p0 + 1) (v1.toNatClampNeg)) = 3 → Q (r41 &&& ((v3 &&& s0) ^^^ (-1)))) ∧ ((I (p0 + 1) (v1.toNatClampNeg)) = 4 → Q (r41 &&& ((v3 ||| s0) ^^^ (-1)))) ∧ ((I (p0 + 1) (v1.toNatClampNeg)) = 5 → Q (r41 &&& (v3 ^^^ (-1)))) ∧ ((I (p0 + 1) (v1.toNatClampNeg)) < 0 ∨ 5 < (I (p0 + 1) (v1.toNatClampNeg)) → Q v3)))
def W_X2_idealOf (p0 : Nat) (p2 : Nat) (p1 : Int32) (I : TI) (L : TL) (Q : Int64 → Prop) : Prop :=
  vp_in p1 16 ∧ (vp_in (I (p0 + 2) (p1.toNatClampNeg)) 16 ∧ (∀ x45 : Int64, x45 = (L p2 ((I (p0 + 2) (p1.toNatClampNeg)).toNatClampNeg)) → (vp_in p1 16 ∧ ((¬ (I (p0 + 3) (p1.toNatClampNeg)) = (-1) → vp_in p1 16 ∧ (vp_in (I (p0 + 3) (p1.toNatClampNeg)) 16 ∧ (B_X2_idealOf_31 p0 p2 p1 x45 (L p2 ((I (p0 + 3) (p1.toNatClampNeg)).toNatClampNeg)) I L Q))) ∧ ((I (p0 + 3) (p1.toNatClampNeg)) = (-1) → B_X2_idealOf_31 p0 p2 p1 x45 x45 I L Q)))))
def W_X8_bitOf (p0 : Int64) (p2 : Int32) (I : TI) (L : TL) (Q : Int32 → Prop) : Prop :=
  Q (((ushL p0 p2) &&& 1).toInt32)
def B_X0_lateWave_43 (p0 : Nat) (p2 : Nat) (v3 : Int64) (v5 : Int32) (s0 : Int64) (I : TI) (L : TL) (Q : Int64 → Prop) : Prop :=
  W_X8_window (0 : Int32) (I (p0 + 1) 6) I L (fun (r59 : Int64) => Q (((shlL v3 v5) ||| s0) &&& r59))
def W_X0_lateWave (p0 : Nat) (p2 : Nat) (p1 : Int32) (I : TI) (L : TL) (Q : Int64 → Prop) : Prop :=
  W_X2_idealOf (p0 + 1) p2 p1 I L (fun (r60 : Int64) => vp_in p1 16 ∧ (∀ x62 : Int32, x62 = (I (p0 + 10) (p1.toNatClampNeg)) → (W_X8_bitOf r60 (0 : Int32) I L (fun (r63 : Int32) => (¬ r63 = 0 → W_X8_window (0 : Int32) (x62 - 1) I L (fun (r64 : Int64) => B_X0_lateWave_43 p0 p2 r60 x62 r64 I L Q)) ∧ (r63 = 0 → B_X0_lateWave_43 p0 p2 r60 x62 (0 : Int64) I L Q)))))
def W_X0_swing (p0 : Nat) (p1 : Int32) (p2 : Int32) (I : TI) (L : TL) (Q : Int32 → Prop) : Prop :=
  (¬ p2 = 1 → vp_in p1 16 ∧ (Q (I (p0 + 9) (p1.toNatClampNeg)))) ∧ (p2 = 1 → vp_in p1 16 ∧ (Q (I (p0 + 8) (p1.toNatClampNeg))))
def B_X0_dearWave_87 (p0 : Nat) (v1 : Int32) (v2 : Int64) (v4 : Int64) (v6 : Int32) (v7 : Int32) (v8 : Int32) (I : TI) (L : TL) (Q : Int64 → Prop) (R31 : Int64 → Int32 → Int32 → Int32 → Prop) : Prop :=
  ∀ x83 : Int64, x83 = (v4 ||| (shlL (v6.toInt64) v8)) → (R31 x83 v6 v7 (v8 + 1))
def B_X0_dearWave_68 (p0 : Nat) (v1 : Int32) (v2 : Int64) (v4 : Int64) (v6 : Int32) (v7 : Int32) (v8 : Int32) (v9 : Int32) (I : TI) (L : TL) (Q : Int64 → Prop) (R31 : Int64 → Int32 → Int32 → Int32 → Prop) : Prop :=
  W_X0_swing p0 v1 v9 I L (fun (r84 : Int32) => ((v8 - r84) < v7 → B_X0_dearWave_87 p0 v1 v2 v4 v6 v7 v8 I L Q R31) ∧ (¬ (v8 - r84) < v7 → B_X0_dearWave_87 p0 v1 v2 v4 v9 v7 v8 I L Q R31))
def D_X0_dearWave_31 (p0 : Nat) (v1 : Int32) (v2 : Int64) (I : TI) (L : TL) (Q : Int64 → Prop) (R31 : Int64 → Int32 → Int32 → Int32 → Prop) (v4 : Int64) (v6 : Int32) (v7 : Int32) (v8 : Int32) : Prop :=
  ((I (p0 + 1) 6) < v8 → Q v4) ∧ (¬ (I (p0 + 1) 6) < v8 → W_X8_bitOf v2 v8 I L (fun (r85 : Int32) => W_X8_bitOf v2 (v8 - 1) I L (fun (r86 : Int32) => (r85 = r86 → B_X0_dearWave_68 p0 v1 v2 v4 v6 v7 v8 r85 I L Q R31) ∧ (¬ r85 = r86 → B_X0_dearWave_68 p0 v1 v2 v4 v6 v8 v8 r85 I L Q R31))))
def L_X0_dearWave_31 (p0 : Nat) (v1 : Int32) (v2 : Int64) (I : TI) (L : TL) (Q : Int64 → Prop) : Nat → Int64 → Int32 → Int32 → Int32 → Prop
  | 0, _, _, _, _ => False
  | n9 + 1, v4, v6, v7, v8 => D_X0_dearWave_31 p0 v1 v2 I L Q (fun v4 v6 v7 v8 => L_X0_dearWave_31 p0 v1 v2 I L Q n9 v4 v6 v7 v8) v4 v6 v7 v8
def W_X0_dearWave (p0 : Nat) (p1 : Int32) (I : TI) (L : TL) (Q : Int64 → Prop) : Prop :=
  W_X2_idealOf (p0 + 1) (p0 + 39) p1 I L (fun (r87 : Int64) => W_X8_bitOf r87 (0 : Int32) I L (fun (r88 : Int32) => ∃ n89, L_X0_dearWave_31 p0 p1 r87 I L Q n89 (r87 &&& 1) r88 (0 : Int32) (1 : Int32)))
def B_X0_longestPath_39 (p0 : Nat) (v1 : Int32) (s0 : Int32) (s1 : Int32) (I : TI) (L : TL) (Q : Int32 → Prop) : Prop :=
  W_X0_swing p0 v1 (0 : Int32) I L (fun (r102 : Int32) => W_X0_swing p0 v1 (1 : Int32) I L (fun (r103 : Int32) => Q ((mxI s0 s1) + (mxI r102 r103))))
def W_X0_longestPath (p0 : Nat) (p1 : Int32) (I : TI) (L : TL) (Q : Int32 → Prop) : Prop :=
  vp_in p1 16 ∧ (∀ x105 : Int32, x105 = (I (p0 + 4) (p1.toNatClampNeg)) → (vp_in p1 16 ∧ (vp_in (I (p0 + 3) (p1.toNatClampNeg)) 16 ∧ ((¬ x105 = (-1) → vp_in x105 16 ∧ (B_X0_longestPath_39 p0 p1 (I (p0 + 41) ((I (p0 + 3) (p1.toNatClampNeg)).toNatClampNeg)) (I (p0 + 41) (x105.toNatClampNeg)) I L Q)) ∧ (x105 = (-1) → B_X0_longestPath_39 p0 p1 (I (p0 + 41) ((I (p0 + 3) (p1.toNatClampNeg)).toNatClampNeg)) (0 : Int32) I L Q)))))
def B_X0_showInto_99 (p0 : Nat) (p1 : Nat) (v2 : Int32) (v3 : Int64) (v5 : Int32) (v6 : Int64) (s0 : Int64) (I : TI) (L : TL) (Q : TL → Prop) (R44 : Int32 → TL → Prop) : Prop :=
  W_X0_lateWave p0 p1 v5 I L (fun (r127 : Int64) => vp_in v5 16 ∧ (∀ x129 : Int64, x129 = ((r127 &&& (v6 ^^^ (-1))) ||| (L (p0 + 14) (v5.toNatClampNeg))) → (vp_in v5 16 ∧ (vp_in v5 16 ∧ (∀ L132 : TL, L132 = (up2 L p1 (v5.toNatClampNeg) ((x129 &&& (s0 ^^^ (-1))) ||| ((L (p0 + 39) (v5.toNatClampNeg)) &&& s0))) → (R44 (v5 + 1) L132))))))
def D_X0_showInto_44 (p0 : Nat) (p1 : Nat) (v2 : Int32) (v3 : Int64) (I : TI) (Q : TL → Prop) (R44 : Int32 → TL → Prop) (v5 : Int32) (L : TL) : Prop :=
  W_X2_nets (p0 + 1) I L (fun (r133 : Int32) => (r133 ≤ v5 → Q L) ∧ (¬ r133 ≤ v5 → vp_in v5 16 ∧ (∀ x135 : Int64, x135 = (L (p0 + 13) (v5.toNatClampNeg)) → ((¬ v5 = v2 → vp_in v5 16 ∧ (B_X0_showInto_99 p0 p1 v2 v3 v5 x135 (L (p0 + 12) (v5.toNatClampNeg)) I L Q R44)) ∧ (v5 = v2 → vp_in v5 16 ∧ (B_X0_showInto_99 p0 p1 v2 v3 v5 x135 ((L (p0 + 12) (v5.toNatClampNeg)) ||| v3) I L Q R44))))))
def L_X0_showInto_44 (p0 : Nat) (p1 : Nat) (v2 : Int32) (v3 : Int64) (I : TI) (Q : TL → Prop) : Nat → Int32 → TL → Prop
  | 0, _, _ => False
  | n9 + 1, v5, L => D_X0_showInto_44 p0 p1 v2 v3 I Q (fun v5 L => L_X0_showInto_44 p0 p1 v2 v3 I Q n9 v5 L) v5 L
def D_X0_showInto_3 (p0 : Nat) (p1 : Nat) (v2 : Int32) (v3 : Int64) (I : TI) (Q : TL → Prop) (R3 : Int32 → TL → Prop) (v5 : Int32) (L : TL) : Prop :=
  ((I (p0 + 1) 4) ≤ v5 → ∃ n138, L_X0_showInto_44 p0 p1 v2 v3 I Q n138 (I (p0 + 1) 4) L) ∧ (¬ (I (p0 + 1) 4) ≤ v5 → vp_in v5 4 ∧ (vp_in v5 16 ∧ (∀ L141 : TL, L141 = (up2 L p1 (v5.toNatClampNeg) (L (p0 + 11) (v5.toNatClampNeg))) → (R3 (v5 + 1) L141))))
def L_X0_showInto_3 (p0 : Nat) (p1 : Nat) (v2 : Int32) (v3 : Int64) (I : TI) (Q : TL → Prop) : Nat → Int32 → TL → Prop
  | 0, _, _ => False
  | n9 + 1, v5, L => D_X0_showInto_3 p0 p1 v2 v3 I Q (fun v5 L => L_X0_showInto_3 p0 p1 v2 v3 I Q n9 v5 L) v5 L
def W_X0_showInto (p0 : Nat) (p1 : Nat) (p2 : Int32) (p3 : Int64) (I : TI) (L : TL) (Q : TL → Prop) : Prop :=
  ∃ n142, L_X0_showInto_3 p0 p1 p2 p3 I Q n142 (0 : Int32) L
def D_X0_refresh_64 (p0 : Nat) (Q : TI → TL → Prop) (R64 : Int32 → TI → TL → Prop) (v1 : Int32) (I : TI) (L : TL) : Prop :=
  W_X2_nets (p0 + 1) I L (fun (r161 : Int32) => (r161 ≤ v1 → W_X0_showInto p0 (p0 + 37) ((-1) : Int32) (0 : Int64) I L (fun (L162 : TL) => Q I L162)) ∧ (¬ r161 ≤ v1 → W_X0_lateWave p0 (p0 + 38) v1 I L (fun (r163 : Int64) => vp_in v1 16 ∧ (W_X0_dearWave p0 v1 I (up2 L (p0 + 38) (v1.toNatClampNeg) r163) (fun (r165 : Int64) => vp_in v1 16 ∧ (∀ L167 : TL, L167 = (up2 (up2 L (p0 + 38) (v1.toNatClampNeg) r163) (p0 + 39) (v1.toNatClampNeg) r165) → (W_X0_longestPath p0 v1 I L167 (fun (r168 : Int32) => vp_in v1 16 ∧ (R64 (v1 + 1) (up2 I (p0 + 41) (v1.toNatClampNeg) r168) L167)))))))))
def L_X0_refresh_64 (p0 : Nat) (Q : TI → TL → Prop) : Nat → Int32 → TI → TL → Prop
  | 0, _, _, _ => False
  | n9 + 1, v1, I, L => D_X0_refresh_64 p0 Q (fun v1 I L => L_X0_refresh_64 p0 Q n9 v1 I L) v1 I L
def D_X0_refresh_2 (p0 : Nat) (Q : TI → TL → Prop) (R2 : Int32 → TI → TL → Prop) (v1 : Int32) (I : TI) (L : TL) : Prop :=
  ((I (p0 + 1) 4) ≤ v1 → ∃ n170, L_X0_refresh_64 p0 Q n170 (I (p0 + 1) 4) I L) ∧ (¬ (I (p0 + 1) 4) ≤ v1 → vp_in v1 4 ∧ (vp_in v1 16 ∧ (∀ L173 : TL, L173 = (up2 L (p0 + 38) (v1.toNatClampNeg) (L (p0 + 11) (v1.toNatClampNeg))) → (vp_in v1 4 ∧ (vp_in v1 16 ∧ (∀ L176 : TL, L176 = (up2 L173 (p0 + 39) (v1.toNatClampNeg) (L173 (p0 + 11) (v1.toNatClampNeg))) → (vp_in v1 16 ∧ (R2 (v1 + 1) (up2 I (p0 + 41) (v1.toNatClampNeg) 0) L176))))))))
def L_X0_refresh_2 (p0 : Nat) (Q : TI → TL → Prop) : Nat → Int32 → TI → TL → Prop
  | 0, _, _, _ => False
  | n9 + 1, v1, I, L => D_X0_refresh_2 p0 Q (fun v1 I L => L_X0_refresh_2 p0 Q n9 v1 I L) v1 I L
def W_X0_refresh (p0 : Nat) (I : TI) (L : TL) (Q : TI → TL → Prop) : Prop :=
  ∃ n178, L_X0_refresh_2 p0 Q n178 (0 : Int32) I L
def W_J6_bitCount_0f7a4 (p0 : Int32) (I : TI) (L : TL) (Q : Int32 → Prop) : Prop :=
  ∀ x179 : Int32, x179 = (p0 - ((ushI p0 (1 : Int32)) &&& 1431655765)) → (∀ x180 : Int32, x180 = ((x179 &&& 858993459) + ((ushI x179 (2 : Int32)) &&& 858993459)) → (∀ x181 : Int32, x181 = ((x180 + (ushI x180 (4 : Int32))) &&& 252645135) → (∀ x182 : Int32, x182 = (x181 + (ushI x181 (8 : Int32))) → (∀ x183 : Int32, x183 = (x182 + (ushI x182 (16 : Int32))) → (Q (x183 &&& 63))))))
def W_X2_cone (p0 : Nat) (p1 : Int32) (I : TI) (L : TL) (Q : Int32 → Prop) : Prop :=
  vp_in p1 16 ∧ (W_J6_bitCount_0f7a4 (I (p0 + 4) (p1.toNatClampNeg)) I L (fun (r187 : Int32) => Q r187))
def W_X0_price (p0 : Nat) (p1 : Int32) (p2 : Int32) (p3 : Int32) (I : TI) (L : TL) (Q : Int32 → Prop) : Prop :=
  W_X2_cone (p0 + 1) p1 I L (fun (r189 : Int32) => Q (((I (p0 + 1) 7) * ((p3 - p2) + 1)) * r189))
def B_X0_pulseStarts_132 (p0 : Nat) (v2 : Int64) (v4 : Int64) (v6 : Int64) (v8 : Int32) (v9 : Int32) (I : TI) (L : TL) (Q : Int64 → Prop) (R41 : Int64 → Int32 → Int32 → Prop) : Prop :=
  R41 v6 v8 (v9 + 1)
def B_X0_pulseStarts_128 (p0 : Nat) (v2 : Int64) (v4 : Int64) (v6 : Int64) (v9 : Int32) (I : TI) (L : TL) (Q : Int64 → Prop) (R41 : Int64 → Int32 → Int32 → Prop) : Prop :=
  B_X0_pulseStarts_132 p0 v2 v4 v6 v9 v9 I L Q R41
def B_X0_pulseStarts_95 (p0 : Nat) (v2 : Int64) (v4 : Int64) (v6 : Int64) (v8 : Int32) (v9 : Int32) (s0 : Int32) (I : TI) (L : TL) (Q : Int64 → Prop) (R41 : Int64 → Int32 → Int32 → Prop) : Prop :=
  (s0 = 0 → B_X0_pulseStarts_128 p0 v2 v4 v6 v9 I L Q R41) ∧ (¬ s0 = 0 → W_X8_window v8 (v9 - 1) I L (fun (r207 : Int64) => ((r207 &&& v4) = 0 → B_X0_pulseStarts_128 p0 v2 v4 v6 v9 I L Q R41) ∧ (¬ (r207 &&& v4) = 0 → ∀ x208 : Int64, x208 = (v6 ||| (shlL (1 : Int64) v8)) → (B_X0_pulseStarts_128 p0 v2 v4 x208 v9 I L Q R41))))
def B_X0_pulseStarts_94 (p0 : Nat) (v2 : Int64) (v4 : Int64) (v6 : Int64) (v8 : Int32) (v9 : Int32) (I : TI) (L : TL) (Q : Int64 → Prop) (R41 : Int64 → Int32 → Int32 → Prop) : Prop :=
  B_X0_pulseStarts_95 p0 v2 v4 v6 v8 v9 (0 : Int32) I L Q R41
def D_X0_pulseStarts_41 (p0 : Nat) (v2 : Int64) (v4 : Int64) (I : TI) (L : TL) (Q : Int64 → Prop) (R41 : Int64 → Int32 → Int32 → Prop) (v6 : Int64) (v8 : Int32) (v9 : Int32) : Prop :=
  ((I (p0 + 1) 6) < v9 → Q v6) ∧ (¬ (I (p0 + 1) 6) < v9 → W_X8_bitOf v2 v9 I L (fun (r209 : Int32) => W_X8_bitOf v2 (v9 - 1) I L (fun (r210 : Int32) => (r209 = r210 → B_X0_pulseStarts_132 p0 v2 v4 v6 v8 v9 I L Q R41) ∧ (¬ r209 = r210 → (v8 ≤ 0 → B_X0_pulseStarts_94 p0 v2 v4 v6 v8 v9 I L Q R41) ∧ (¬ v8 ≤ 0 → ((I (p0 + 6) 8) < (v9 - v8) → B_X0_pulseStarts_94 p0 v2 v4 v6 v8 v9 I L Q R41) ∧ (¬ (I (p0 + 6) 8) < (v9 - v8) → B_X0_pulseStarts_95 p0 v2 v4 v6 v8 v9 (1 : Int32) I L Q R41))))))
def L_X0_pulseStarts_41 (p0 : Nat) (v2 : Int64) (v4 : Int64) (I : TI) (L : TL) (Q : Int64 → Prop) : Nat → Int64 → Int32 → Int32 → Prop
  | 0, _, _, _ => False
  | n9 + 1, v6, v8, v9 => D_X0_pulseStarts_41 p0 v2 v4 I L Q (fun v6 v8 v9 => L_X0_pulseStarts_41 p0 v2 v4 I L Q n9 v6 v8 v9) v6 v8 v9
def W_X0_pulseStarts (p0 : Nat) (p1 : Int32) (I : TI) (L : TL) (Q : Int64 → Prop) : Prop :=
  vp_in p1 16 ∧ (∀ x212 : Int64, x212 = (L (p0 + 37) (p1.toNatClampNeg)) → (vp_in p1 16 ∧ (vp_in p1 16 ∧ (∀ x215 : Int64, x215 = (((L (p0 + 13) (p1.toNatClampNeg)) ||| (L (p0 + 12) (p1.toNatClampNeg))) ^^^ (-1)) → (∃ n216, L_X0_pulseStarts_41 p0 x212 x215 I L Q n216 (0 : Int64) (0 : Int32) (1 : Int32))))))
def W_J13_bitCount_95d88 (p0 : Int64) (I : TI) (L : TL) (Q : Int32 → Prop) : Prop :=
  ∀ x217 : Int64, x217 = (p0 - ((ushL p0 (1 : Int32)) &&& 6148914691236517205)) → (∀ x218 : Int64, x218 = ((x217 &&& 3689348814741910323) + ((ushL x217 (2 : Int32)) &&& 3689348814741910323)) → (∀ x219 : Int64, x219 = ((x218 + (ushL x218 (4 : Int32))) &&& 1085102592571150095) → (∀ x220 : Int64, x220 = (x219 + (ushL x219 (8 : Int32))) → (∀ x221 : Int64, x221 = (x220 + (ushL x220 (16 : Int32))) → (∀ x222 : Int64, x222 = (x221 + (ushL x221 (32 : Int32))) → (Q ((x222.toInt32) &&& 127)))))))
def W_X0_pulses (p0 : Nat) (p1 : Int32) (I : TI) (L : TL) (Q : Int32 → Prop) : Prop :=
  W_X0_pulseStarts p0 p1 I L (fun (r225 : Int64) => W_J13_bitCount_95d88 r225 I L (fun (r226 : Int32) => Q r226))
def B_X0_pulseStart_46 (p0 : Nat) (v2 : Int32) (v3 : Int64) (v5 : Int32) (v6 : Int32) (I : TI) (L : TL) (Q : Int32 → Prop) (R12 : Int32 → Int32 → Prop) : Prop :=
  R12 v5 (v6 + 1)
def D_X0_pulseStart_12 (p0 : Nat) (v2 : Int32) (v3 : Int64) (I : TI) (L : TL) (Q : Int32 → Prop) (R12 : Int32 → Int32 → Prop) (v5 : Int32) (v6 : Int32) : Prop :=
  ((I (p0 + 1) 6) ≤ v6 → Q (-1)) ∧ (¬ (I (p0 + 1) 6) ≤ v6 → W_X8_bitOf v3 v6 I L (fun (r231 : Int32) => (¬ r231 = 1 → B_X0_pulseStart_46 p0 v2 v3 v5 v6 I L Q R12) ∧ (r231 = 1 → (¬ v5 = v2 → B_X0_pulseStart_46 p0 v2 v3 (v5 + 1) v6 I L Q R12) ∧ (v5 = v2 → Q v6))))
def L_X0_pulseStart_12 (p0 : Nat) (v2 : Int32) (v3 : Int64) (I : TI) (L : TL) (Q : Int32 → Prop) : Nat → Int32 → Int32 → Prop
  | 0, _, _ => False
  | n9 + 1, v5, v6 => D_X0_pulseStart_12 p0 v2 v3 I L Q (fun v5 v6 => L_X0_pulseStart_12 p0 v2 v3 I L Q n9 v5 v6) v5 v6
def W_X0_pulseStart (p0 : Nat) (p1 : Int32) (p2 : Int32) (I : TI) (L : TL) (Q : Int32 → Prop) : Prop :=
  W_X0_pulseStarts p0 p1 I L (fun (r232 : Int64) => ∃ n233, L_X0_pulseStart_12 p0 p2 r232 I L Q n233 (0 : Int32) (1 : Int32))
def D_X0_runEnd_2 (p0 : Nat) (v1 : Int32) (v2 : Int32) (I : TI) (L : TL) (Q : Int32 → Prop) (R2 : Int32 → Prop) (v3 : Int32) : Prop :=
  ((I (p0 + 1) 6) ≤ v3 → Q v3) ∧ (¬ (I (p0 + 1) 6) ≤ v3 → vp_in v1 16 ∧ (W_X8_bitOf (L (p0 + 37) (v1.toNatClampNeg)) (v3 + 1) I L (fun (r243 : Int32) => vp_in v1 16 ∧ (W_X8_bitOf (L (p0 + 37) (v1.toNatClampNeg)) v2 I L (fun (r245 : Int32) => (¬ r243 = r245 → Q v3) ∧ (r243 = r245 → R2 (v3 + 1)))))))
def L_X0_runEnd_2 (p0 : Nat) (v1 : Int32) (v2 : Int32) (I : TI) (L : TL) (Q : Int32 → Prop) : Nat → Int32 → Prop
  | 0, _ => False
  | n9 + 1, v3 => D_X0_runEnd_2 p0 v1 v2 I L Q (fun v3 => L_X0_runEnd_2 p0 v1 v2 I L Q n9 v3) v3
def W_X0_runEnd (p0 : Nat) (p1 : Int32) (p2 : Int32) (I : TI) (L : TL) (Q : Int32 → Prop) : Prop :=
  ∃ n246, L_X0_runEnd_2 p0 p1 p2 I L Q n246 p2
def W_X0_cheapVerdict (p0 : Nat) (p1 : Int32) (p2 : Int32) (p3 : Int32) (I : TI) (L : TL) (Q : Int32 → Prop) : Prop :=
  W_X0_swing p0 p1 p3 I L (fun (r248 : Int32) => (p2 ≤ r248 → Q 0) ∧ (¬ p2 ≤ r248 → Q 1))
def B_X0_dearVerdict_33 (p0 : Nat) (p1 : Nat) (s0 : Int64) (I : TI) (L : TL) (Q : Int32 → Prop) : Prop :=
  W_X8_window (I p1 1) (I p1 2) I L (fun (r255 : Int64) => ((s0 &&& r255) = 0 → Q 0) ∧ (¬ (s0 &&& r255) = 0 → Q 1))
def W_X0_dearVerdict (p0 : Nat) (p1 : Nat) (I : TI) (L : TL) (Q : Int32 → Prop) : Prop :=
  (¬ (I p1 3) = 1 → vp_in (I p1 0) 16 ∧ (B_X0_dearVerdict_33 p0 p1 ((L (p0 + 39) ((I p1 0).toNatClampNeg)) ^^^ (-1)) I L Q)) ∧ ((I p1 3) = 1 → vp_in (I p1 0) 16 ∧ (B_X0_dearVerdict_33 p0 p1 (L (p0 + 39) ((I p1 0).toNatClampNeg)) I L Q))
def W_X0_settle (p0 : Nat) (p1 : Int32) (p2 : Int32) (p3 : Int32) (I : TI) (L : TL) (Q : Int32 → TI → TL → Prop) : Prop :=
  W_X8_window p2 p3 I L (fun (r265 : Int64) => vp_in p1 16 ∧ (∀ x267 : Int64, x267 = (r265 &&& ((L (p0 + 12) (p1.toNatClampNeg)) ^^^ (-1))) → (vp_in p1 16 ∧ (vp_in p1 16 ∧ (∀ L270 : TL, L270 = (up2 L (p0 + 12) (p1.toNatClampNeg) ((L (p0 + 12) (p1.toNatClampNeg)) ||| x267)) → (W_X0_refresh p0 I L270 (fun (I271 : TI) (L272 : TL) => W_J13_bitCount_95d88 x267 I271 L272 (fun (r273 : Int32) => Q r273 I271 L272))))))))
def B_X0_rule_139 (p0 : Nat) (p1 : Nat) (v5 : Int64) (s1 : Int32) (s2 : Int64) (I : TI) (L : TL) (Q : Int32 → TI → TL → Prop) : Prop :=
  vp_in s1 16 ∧ (W_X0_refresh p0 I (up2 L (p0 + 14) (s1.toNatClampNeg) s2) (fun (I299 : TI) (L300 : TL) => W_J13_bitCount_95d88 v5 I299 L300 (fun (r301 : Int32) => Q r301 I299 L300)))
def B_X0_rule_82 (p0 : Nat) (p1 : Nat) (v2 : Int32) (v3 : Int64) (v5 : Int64) (s0 : Int32) (I : TI) (L : TL) (Q : Int32 → TI → TL → Prop) : Prop :=
  vp_in v2 16 ∧ (vp_in v2 16 ∧ (∀ L304 : TL, L304 = (up2 L (p0 + 13) (v2.toNatClampNeg) ((L (p0 + 13) (v2.toNatClampNeg)) ||| v3)) → ((s0 = 0 → vp_in v2 16 ∧ (B_X0_rule_139 p0 p1 v5 v2 ((L304 (p0 + 14) (v2.toNatClampNeg)) &&& (v3 ^^^ (-1))) I L304 Q)) ∧ (¬ s0 = 0 → vp_in v2 16 ∧ (B_X0_rule_139 p0 p1 v5 v2 ((L304 (p0 + 14) (v2.toNatClampNeg)) ||| v3) I L304 Q)))))
def B_X0_rule_74 (p0 : Nat) (p1 : Nat) (v2 : Int32) (v3 : Int64) (v5 : Int64) (s0 : Int32) (s1 : Int32) (I : TI) (L : TL) (Q : Int32 → TI → TL → Prop) : Prop :=
  (¬ s0 = s1 → B_X0_rule_82 p0 p1 v2 v3 v5 (0 : Int32) I L Q) ∧ (s0 = s1 → B_X0_rule_82 p0 p1 v2 v3 v5 (1 : Int32) I L Q)
def B_X0_rule_61 (p0 : Nat) (p1 : Nat) (v2 : Int32) (v3 : Int64) (v5 : Int64) (s0 : Int32) (I : TI) (L : TL) (Q : Int32 → TI → TL → Prop) : Prop :=
  (¬ (I p1 3) = 1 → B_X0_rule_74 p0 p1 v2 v3 v5 s0 (0 : Int32) I L Q) ∧ ((I p1 3) = 1 → B_X0_rule_74 p0 p1 v2 v3 v5 s0 (1 : Int32) I L Q)
def W_X0_rule (p0 : Nat) (p1 : Nat) (I : TI) (L : TL) (Q : Int32 → TI → TL → Prop) : Prop :=
  W_X8_window (I p1 1) (I p1 2) I L (fun (r307 : Int64) => vp_in (I p1 0) 16 ∧ (vp_in (I p1 0) 16 ∧ (∀ x310 : Int64, x310 = ((r307 &&& ((L (p0 + 13) ((I p1 0).toNatClampNeg)) ^^^ (-1))) &&& ((L (p0 + 12) ((I p1 0).toNatClampNeg)) ^^^ (-1))) → ((¬ (I p1 7) = 1 → B_X0_rule_61 p0 p1 (I p1 0) r307 x310 (0 : Int32) I L Q) ∧ ((I p1 7) = 1 → B_X0_rule_61 p0 p1 (I p1 0) r307 x310 (1 : Int32) I L Q)))))
def W_X2_hasGate (p0 : Nat) (p1 : Int32) (I : TI) (L : TL) (Q : Int32 → Prop) : Prop :=
  (p1 < (I p0 4) → Q 0) ∧ (¬ p1 < (I p0 4) → W_X2_nets p0 I L (fun (r312 : Int32) => (r312 ≤ p1 → Q 0) ∧ (¬ r312 ≤ p1 → Q 1)))
def B_X2_readersOf_41 (p0 : Nat) (v1 : Int32) (v2 : Int32) (v3 : Int32) (I : TI) (L : TL) (Q : Int32 → Prop) (R7 : Int32 → Int32 → Prop) : Prop :=
  R7 v2 (v3 + 1)
def B_X2_readersOf_35 (p0 : Nat) (v1 : Int32) (v2 : Int32) (v3 : Int32) (I : TI) (L : TL) (Q : Int32 → Prop) (R7 : Int32 → Int32 → Prop) : Prop :=
  ∀ x319 : Int32, x319 = (v2 ||| ((1 : Int32) <<< (v3 &&& 31))) → (B_X2_readersOf_41 p0 v1 x319 v3 I L Q R7)
def D_X2_readersOf_7 (p0 : Nat) (v1 : Int32) (I : TI) (L : TL) (Q : Int32 → Prop) (R7 : Int32 → Int32 → Prop) (v2 : Int32) (v3 : Int32) : Prop :=
  W_X2_nets p0 I L (fun (r320 : Int32) => (r320 ≤ v3 → Q v2) ∧ (¬ r320 ≤ v3 → vp_in v3 16 ∧ (((I (p0 + 2) (v3.toNatClampNeg)) = v1 → B_X2_readersOf_35 p0 v1 v2 v3 I L Q R7) ∧ (¬ (I (p0 + 2) (v3.toNatClampNeg)) = v1 → vp_in v3 16 ∧ ((¬ (I (p0 + 3) (v3.toNatClampNeg)) = v1 → B_X2_readersOf_41 p0 v1 v2 v3 I L Q R7) ∧ ((I (p0 + 3) (v3.toNatClampNeg)) = v1 → B_X2_readersOf_35 p0 v1 v2 v3 I L Q R7))))))
def L_X2_readersOf_7 (p0 : Nat) (v1 : Int32) (I : TI) (L : TL) (Q : Int32 → Prop) : Nat → Int32 → Int32 → Prop
  | 0, _, _ => False
  | n9 + 1, v2, v3 => D_X2_readersOf_7 p0 v1 I L Q (fun v2 v3 => L_X2_readersOf_7 p0 v1 I L Q n9 v2 v3) v2 v3
def W_X2_readersOf (p0 : Nat) (p1 : Int32) (I : TI) (L : TL) (Q : Int32 → Prop) : Prop :=
  ∃ n323, L_X2_readersOf_7 p0 p1 I L Q n323 (0 : Int32) (I p0 4)
def B_X2_touchedBy_56 (p0 : Nat) (v2 : Int32) (v3 : Int32) (v4 : Int32) (I : TI) (L : TL) (Q : Int32 → Prop) (R28 : Int32 → Int32 → Prop) : Prop :=
  R28 v3 (v4 + 1)
def D_X2_touchedBy_28 (p0 : Nat) (v2 : Int32) (I : TI) (L : TL) (Q : Int32 → Prop) (R28 : Int32 → Int32 → Prop) (v3 : Int32) (v4 : Int32) : Prop :=
  W_X2_nets p0 I L (fun (r334 : Int32) => (r334 ≤ v4 → Q v3) ∧ (¬ r334 ≤ v4 → vp_in v4 16 ∧ ((((I (p0 + 4) (v4.toNatClampNeg)) &&& v2) = 0 → B_X2_touchedBy_56 p0 v2 v3 v4 I L Q R28) ∧ (¬ ((I (p0 + 4) (v4.toNatClampNeg)) &&& v2) = 0 → ∀ x336 : Int32, x336 = (v3 ||| ((1 : Int32) <<< (v4 &&& 31))) → (B_X2_touchedBy_56 p0 v2 x336 v4 I L Q R28)))))
def L_X2_touchedBy_28 (p0 : Nat) (v2 : Int32) (I : TI) (L : TL) (Q : Int32 → Prop) : Nat → Int32 → Int32 → Prop
  | 0, _, _ => False
  | n9 + 1, v3, v4 => D_X2_touchedBy_28 p0 v2 I L Q (fun v3 v4 => L_X2_touchedBy_28 p0 v2 I L Q n9 v3 v4) v3 v4
def B_X2_touchedBy_19 (p0 : Nat) (s0 : Int32) (I : TI) (L : TL) (Q : Int32 → Prop) : Prop :=
  ∃ n337, L_X2_touchedBy_28 p0 s0 I L Q n337 (0 : Int32) (I p0 4)
def W_X2_touchedBy (p0 : Nat) (p1 : Int32) (I : TI) (L : TL) (Q : Int32 → Prop) : Prop :=
  W_X2_hasGate p0 p1 I L (fun (r338 : Int32) => (r338 = 0 → W_X2_readersOf p0 p1 I L (fun (r339 : Int32) => B_X2_touchedBy_19 p0 r339 I L Q)) ∧ (¬ r338 = 0 → B_X2_touchedBy_19 p0 ((1 : Int32) <<< (p1 &&& 31)) I L Q))
def W_X3_isPending (p0 : Nat) (I : TI) (L : TL) (Q : Int32 → Prop) : Prop :=
  ((I p0 6) = 0 → Q 1) ∧ (¬ (I p0 6) = 0 → (¬ (I p0 6) = 1 → Q 0) ∧ ((I p0 6) = 1 → Q 1))
def B_X6_dropPending_50 (p0 : Nat) (v1 : Int32) (v2 : Int32) (v3 : Int32) (I : TI) (L : TL) (Q : Int32 → TI → Prop) (R4 : Int32 → Int32 → TI → Prop) : Prop :=
  R4 v2 (v3 + 1) I
def D_X6_dropPending_4 (p0 : Nat) (v1 : Int32) (L : TL) (Q : Int32 → TI → Prop) (R4 : Int32 → Int32 → TI → Prop) (v2 : Int32) (v3 : Int32) (I : TI) : Prop :=
  ((I p0 7) ≤ v3 → Q v2 I) ∧ (¬ (I p0 7) ≤ v3 → vp_in v3 20 ∧ ((¬ (I ((p0 + 11) + v3.toNatClampNeg) 0) = v1 → B_X6_dropPending_50 p0 v1 v2 v3 I L Q R4) ∧ ((I ((p0 + 11) + v3.toNatClampNeg) 0) = v1 → vp_in v3 20 ∧ (W_X3_isPending ((p0 + 11) + v3.toNatClampNeg) I L (fun (r350 : Int32) => (r350 = 0 → B_X6_dropPending_50 p0 v1 v2 v3 I L Q R4) ∧ (¬ r350 = 0 → vp_in v3 20 ∧ (B_X6_dropPending_50 p0 v1 (v2 + 1) v3 (up2 I ((p0 + 11) + v3.toNatClampNeg) 6 4) L Q R4)))))))
def L_X6_dropPending_4 (p0 : Nat) (v1 : Int32) (L : TL) (Q : Int32 → TI → Prop) : Nat → Int32 → Int32 → TI → Prop
  | 0, _, _, _ => False
  | n9 + 1, v2, v3, I => D_X6_dropPending_4 p0 v1 L Q (fun v2 v3 I => L_X6_dropPending_4 p0 v1 L Q n9 v2 v3 I) v2 v3 I
def W_X6_dropPending (p0 : Nat) (p1 : Int32) (I : TI) (L : TL) (Q : Int32 → TI → Prop) : Prop :=
  ∃ n352, L_X6_dropPending_4 p0 p1 L Q n352 (0 : Int32) (0 : Int32) I
def B_X0_unsettle_63 (p0 : Nat) (v2 : Int32) (v3 : Int32) (v4 : Int32) (I : TI) (L : TL) (Q : Int32 → TI → TL → Prop) (R20 : Int32 → Int32 → TI → TL → Prop) : Prop :=
  R20 v3 (v4 + 1) I L
def D_X0_unsettle_20 (p0 : Nat) (v2 : Int32) (Q : Int32 → TI → TL → Prop) (R20 : Int32 → Int32 → TI → TL → Prop) (v3 : Int32) (v4 : Int32) (I : TI) (L : TL) : Prop :=
  W_X2_nets (p0 + 1) I L (fun (r367 : Int32) => (r367 ≤ v4 → W_X0_refresh p0 I L (fun (I368 : TI) (L369 : TL) => Q v3 I368 L369)) ∧ (¬ r367 ≤ v4 → (¬ ((ushI v2 v4) &&& 1) = 1 → B_X0_unsettle_63 p0 v2 v3 v4 I L Q R20) ∧ (((ushI v2 v4) &&& 1) = 1 → W_X6_forget (p0 + 6) v4 I L (fun (L370 : TL) => W_X6_dropPending (p0 + 6) v4 I L370 (fun (r371 : Int32) (I372 : TI) => B_X0_unsettle_63 p0 v2 (v3 + r371) v4 I372 L370 Q R20)))))
def L_X0_unsettle_20 (p0 : Nat) (v2 : Int32) (Q : Int32 → TI → TL → Prop) : Nat → Int32 → Int32 → TI → TL → Prop
  | 0, _, _, _, _ => False
  | n9 + 1, v3, v4, I, L => D_X0_unsettle_20 p0 v2 Q (fun v3 v4 I L => L_X0_unsettle_20 p0 v2 Q n9 v3 v4 I L) v3 v4 I L
def W_X0_unsettle (p0 : Nat) (p1 : Int32) (I : TI) (L : TL) (Q : Int32 → TI → TL → Prop) : Prop :=
  W_X2_touchedBy (p0 + 1) p1 I L (fun (r373 : Int32) => ∃ n374, L_X0_unsettle_20 p0 r373 Q n374 (0 : Int32) (I (p0 + 1) 4) I L)
def W_X7_failed (I : TI) (L : TL) (Q : Int32 → Prop) : Prop :=
  ((I 344 6) = 0 → Q 0) ∧ (¬ (I 344 6) = 0 → Q 1)
/-! isWord of Tokens, its text by place: what it answers -/
def sch (pl k : Nat) : Int32 := (bytJS.getD pl []).getD k 0
def isW (I : TI) (t pl st en ln : Nat) : Prop := I 344 6 = 0 ∧ I 344 4 = 1 ∧ en ≤ ln ∧ en - st = lenJS.getD pl 0 ∧ ∀ k, k < lenJS.getD pl 0 → I t (st + k) = sch pl k
def W_X7_isWord (p1 : Nat) (I : TI) (L : TL) (t : Nat) (Q : Int32 → Prop) : Prop :=
  ∃ pl st en ln : Nat, p1 = 458 + pl ∧ pl < nJS ∧ I 344 2 = nI st ∧ I 344 3 = nI en ∧ I 344 1 = nI ln ∧ st ≤ en ∧ en < 1000 ∧ ln ≤ LEN t ∧ ln < 1000 ∧ (isW I t pl st en ln → Q 1) ∧ (¬ isW I t pl st en ln → Q 0)
def W_X7_fail (p1 : Int32) (I : TI) (L : TL) (Q : TI → Prop) : Prop :=
  W_X7_failed I L (fun (r376 : Int32) => (¬ r376 = 0 → Q I) ∧ (r376 = 0 → Q (up2 (up2 I 344 6 p1) 344 7 ((up2 I 344 6 p1) 344 2))))
def D_X7_scanWord_5 (L : TL) (t : Nat) (Q : TI → Prop) (R5 : TI → Prop) (I : TI) : Prop :=
  ((I 344 1) ≤ (I 344 3) → Q I) ∧ (¬ (I 344 1) ≤ (I 344 3) → vp_in (I 344 3) (LEN t) ∧ (((I t ((I 344 3).toNatClampNeg)) < 97 → Q I) ∧ (¬ (I t ((I 344 3).toNatClampNeg)) < 97 → vp_in (I 344 3) (LEN t) ∧ ((122 < (I t ((I 344 3).toNatClampNeg)) → Q I) ∧ (¬ 122 < (I t ((I 344 3).toNatClampNeg)) → R5 (up2 I 344 3 ((I 344 3) + 1)))))))
def L_X7_scanWord_5 (L : TL) (t : Nat) (Q : TI → Prop) : Nat → TI → Prop
  | 0, _ => False
  | n9 + 1, I => D_X7_scanWord_5 L t Q (fun I => L_X7_scanWord_5 L t Q n9 I) I
def W_X7_scanWord (I : TI) (L : TL) (t : Nat) (Q : TI → Prop) : Prop :=
  ∃ n383, L_X7_scanWord_5 L t Q n383 (up2 I 344 4 1)
def D_X7_scanNumber_10 (L : TL) (t : Nat) (Q : TI → Prop) (R10 : TI → Prop) (I : TI) : Prop :=
  ((I 344 1) ≤ (I 344 3) → Q I) ∧ (¬ (I 344 1) ≤ (I 344 3) → vp_in (I 344 3) (LEN t) ∧ (((I t ((I 344 3).toNatClampNeg)) < 48 → Q I) ∧ (¬ (I t ((I 344 3).toNatClampNeg)) < 48 → vp_in (I 344 3) (LEN t) ∧ ((57 < (I t ((I 344 3).toNatClampNeg)) → Q I) ∧ (¬ 57 < (I t ((I 344 3).toNatClampNeg)) → vp_in (I 344 3) (LEN t) ∧ (∀ I393 : TI, I393 = (up2 I 344 5 (mnI ((((10 : Int32) * (I 344 5)) + (I t ((I 344 3).toNatClampNeg))) - 48) (1000000 : Int32))) → (R10 (up2 I393 344 3 ((I393 344 3) + 1)))))))))
def L_X7_scanNumber_10 (L : TL) (t : Nat) (Q : TI → Prop) : Nat → TI → Prop
  | 0, _ => False
  | n9 + 1, I => D_X7_scanNumber_10 L t Q (fun I => L_X7_scanNumber_10 L t Q n9 I) I
def W_X7_scanNumber (I : TI) (L : TL) (t : Nat) (Q : TI → Prop) : Prop :=
  ∃ n394, L_X7_scanNumber_10 L t Q n394 (up2 (up2 I 344 4 2) 344 5 0)
def B_X7_advance_157 (I : TI) (L : TL) (t : Nat) (Q : TI → Prop) : Prop :=
  Q (up2 (up2 I 344 4 3) 344 3 (((up2 I 344 4 3) 344 3) + 1))
def B_X7_advance_122 (I : TI) (L : TL) (t : Nat) (Q : TI → Prop) : Prop :=
  vp_in (I 344 2) (LEN t) ∧ (((I t ((I 344 2).toNatClampNeg)) < 48 → B_X7_advance_157 I L t Q) ∧ (¬ (I t ((I 344 2).toNatClampNeg)) < 48 → vp_in (I 344 2) (LEN t) ∧ ((57 < (I t ((I 344 2).toNatClampNeg)) → B_X7_advance_157 I L t Q) ∧ (¬ 57 < (I t ((I 344 2).toNatClampNeg)) → W_X7_scanNumber I L t (fun (I424 : TI) => Q I424)))))
def B_X7_advance_60 (I : TI) (L : TL) (t : Nat) (Q : TI → Prop) : Prop :=
  (((up2 I 344 2 (I 344 3)) 344 2) < ((up2 I 344 2 (I 344 3)) 344 1) → vp_in ((up2 I 344 2 (I 344 3)) 344 2) (LEN t) ∧ ((((up2 I 344 2 (I 344 3)) t (((up2 I 344 2 (I 344 3)) 344 2).toNatClampNeg)) < 97 → B_X7_advance_122 (up2 I 344 2 (I 344 3)) L t Q) ∧ (¬ ((up2 I 344 2 (I 344 3)) t (((up2 I 344 2 (I 344 3)) 344 2).toNatClampNeg)) < 97 → vp_in ((up2 I 344 2 (I 344 3)) 344 2) (LEN t) ∧ ((122 < ((up2 I 344 2 (I 344 3)) t (((up2 I 344 2 (I 344 3)) 344 2).toNatClampNeg)) → B_X7_advance_122 (up2 I 344 2 (I 344 3)) L t Q) ∧ (¬ 122 < ((up2 I 344 2 (I 344 3)) t (((up2 I 344 2 (I 344 3)) 344 2).toNatClampNeg)) → W_X7_scanWord (up2 I 344 2 (I 344 3)) L t (fun (I427 : TI) => Q I427)))))) ∧ (¬ ((up2 I 344 2 (I 344 3)) 344 2) < ((up2 I 344 2 (I 344 3)) 344 1) → Q (up2 (up2 I 344 2 (I 344 3)) 344 4 0))
def B_X7_advance_47 (I : TI) (L : TL) (t : Nat) (Q : TI → Prop) (R8 : TI → Prop) : Prop :=
  R8 (up2 I 344 3 ((I 344 3) + 1))
def D_X7_advance_8 (L : TL) (t : Nat) (Q : TI → Prop) (R8 : TI → Prop) (I : TI) : Prop :=
  ((I 344 1) ≤ (I 344 3) → B_X7_advance_60 I L t Q) ∧ (¬ (I 344 1) ≤ (I 344 3) → vp_in (I 344 3) (LEN t) ∧ (((I t ((I 344 3).toNatClampNeg)) = 32 → B_X7_advance_47 I L t Q R8) ∧ (¬ (I t ((I 344 3).toNatClampNeg)) = 32 → vp_in (I 344 3) (LEN t) ∧ ((¬ (I t ((I 344 3).toNatClampNeg)) = 10 → B_X7_advance_60 I L t Q) ∧ ((I t ((I 344 3).toNatClampNeg)) = 10 → B_X7_advance_47 I L t Q R8)))))
def L_X7_advance_8 (L : TL) (t : Nat) (Q : TI → Prop) : Nat → TI → Prop
  | 0, _ => False
  | n9 + 1, I => D_X7_advance_8 L t Q (fun I => L_X7_advance_8 L t Q n9 I) I
def W_X7_advance (I : TI) (L : TL) (t : Nat) (Q : TI → Prop) : Prop :=
  W_X7_failed I L (fun (r430 : Int32) => (r430 = 0 → ∃ n431, L_X7_advance_8 L t Q n431 I) ∧ (¬ r430 = 0 → Q I))
def B_X7_takeWord_13 (p1 : Nat) (I : TI) (L : TL) (t : Nat) (Q : TI → Prop) : Prop :=
  W_X7_advance I L t (fun (I438 : TI) => Q I438)
def W_X7_takeWord (p1 : Nat) (I : TI) (L : TL) (t : Nat) (Q : TI → Prop) : Prop :=
  W_X7_isWord p1 I L t (fun (r439 : Int32) => (¬ r439 = 0 → B_X7_takeWord_13 p1 I L t Q) ∧ (r439 = 0 → W_X7_fail (1 : Int32) I L (fun (I440 : TI) => B_X7_takeWord_13 p1 I440 L t Q)))
def W_X7_isNumber (I : TI) (L : TL) (Q : Int32 → Prop) : Prop :=
  W_X7_failed I L (fun (r442 : Int32) => (¬ r442 = 0 → Q 0) ∧ (r442 = 0 → (¬ (I 344 4) = 2 → Q 0) ∧ ((I 344 4) = 2 → Q 1)))
def B_X7_peekNumber_36 (v1 : Int32) (I : TI) (L : TL) (Q : Int32 → TI → Prop) : Prop :=
  W_X7_failed I L (fun (r451 : Int32) => (r451 = 0 → Q (I 344 5) I) ∧ (¬ r451 = 0 → Q v1 I))
def B_X7_peekNumber_31 (v1 : Int32) (I : TI) (L : TL) (Q : Int32 → TI → Prop) : Prop :=
  W_X7_fail (2 : Int32) I L (fun (I452 : TI) => B_X7_peekNumber_36 v1 I452 L Q)
def W_X7_peekNumber (p1 : Int32) (p2 : Int32) (I : TI) (L : TL) (Q : Int32 → TI → Prop) : Prop :=
  W_X7_isNumber I L (fun (r453 : Int32) => (¬ r453 = 0 → ((I 344 5) < p1 → B_X7_peekNumber_31 p1 I L Q) ∧ (¬ (I 344 5) < p1 → ((I 344 5) ≤ p2 → B_X7_peekNumber_36 p1 I L Q) ∧ (¬ (I 344 5) ≤ p2 → B_X7_peekNumber_31 p1 I L Q))) ∧ (r453 = 0 → W_X7_fail (1 : Int32) I L (fun (I454 : TI) => B_X7_peekNumber_36 p1 I454 L Q)))
def W_X7_takeNumber (p1 : Int32) (p2 : Int32) (I : TI) (L : TL) (t : Nat) (Q : Int32 → TI → Prop) : Prop :=
  W_X7_peekNumber p1 p2 I L (fun (r458 : Int32) (I459 : TI) => W_X7_advance I459 L t (fun (I460 : TI) => Q r458 I460))
def W_X7_isSign (p1 : Int32) (I : TI) (L : TL) (t : Nat) (Q : Int32 → Prop) : Prop :=
  W_X7_failed I L (fun (r463 : Int32) => (¬ r463 = 0 → Q 0) ∧ (r463 = 0 → (¬ (I 344 4) = 3 → Q 0) ∧ ((I 344 4) = 3 → ((I 344 1) ≤ (I 344 2) → Q 0) ∧ (¬ (I 344 1) ≤ (I 344 2) → vp_in (I 344 2) (LEN t) ∧ ((¬ (I t ((I 344 2).toNatClampNeg)) = p1 → Q 0) ∧ ((I t ((I 344 2).toNatClampNeg)) = p1 → Q 1))))))
def B_X7_takeSign_13 (I : TI) (L : TL) (t : Nat) (Q : TI → Prop) : Prop :=
  W_X7_advance I L t (fun (I471 : TI) => Q I471)
def W_X7_takeSign (p1 : Int32) (I : TI) (L : TL) (t : Nat) (Q : TI → Prop) : Prop :=
  W_X7_isSign p1 I L t (fun (r472 : Int32) => (¬ r472 = 0 → B_X7_takeSign_13 I L t Q) ∧ (r472 = 0 → W_X7_fail (1 : Int32) I L (fun (I473 : TI) => B_X7_takeSign_13 I473 L t Q)))
def W_X1_readHead (p1 : Nat) (I : TI) (L : TL) (t : Nat) (Q : TI → Prop) : Prop :=
  W_X7_takeWord 459 I L t (fun (I484 : TI) => W_X7_takeNumber (4 : Int32) (60 : Int32) I484 L t (fun (r485 : Int32) (I486 : TI) => W_X7_takeNumber (1 : Int32) (20 : Int32) (up2 I486 (p1 + 1) 6 r485) L t (fun (r487 : Int32) (I488 : TI) => W_X7_takeNumber (0 : Int32) (9 : Int32) (up2 I488 (p1 + 6) 8 r487) L t (fun (r489 : Int32) (I490 : TI) => W_X7_takeNumber (0 : Int32) (99 : Int32) (up2 I490 (p1 + 1) 7 r489) L t (fun (r491 : Int32) (I492 : TI) => W_X7_takeSign (59 : Int32) (up2 I492 (p1 + 1) 8 r491) L t (fun (I493 : TI) => Q I493))))))
def B_X1_readWave_83 (v2 : Int64) (I : TI) (L : TL) (t : Nat) (Q : Int64 → TI → Prop) : Prop :=
  W_X7_takeSign (59 : Int32) I L t (fun (I514 : TI) => Q v2 I514)
def B_X1_readWave_60 (v1 : Int32) (v2 : Int64) (v5 : Int32) (v6 : Int32) (I : TI) (L : TL) (t : Nat) (Q : Int64 → TI → Prop) (R26 : Int64 → Int32 → Int32 → TI → Prop) : Prop :=
  W_X7_advance I L t (fun (I515 : TI) => W_X8_window v6 v1 I515 L (fun (r516 : Int64) => R26 (v2 ^^^ r516) v6 (v5 + 1) I515))
def D_X1_readWave_26 (v1 : Int32) (L : TL) (t : Nat) (Q : Int64 → TI → Prop) (R26 : Int64 → Int32 → Int32 → TI → Prop) (v2 : Int64) (v4 : Int32) (v5 : Int32) (I : TI) : Prop :=
  (60 < v5 → B_X1_readWave_83 v2 I L t Q) ∧ (¬ 60 < v5 → W_X7_isNumber I L (fun (r517 : Int32) => (r517 = 0 → B_X1_readWave_83 v2 I L t Q) ∧ (¬ r517 = 0 → W_X7_peekNumber (1 : Int32) v1 I L (fun (r518 : Int32) (I519 : TI) => (v4 < r518 → B_X1_readWave_60 v1 v2 v5 r518 I519 L t Q R26) ∧ (¬ v4 < r518 → W_X7_fail (4 : Int32) I519 L (fun (I520 : TI) => B_X1_readWave_60 v1 v2 v5 r518 I520 L t Q R26))))))
def L_X1_readWave_26 (v1 : Int32) (L : TL) (t : Nat) (Q : Int64 → TI → Prop) : Nat → Int64 → Int32 → Int32 → TI → Prop
  | 0, _, _, _, _ => False
  | n9 + 1, v2, v4, v5, I => D_X1_readWave_26 v1 L t Q (fun v2 v4 v5 I => L_X1_readWave_26 v1 L t Q n9 v2 v4 v5 I) v2 v4 v5 I
def B_X1_readWave_19 (v1 : Int32) (s0 : Int64) (I : TI) (L : TL) (t : Nat) (Q : Int64 → TI → Prop) : Prop :=
  ∃ n521, L_X1_readWave_26 v1 L t Q n521 s0 (0 : Int32) (0 : Int32) I
def W_X1_readWave (p1 : Int32) (I : TI) (L : TL) (t : Nat) (Q : Int64 → TI → Prop) : Prop :=
  W_X7_takeNumber (0 : Int32) (1 : Int32) I L t (fun (r522 : Int32) (I523 : TI) => (¬ r522 = 1 → B_X1_readWave_19 p1 (0 : Int64) I523 L t Q) ∧ (r522 = 1 → W_X8_window (0 : Int32) p1 I523 L (fun (r524 : Int64) => B_X1_readWave_19 p1 r524 I523 L t Q)))
def B_X1_readInputs_80 (p1 : Nat) (v2 : Int32) (I : TI) (L : TL) (t : Nat) (Q : TI → TL → Prop) (R16 : Int32 → TI → TL → Prop) : Prop :=
  R16 (v2 + 1) I L
def D_X1_readInputs_16 (p1 : Nat) (t : Nat) (Q : TI → TL → Prop) (R16 : Int32 → TI → TL → Prop) (v2 : Int32) (I : TI) (L : TL) : Prop :=
  (4 < v2 → Q I L) ∧ (¬ 4 < v2 → W_X7_isWord 460 I L t (fun (r543 : Int32) => (r543 = 0 → Q I L) ∧ (¬ r543 = 0 → (¬ v2 = 4 → W_X7_advance I L t (fun (I544 : TI) => W_X1_readWave (I544 (p1 + 1) 6) I544 L t (fun (r545 : Int64) (I546 : TI) => vp_in v2 4 ∧ (B_X1_readInputs_80 p1 v2 (up2 I546 (p1 + 1) 4 ((I546 (p1 + 1) 4) + 1)) (up2 L (p1 + 11) (v2.toNatClampNeg) r545) t Q R16)))) ∧ (v2 = 4 → W_X7_fail (3 : Int32) I L (fun (I548 : TI) => B_X1_readInputs_80 p1 v2 I548 L t Q R16)))))
def L_X1_readInputs_16 (p1 : Nat) (t : Nat) (Q : TI → TL → Prop) : Nat → Int32 → TI → TL → Prop
  | 0, _, _, _ => False
  | n9 + 1, v2, I, L => D_X1_readInputs_16 p1 t Q (fun v2 I L => L_X1_readInputs_16 p1 t Q n9 v2 I L) v2 I L
def B_X1_readInputs_14 (p1 : Nat) (I : TI) (L : TL) (t : Nat) (Q : TI → TL → Prop) : Prop :=
  ∃ n549, L_X1_readInputs_16 p1 t Q n549 (0 : Int32) I L
def W_X1_readInputs (p1 : Nat) (I : TI) (L : TL) (t : Nat) (Q : TI → TL → Prop) : Prop :=
  W_X7_isWord 460 I L t (fun (r550 : Int32) => (¬ r550 = 0 → B_X1_readInputs_14 p1 I L t Q) ∧ (r550 = 0 → W_X7_fail (1 : Int32) I L (fun (I551 : TI) => B_X1_readInputs_14 p1 I551 L t Q)))
def W_X8_kindWord (p0 : Int32) (I : TI) (L : TL) (Q : Nat → Prop) : Prop :=
  (p0 = 0 → Q 462) ∧ (p0 = 1 → Q 463) ∧ (p0 = 2 → Q 464) ∧ (p0 = 3 → Q 465) ∧ (p0 = 4 → Q 466) ∧ (p0 = 5 → Q 467) ∧ (p0 < 0 ∨ 5 < p0 → Q 468)
def D_X1_readKind_2 (I : TI) (L : TL) (t : Nat) (Q : Int32 → TI → Prop) (R2 : Int32 → Prop) (v1 : Int32) : Prop :=
  (7 ≤ v1 → W_X7_fail (1 : Int32) I L (fun (I560 : TI) => Q 0 I560)) ∧ (¬ 7 ≤ v1 → W_X8_kindWord v1 I L (fun (r561 : Nat) => W_X7_isWord r561 I L t (fun (r562 : Int32) => (r562 = 0 → R2 (v1 + 1)) ∧ (¬ r562 = 0 → W_X7_advance I L t (fun (I563 : TI) => Q v1 I563)))))
def L_X1_readKind_2 (I : TI) (L : TL) (t : Nat) (Q : Int32 → TI → Prop) : Nat → Int32 → Prop
  | 0, _ => False
  | n9 + 1, v1 => D_X1_readKind_2 I L t Q (fun v1 => L_X1_readKind_2 I L t Q n9 v1) v1
def W_X1_readKind (I : TI) (L : TL) (t : Nat) (Q : Int32 → TI → Prop) : Prop :=
  ∃ n564, L_X1_readKind_2 I L t Q n564 (0 : Int32)
def B_X2_addGate_62 (p0 : Nat) (s1 : Int32) (s2 : Int32) (s3 : Int32) (I : TI) (L : TL) (Q : TI → Prop) : Prop :=
  vp_in s1 16 ∧ (∀ I580 : TI, I580 = (up2 (up2 I (p0 + 4) (s1.toNatClampNeg) (s2 ||| s3)) p0 5 (((up2 I (p0 + 4) (s1.toNatClampNeg) (s2 ||| s3)) p0 5) + 1)) → (Q I580))
def W_X2_addGate (p0 : Nat) (p1 : Int32) (p2 : Int32) (p3 : Int32) (I : TI) (L : TL) (Q : TI → Prop) : Prop :=
  W_X2_nets p0 I L (fun (r581 : Int32) => vp_in r581 16 ∧ (vp_in r581 16 ∧ (∀ I584 : TI, I584 = (up2 (up2 I (p0 + 1) (r581.toNatClampNeg) p1) (p0 + 2) (r581.toNatClampNeg) p2) → (vp_in r581 16 ∧ (vp_in p2 16 ∧ ((¬ p3 = (-1) → vp_in p3 16 ∧ (B_X2_addGate_62 p0 r581 (((1 : Int32) <<< (r581 &&& 31)) ||| ((up2 I584 (p0 + 3) (r581.toNatClampNeg) p3) (p0 + 4) (p2.toNatClampNeg))) ((up2 I584 (p0 + 3) (r581.toNatClampNeg) p3) (p0 + 4) (p3.toNatClampNeg)) (up2 I584 (p0 + 3) (r581.toNatClampNeg) p3) L Q)) ∧ (p3 = (-1) → B_X2_addGate_62 p0 r581 (((1 : Int32) <<< (r581 &&& 31)) ||| ((up2 I584 (p0 + 3) (r581.toNatClampNeg) p3) (p0 + 4) (p2.toNatClampNeg))) (0 : Int32) (up2 I584 (p0 + 3) (r581.toNatClampNeg) p3) L Q)))))))
def B_X1_readGate_81 (p1 : Nat) (v2 : Int32) (v3 : Int32) (v4 : Int32) (v5 : Int32) (v6 : Int32) (I : TI) (L : TL) (t : Nat) (Q : TI → Prop) (R45 : Int32 → TI → Prop) : Prop :=
  R45 (v6 + 1) I
def D_X1_readGate_45 (p1 : Nat) (v2 : Int32) (v3 : Int32) (v4 : Int32) (v5 : Int32) (L : TL) (t : Nat) (Q : TI → Prop) (R45 : Int32 → TI → Prop) (v6 : Int32) (I : TI) : Prop :=
  (3 ≤ v6 → W_X7_takeSign (59 : Int32) I L t (fun (I625 : TI) => W_X7_failed I625 L (fun (r626 : Int32) => (¬ r626 = 0 → Q I625) ∧ (r626 = 0 → W_X2_addGate (p1 + 1) v3 v4 v5 I625 L (fun (I627 : TI) => Q I627))))) ∧ (¬ 3 ≤ v6 → W_X7_takeNumber (1 : Int32) (9 : Int32) I L t (fun (r628 : Int32) (I629 : TI) => W_X7_failed I629 L (fun (r630 : Int32) => (¬ r630 = 0 → B_X1_readGate_81 p1 v2 v3 v4 v5 v6 I629 L t Q R45) ∧ (r630 = 0 → vp_in v6 3 ∧ (vp_in v2 16 ∧ (∀ I633 : TI, I633 = (up2 I629 ((p1 + 8) + v6.toNatClampNeg) (v2.toNatClampNeg) r628) → (B_X1_readGate_81 p1 v2 v3 v4 v5 v6 I633 L t Q R45)))))))
def L_X1_readGate_45 (p1 : Nat) (v2 : Int32) (v3 : Int32) (v4 : Int32) (v5 : Int32) (L : TL) (t : Nat) (Q : TI → Prop) : Nat → Int32 → TI → Prop
  | 0, _, _ => False
  | n9 + 1, v6, I => D_X1_readGate_45 p1 v2 v3 v4 v5 L t Q (fun v6 I => L_X1_readGate_45 p1 v2 v3 v4 v5 L t Q n9 v6 I) v6 I
def B_X1_readGate_40 (p1 : Nat) (v2 : Int32) (v3 : Int32) (v4 : Int32) (s0 : Int32) (I : TI) (L : TL) (t : Nat) (Q : TI → Prop) : Prop :=
  ∃ n634, L_X1_readGate_45 p1 v2 v3 v4 s0 L t Q n634 (0 : Int32) I
def W_X1_readGate (p1 : Nat) (I : TI) (L : TL) (t : Nat) (Q : TI → Prop) : Prop :=
  W_X2_nets (p1 + 1) I L (fun (r635 : Int32) => W_X1_readKind I L t (fun (r636 : Int32) (I637 : TI) => W_X7_takeNumber (0 : Int32) (r635 - 1) I637 L t (fun (r638 : Int32) (I639 : TI) => (5 ≤ r636 → B_X1_readGate_40 p1 r635 r636 r638 ((-1) : Int32) I639 L t Q) ∧ (¬ 5 ≤ r636 → W_X7_takeNumber (0 : Int32) (r635 - 1) I639 L t (fun (r640 : Int32) (I641 : TI) => B_X1_readGate_40 p1 r635 r636 r638 r640 I641 L t Q)))))
def B_X1_readGates_40 (p1 : Nat) (v2 : Int32) (I : TI) (L : TL) (t : Nat) (Q : TI → Prop) (R2 : Int32 → TI → Prop) : Prop :=
  R2 (v2 + 1) I
def D_X1_readGates_2 (p1 : Nat) (L : TL) (t : Nat) (Q : TI → Prop) (R2 : Int32 → TI → Prop) (v2 : Int32) (I : TI) : Prop :=
  (12 < v2 → Q I) ∧ (¬ 12 < v2 → W_X7_isWord 461 I L t (fun (r650 : Int32) => (r650 = 0 → Q I) ∧ (¬ r650 = 0 → (¬ v2 = 12 → W_X7_advance I L t (fun (I651 : TI) => W_X1_readGate p1 I651 L t (fun (I652 : TI) => B_X1_readGates_40 p1 v2 I652 L t Q R2))) ∧ (v2 = 12 → W_X7_fail (3 : Int32) I L (fun (I653 : TI) => B_X1_readGates_40 p1 v2 I653 L t Q R2)))))
def L_X1_readGates_2 (p1 : Nat) (L : TL) (t : Nat) (Q : TI → Prop) : Nat → Int32 → TI → Prop
  | 0, _, _ => False
  | n9 + 1, v2, I => D_X1_readGates_2 p1 L t Q (fun v2 I => L_X1_readGates_2 p1 L t Q n9 v2 I) v2 I
def W_X1_readGates (p1 : Nat) (I : TI) (L : TL) (t : Nat) (Q : TI → Prop) : Prop :=
  ∃ n654, L_X1_readGates_2 p1 L t Q n654 (0 : Int32) I
def D_X1_readPurses_15 (p1 : Nat) (L : TL) (t : Nat) (Q : TI → Prop) (R15 : Int32 → TI → Prop) (v2 : Int32) (I : TI) : Prop :=
  (3 ≤ v2 → W_X7_takeSign (59 : Int32) I L t (fun (I667 : TI) => Q I667)) ∧ (¬ 3 ≤ v2 → W_X7_takeNumber (0 : Int32) (99999 : Int32) I L t (fun (r668 : Int32) (I669 : TI) => vp_in v2 3 ∧ (R15 (v2 + 1) (up2 I669 (p1 + 15) (v2.toNatClampNeg) r668))))
def L_X1_readPurses_15 (p1 : Nat) (L : TL) (t : Nat) (Q : TI → Prop) : Nat → Int32 → TI → Prop
  | 0, _, _ => False
  | n9 + 1, v2, I => D_X1_readPurses_15 p1 L t Q (fun v2 I => L_X1_readPurses_15 p1 L t Q n9 v2 I) v2 I
def W_X1_readPurses (p1 : Nat) (I : TI) (L : TL) (t : Nat) (Q : TI → Prop) : Prop :=
  W_X7_isWord 469 I L t (fun (r671 : Int32) => (r671 = 0 → Q I) ∧ (¬ r671 = 0 → W_X7_advance I L t (fun (I672 : TI) => ∃ n673, L_X1_readPurses_15 p1 L t Q n673 (0 : Int32) I672)))
def W_X7_isEnd (I : TI) (L : TL) (Q : Int32 → Prop) : Prop :=
  W_X7_failed I L (fun (r675 : Int32) => (¬ r675 = 0 → Q 0) ∧ (r675 = 0 → (¬ (I 344 4) = 0 → Q 0) ∧ ((I 344 4) = 0 → Q 1)))
def W_X1_read (p1 : Nat) (I : TI) (L : TL) (t : Nat) (Q : TI → TL → Prop) : Prop :=
  W_X1_readHead p1 I L t (fun (I683 : TI) => W_X1_readInputs p1 I683 L t (fun (I684 : TI) (L685 : TL) => W_X1_readGates p1 I684 L685 t (fun (I686 : TI) => W_X1_readPurses p1 I686 L685 t (fun (I687 : TI) => W_X7_isEnd I687 L685 (fun (r688 : Int32) => (¬ r688 = 0 → Q I687 L685) ∧ (r688 = 0 → W_X7_fail (1 : Int32) I687 L685 (fun (I689 : TI) => Q I689 L685)))))))
def W_X2_hasNet (p0 : Nat) (p1 : Int32) (I : TI) (L : TL) (Q : Int32 → Prop) : Prop :=
  (p1 < 0 → Q 0) ∧ (¬ p1 < 0 → W_X2_nets p0 I L (fun (r691 : Int32) => (r691 ≤ p1 → Q 0) ∧ (¬ r691 ≤ p1 → Q 1)))
def W_X2_hasTime (p0 : Nat) (p1 : Int32) (I : TI) (L : TL) (Q : Int32 → Prop) : Prop :=
  (p1 < 0 → Q 0) ∧ (¬ p1 < 0 → ((I p0 6) < p1 → Q 0) ∧ (¬ (I p0 6) < p1 → Q 1))
def W_X3_start (p0 : Nat) (p1 : Int32) (p2 : Int32) (p3 : Int32) (p4 : Int32) (p5 : Int32) (p6 : Int32) (I : TI) (L : TL) (Q : TI → Prop) : Prop :=
  ∀ I693 : TI, I693 = (up2 (up2 (up2 (up2 (up2 I p0 0 p1) p0 1 p2) p0 2 p3) p0 3 p4) p0 4 p5) → ((p6 = 0 ∨ p6 = 1) ∧ (Q (up2 (up2 (up2 I693 p0 5 p6) p0 6 0) p0 7 (-1))))
def W_X3_copyFrom (p0 : Nat) (p1 : Nat) (I : TI) (L : TL) (Q : TI → Prop) : Prop :=
  W_X3_start p0 (I p1 0) (I p1 1) (I p1 2) (I p1 3) (I p1 4) (I p1 5) I L (fun (I696 : TI) => ∀ I697 : TI, I697 = (up2 (up2 I696 p0 6 (I696 p1 6)) p0 7 ((up2 I696 p0 6 (I696 p1 6)) p1 7)) → (Q I697))
def W_X3_times (p0 : Nat) (I : TI) (L : TL) (Q : Int32 → Prop) : Prop :=
  Q (((I p0 2) - (I p0 1)) + 1)
def B_X3_loserBy_17 (p0 : Nat) (s0 : Int32) (I : TI) (L : TL) (Q : Int32 → Prop) : Prop :=
  (¬ s0 = (I p0 5) → Q (I p0 4)) ∧ (s0 = (I p0 5) → Q ((1 : Int32) - (I p0 4)))
def W_X3_loserBy (p0 : Nat) (p1 : Int32) (I : TI) (L : TL) (Q : Int32 → Prop) : Prop :=
  (¬ p1 = (-1) → (¬ p1 = 1 → B_X3_loserBy_17 p0 (0 : Int32) I L Q) ∧ (p1 = 1 → B_X3_loserBy_17 p0 (1 : Int32) I L Q)) ∧ (p1 = (-1) → Q (-1))
def D_X6_copyFrom_115 (p0 : Nat) (p1 : Nat) (L : TL) (Q : TI → TL → Prop) (R115 : Int32 → TI → Prop) (v2 : Int32) (I : TI) : Prop :=
  ((I p0 7) ≤ v2 → Q (up2 I p0 8 (I p1 8)) L) ∧ (¬ (I p0 7) ≤ v2 → vp_in v2 20 ∧ (vp_in v2 20 ∧ (W_X3_copyFrom ((p0 + 11) + v2.toNatClampNeg) ((p1 + 11) + v2.toNatClampNeg) I L (fun (I707 : TI) => R115 (v2 + 1) I707))))
def L_X6_copyFrom_115 (p0 : Nat) (p1 : Nat) (L : TL) (Q : TI → TL → Prop) : Nat → Int32 → TI → Prop
  | 0, _, _ => False
  | n9 + 1, v2, I => D_X6_copyFrom_115 p0 p1 L Q (fun v2 I => L_X6_copyFrom_115 p0 p1 L Q n9 v2 I) v2 I
def D_X6_copyFrom_2 (p0 : Nat) (p1 : Nat) (L : TL) (Q : TI → TL → Prop) (R2 : Int32 → TI → Prop) (v2 : Int32) (I : TI) : Prop :=
  (3 ≤ v2 → ∀ L708 : TL, L708 = (cpy (cpy L (p1 + 5) (p0 + 5) 0 0 4) (p1 + 6) (p0 + 6) 0 0 16) → (∀ L709 : TL, L709 = (cpy (cpy L708 (p1 + 7) (p0 + 7) 0 0 16) (p1 + 8) (p0 + 8) 0 0 16) → (∀ I710 : TI, I710 = (up2 (cpy I (p1 + 9) (p0 + 9) 0 0 3) p0 7 ((cpy I (p1 + 9) (p0 + 9) 0 0 3) p1 7)) → (∃ n711, L_X6_copyFrom_115 p0 p1 L709 Q n711 (0 : Int32) I710)))) ∧ (¬ 3 ≤ v2 → vp_in v2 3 ∧ (vp_in v2 3 ∧ (∀ I714 : TI, I714 = (cpy I ((p1 + 2) + v2.toNatClampNeg) ((p0 + 2) + v2.toNatClampNeg) 0 0 16) → (R2 (v2 + 1) I714))))
def L_X6_copyFrom_2 (p0 : Nat) (p1 : Nat) (L : TL) (Q : TI → TL → Prop) : Nat → Int32 → TI → Prop
  | 0, _, _ => False
  | n9 + 1, v2, I => D_X6_copyFrom_2 p0 p1 L Q (fun v2 I => L_X6_copyFrom_2 p0 p1 L Q n9 v2 I) v2 I
def W_X6_copyFrom (p0 : Nat) (p1 : Nat) (I : TI) (L : TL) (Q : TI → TL → Prop) : Prop :=
  ∃ n715, L_X6_copyFrom_2 p0 p1 L Q n715 (0 : Int32) I
def B_X4_record_33 (p1 : Nat) (s1 : Int32) (I : TI) (L : TL) (Q : TI → TL → Prop) : Prop :=
  ∀ I722 : TI, I722 = (up2 (up2 I 1 4 s1) 1 3 (mnI (((up2 I 1 4 s1) 1 3) + 1) (10 : Int32))) → (Q I722 L)
def W_X4_record (p1 : Nat) (I : TI) (L : TL) (Q : TI → TL → Prop) : Prop :=
  vp_in (I 1 4) 10 ∧ (W_X6_copyFrom (34 + 31 * (I 1 4).toNatClampNeg) p1 I L (fun (I724 : TI) (L725 : TL) => (¬ (I724 1 4) = 9 → B_X4_record_33 p1 ((I724 1 4) + 1) I724 L725 Q) ∧ ((I724 1 4) = 9 → B_X4_record_33 p1 (0 : Int32) I724 L725 Q)))
def W_X4_discardAll (I : TI) (L : TL) (Q : TI → Prop) : Prop :=
  Q (up2 (up2 I 1 3 0) 1 2 0)
def W_X6_settledTimes (p0 : Nat) (p1 : Int32) (I : TI) (L : TL) (Q : Int32 → Prop) : Prop :=
  vp_in p1 16 ∧ (W_J13_bitCount_95d88 (L (p0 + 6) (p1.toNatClampNeg)) I L (fun (r729 : Int32) => Q r729))
def W_X6_ruledTimes (p0 : Nat) (p1 : Int32) (I : TI) (L : TL) (Q : Int32 → Prop) : Prop :=
  vp_in p1 16 ∧ (vp_in p1 16 ∧ (W_J13_bitCount_95d88 ((L (p0 + 7) (p1.toNatClampNeg)) &&& ((L (p0 + 6) (p1.toNatClampNeg)) ^^^ (-1))) I L (fun (r735 : Int32) => Q r735)))
def W_X6_timeState (p0 : Nat) (p1 : Int32) (p2 : Int32) (I : TI) (L : TL) (Q : Int32 → Prop) : Prop :=
  vp_in p1 16 ∧ (W_X8_bitOf (L (p0 + 6) (p1.toNatClampNeg)) p2 I L (fun (r741 : Int32) => (¬ r741 = 1 → vp_in p1 16 ∧ (W_X8_bitOf (L (p0 + 7) (p1.toNatClampNeg)) p2 I L (fun (r743 : Int32) => Q r743))) ∧ (r741 = 1 → Q 2)))
def B_X6_hasPending_66 (p0 : Nat) (v1 : Int32) (v2 : Int32) (v3 : Int32) (v5 : Int32) (s0 : Int32) (s1 : Int32) (I : TI) (L : TL) (Q : Int32 → Prop) (R6 : Int32 → Int32 → Prop) : Prop :=
  R6 (s0 ||| s1) (v5 + 1)
def B_X6_hasPending_65 (p0 : Nat) (v1 : Int32) (v2 : Int32) (v3 : Int32) (v5 : Int32) (s0 : Int32) (I : TI) (L : TL) (Q : Int32 → Prop) (R6 : Int32 → Int32 → Prop) : Prop :=
  B_X6_hasPending_66 p0 v1 v2 v3 v5 s0 (0 : Int32) I L Q R6
def D_X6_hasPending_6 (p0 : Nat) (v1 : Int32) (v2 : Int32) (v3 : Int32) (I : TI) (L : TL) (Q : Int32 → Prop) (R6 : Int32 → Int32 → Prop) (v4 : Int32) (v5 : Int32) : Prop :=
  ((I p0 7) ≤ v5 → (v4 = 0 ∨ v4 = 1) ∧ (Q v4)) ∧ (¬ (I p0 7) ≤ v5 → vp_in v5 20 ∧ (W_X3_isPending ((p0 + 11) + v5.toNatClampNeg) I L (fun (r752 : Int32) => (r752 = 0 → B_X6_hasPending_65 p0 v1 v2 v3 v5 v4 I L Q R6) ∧ (¬ r752 = 0 → (¬ (I ((p0 + 11) + v5.toNatClampNeg) 0) = v1 → B_X6_hasPending_65 p0 v1 v2 v3 v5 v4 I L Q R6) ∧ ((I ((p0 + 11) + v5.toNatClampNeg) 0) = v1 → (v3 < (I ((p0 + 11) + v5.toNatClampNeg) 1) → B_X6_hasPending_65 p0 v1 v2 v3 v5 v4 I L Q R6) ∧ (¬ v3 < (I ((p0 + 11) + v5.toNatClampNeg) 1) → ((I ((p0 + 11) + v5.toNatClampNeg) 2) < v2 → B_X6_hasPending_65 p0 v1 v2 v3 v5 v4 I L Q R6) ∧ (¬ (I ((p0 + 11) + v5.toNatClampNeg) 2) < v2 → B_X6_hasPending_66 p0 v1 v2 v3 v5 v4 (1 : Int32) I L Q R6)))))))
def L_X6_hasPending_6 (p0 : Nat) (v1 : Int32) (v2 : Int32) (v3 : Int32) (I : TI) (L : TL) (Q : Int32 → Prop) : Nat → Int32 → Int32 → Prop
  | 0, _, _ => False
  | n9 + 1, v4, v5 => D_X6_hasPending_6 p0 v1 v2 v3 I L Q (fun v4 v5 => L_X6_hasPending_6 p0 v1 v2 v3 I L Q n9 v4 v5) v4 v5
def W_X6_hasPending (p0 : Nat) (p1 : Int32) (p2 : Int32) (p3 : Int32) (I : TI) (L : TL) (Q : Int32 → Prop) : Prop :=
  ∃ n753, L_X6_hasPending_6 p0 p1 p2 p3 I L Q n753 (0 : Int32) (0 : Int32)
def W_X6_payCourt (p0 : Nat) (p1 : Int32) (p2 : Int32) (I : TI) (L : TL) (Q : TI → Prop) : Prop :=
  vp_in p1 3 ∧ (vp_in p1 3 ∧ (∀ I758 : TI, I758 = (up2 I (p0 + 9) (p1.toNatClampNeg) ((I (p0 + 9) (p1.toNatClampNeg)) - p2)) → (Q (up2 I758 (p0 + 9) 2 ((I758 (p0 + 9) 2) + p2)))))
def W_X7_begin (p2 : Int32) (I : TI) (L : TL) (t : Nat) (Q : TI → Nat → Prop) : Prop :=
  ∀ I760 : TI, I760 = (up2 (up2 (up2 (up2 I 344 1 (mnI p2 (nI 600))) 344 3 0) 344 6 0) 344 7 (-1)) → (W_X7_advance I760 L 350 (fun (I761 : TI) => Q I761 350))
def D_X8_putBytes_3 (v1 : Int32) (L : TL) (Q : TI → Prop) (R3 : Int32 → TI → Prop) (v2 : Int32) (I : TI) : Prop :=
  (v2 < 0 → Q I) ∧ (¬ v2 < 0 → (600 ≤ (I 0 7) → Q I) ∧ (¬ 600 ≤ (I 0 7) → vp_in (I 0 7) 600 ∧ (∀ I765 : TI, I765 = (up2 I 350 ((I 0 7).toNatClampNeg) ((ushI v1 v2).toInt8.toInt32).toInt8.toInt32) → (R3 (v2 + (-8)) (up2 I765 0 7 ((I765 0 7) + 1))))))
def L_X8_putBytes_3 (v1 : Int32) (L : TL) (Q : TI → Prop) : Nat → Int32 → TI → Prop
  | 0, _, _ => False
  | n9 + 1, v2, I => D_X8_putBytes_3 v1 L Q (fun v2 I => L_X8_putBytes_3 v1 L Q n9 v2 I) v2 I
def W_X8_putBytes (p1 : Int32) (I : TI) (L : TL) (Q : TI → Prop) : Prop :=
  ∃ n766, L_X8_putBytes_3 p1 L Q n766 (24 : Int32) I
def W_X8_feed (p1 : Int32) (p2 : Int32) (p3 : Int32) (p4 : Int32) (p5 : Int32) (I : TI) (L : TL) (Q : Int32 → TI → Prop) : Prop :=
  ((I 0 7) ≤ 580 → W_X8_putBytes p1 I L (fun (I772 : TI) => W_X8_putBytes p2 I772 L (fun (I773 : TI) => W_X8_putBytes p3 I773 L (fun (I774 : TI) => W_X8_putBytes p4 I774 L (fun (I775 : TI) => W_X8_putBytes p5 I775 L (fun (I776 : TI) => Q (I776 0 7) I776)))))) ∧ (¬ (I 0 7) ≤ 580 → Q (-1) I)
def W_X8_load (p1 : Int32) (I : TI) (L : TL) (b : Nat) (d : Nat) (t : Nat) (Q : Int32 → TI → TL → Nat → Nat → Nat → Prop) (QX : String → TI → TL → Nat → Nat → Nat → Prop) : Prop :=
  (p1 < 0 → QX "java/lang/IllegalArgumentException" I L b d t) ∧ (¬ p1 < 0 → (p1 ≤ (I 0 7) → W_X7_begin p1 I L t (fun (I789 : TI) (t790 : Nat) => txOK t790 ∧ (W_X0_clear d I789 L (fun (I792 : TI) (L793 : TL) => W_X1_read d I792 L793 t790 (fun (I794 : TI) (L795 : TL) => W_X7_failed (up2 (up2 I794 0 7 0) 0 9 ((up2 I794 0 7 0) 344 7)) L795 (fun (r796 : Int32) => (r796 = 0 → W_X0_refresh d (up2 (up2 I794 0 7 0) 0 9 ((up2 I794 0 7 0) 344 7)) L795 (fun (I797 : TI) (L798 : TL) => W_X4_discardAll I797 L798 (fun (I799 : TI) => W_X2_nets (d + 1) I799 L798 (fun (r800 : Int32) => Q r800 I799 L798 d b t790)))) ∧ (¬ r796 = 0 → Q (((-10) : Int32) - ((up2 (up2 I794 0 7 0) 0 9 ((up2 I794 0 7 0) 344 7)) 344 6)) (up2 (up2 I794 0 7 0) 0 9 ((up2 I794 0 7 0) 344 7)) L795 b d t790))))))) ∧ (¬ p1 ≤ (I 0 7) → QX "java/lang/IllegalArgumentException" I L b d t))
def W_X8_errorPosition (I : TI) (L : TL) (Q : Int32 → Prop) : Prop :=
  Q (I 0 9)
def W_X8_size (p1 : Int32) (I : TI) (L : TL) (b : Nat) (d : Nat) (Q : Int32 → Prop) (QX : String → Prop) : Prop :=
  (p1 = 0 → Q (I (b + 1) 4)) ∧ (p1 = 1 → Q (I (b + 1) 5)) ∧ (p1 = 2 → Q (I (b + 1) 6)) ∧ (p1 = 3 → Q (I (b + 6) 8)) ∧ (p1 = 4 → Q (I (b + 1) 7)) ∧ (p1 = 5 → Q (I (b + 1) 8)) ∧ (p1 = 6 → Q (I (b + 6) 7)) ∧ (p1 = 7 → Q (I (b + 15) 0)) ∧ (p1 = 8 → Q (I (b + 15) 1)) ∧ (p1 = 9 → Q (I (b + 15) 2)) ∧ (p1 < 0 ∨ 9 < p1 → QX "java/util/NoSuchElementException")
def W_X8_requireGate (p1 : Int32) (I : TI) (L : TL) (b : Nat) (d : Nat) (Q : Prop) (QX : String → Prop) : Prop :=
  W_X2_hasGate (b + 1) p1 I L (fun (r802 : Int32) => (¬ r802 = 0 → Q) ∧ (r802 = 0 → QX "java/util/NoSuchElementException"))
def W_X8_gate (p1 : Int32) (p2 : Int32) (I : TI) (L : TL) (b : Nat) (d : Nat) (Q : Int32 → Prop) (QX : String → Prop) : Prop :=
  W_X8_requireGate p1 I L b d ((p2 = 0 → vp_in p1 16 ∧ (Q (I (b + 2) (p1.toNatClampNeg)))) ∧ (p2 = 1 → vp_in p1 16 ∧ (Q (I (b + 3) (p1.toNatClampNeg)))) ∧ (p2 = 2 → vp_in p1 16 ∧ (Q (I (b + 4) (p1.toNatClampNeg)))) ∧ (p2 = 3 → vp_in p1 16 ∧ (Q (I (b + 8) (p1.toNatClampNeg)))) ∧ (p2 = 4 → vp_in p1 16 ∧ (Q (I (b + 9) (p1.toNatClampNeg)))) ∧ (p2 = 5 → vp_in p1 16 ∧ (Q (I (b + 10) (p1.toNatClampNeg)))) ∧ (p2 = 6 → W_X2_cone (b + 1) p1 I L (fun (r819 : Int32) => Q r819)) ∧ (p2 = 7 → W_X6_settledTimes (b + 6) p1 I L (fun (r820 : Int32) => Q r820)) ∧ (p2 = 8 → W_X6_ruledTimes (b + 6) p1 I L (fun (r821 : Int32) => Q r821)) ∧ (p2 = 9 → W_X0_pulses b p1 I L (fun (r822 : Int32) => Q r822)) ∧ (p2 < 0 ∨ 9 < p2 → QX "java/util/NoSuchElementException")) (fun (e9 : String) => QX e9)
def W_X8_requireNet (p1 : Int32) (I : TI) (L : TL) (b : Nat) (d : Nat) (Q : Prop) (QX : String → Prop) : Prop :=
  W_X2_hasNet (b + 1) p1 I L (fun (r824 : Int32) => (¬ r824 = 0 → Q) ∧ (r824 = 0 → QX "java/util/NoSuchElementException"))
def W_X8_requireTimes (p1 : Int32) (p2 : Int32) (I : TI) (L : TL) (b : Nat) (d : Nat) (Q : Prop) (QX : String → Prop) : Prop :=
  W_X2_hasTime (b + 1) p1 I L (fun (r827 : Int32) => (r827 = 0 → QX "java/lang/IllegalArgumentException") ∧ (¬ r827 = 0 → W_X2_hasTime (b + 1) p2 I L (fun (r828 : Int32) => (r828 = 0 → QX "java/lang/IllegalArgumentException") ∧ (¬ r828 = 0 → (p1 ≤ p2 → Q) ∧ (¬ p1 ≤ p2 → QX "java/lang/IllegalArgumentException")))))
def W_X8_requireWave (p1 : Int32) (p2 : Int32) (I : TI) (L : TL) (b : Nat) (d : Nat) (Q : Int64 → Prop) (QX : String → Prop) : Prop :=
  W_X8_requireNet p1 I L b d ((p2 = 0 → vp_in p1 16 ∧ (Q (L (b + 37) (p1.toNatClampNeg)))) ∧ (p2 = 1 → vp_in p1 16 ∧ (Q (L (b + 38) (p1.toNatClampNeg)))) ∧ (p2 = 2 → vp_in p1 16 ∧ (Q (L (b + 39) (p1.toNatClampNeg)))) ∧ (p2 < 0 ∨ 2 < p2 → QX "java/util/NoSuchElementException")) (fun (e9 : String) => QX e9)
def W_X8_stateAt (p1 : Int32) (p2 : Int32) (I : TI) (L : TL) (b : Nat) (d : Nat) (Q : Int32 → Prop) (QX : String → Prop) : Prop :=
  W_X8_requireNet p1 I L b d (W_X2_hasTime (b + 1) p2 I L (fun (r837 : Int32) => (¬ r837 = 0 → W_X6_timeState (b + 6) p1 p2 I L (fun (r838 : Int32) => Q r838)) ∧ (r837 = 0 → QX "java/util/NoSuchElementException"))) (fun (e9 : String) => QX e9)
def W_X8_wave (p1 : Int32) (p2 : Int32) (I : TI) (L : TL) (b : Nat) (d : Nat) (Q : Int64 → Prop) (QX : String → Prop) : Prop :=
  W_X8_requireWave p1 p2 I L b d (fun (r840 : Int64) => Q r840) (fun (e9 : String) => QX e9)
def W_X8_dependsOn (p1 : Int32) (I : TI) (L : TL) (b : Nat) (d : Nat) (Q : Int32 → Prop) (QX : String → Prop) : Prop :=
  W_X8_requireGate p1 I L b d (vp_in p1 16 ∧ (Q (I (b + 5) (p1.toNatClampNeg)))) (fun (e9 : String) => QX e9)
def W_X8_requirePulse (p1 : Int32) (p2 : Int32) (I : TI) (L : TL) (b : Nat) (d : Nat) (Q : Int32 → Prop) (QX : String → Prop) : Prop :=
  W_X8_requireGate p1 I L b d (W_X0_pulseStart b p1 p2 I L (fun (r844 : Int32) => (¬ r844 = (-1) → Q r844) ∧ (r844 = (-1) → QX "java/util/NoSuchElementException"))) (fun (e9 : String) => QX e9)
def W_X8_requireDispute (p1 : Int32) (I : TI) (L : TL) (b : Nat) (d : Nat) (Q : Nat → Prop) (QX : String → Prop) : Prop :=
  (p1 < 0 → QX "java/util/NoSuchElementException") ∧ (¬ p1 < 0 → (p1 < (I (b + 6) 7) → vp_in p1 20 ∧ (Q ((b + 17) + p1.toNatClampNeg))) ∧ (¬ p1 < (I (b + 6) 7) → QX "java/util/NoSuchElementException"))
def W_X8_cost (p1 : Int32) (p2 : Int32) (p3 : Int32) (I : TI) (L : TL) (b : Nat) (d : Nat) (Q : Int32 → Prop) (QX : String → Prop) : Prop :=
  W_X8_requireGate p1 I L b d (W_X8_requireTimes p2 p3 I L b d (W_X0_price b p1 p2 p3 I L (fun (r848 : Int32) => Q r848)) (fun (e9 : String) => QX e9)) (fun (e9 : String) => QX e9)
def B_X8_open_28 (v1 : Int32) (v2 : Int32) (v4 : Int32) (v5 : Int32) (I : TI) (L : TL) (b : Nat) (d : Nat) (Q : Int32 → TI → TL → Prop) (QX : String → TI → TL → Prop) : Prop :=
  W_X0_runEnd b v2 v5 I L (fun (r867 : Int32) => W_X6_hasPending (b + 6) v2 v5 r867 I L (fun (r868 : Int32) => (r868 = 0 → ((I (b + 6) 7) < 20 → W_X4_record (b + 6) I L (fun (I869 : TI) (L870 : TL) => vp_in (I (b + 6) 7) 20 ∧ (vp_in v2 16 ∧ (W_X8_bitOf (L870 (b + 37) (v2.toNatClampNeg)) v5 (up2 I869 (b + 6) 7 ((I869 (b + 6) 7) + 1)) L870 (fun (r873 : Int32) => W_X3_start ((b + 17) + (I (b + 6) 7).toNatClampNeg) v2 v5 r867 r873 v1 v4 (up2 I869 (b + 6) 7 ((I869 (b + 6) 7) + 1)) L870 (fun (I874 : TI) => Q (I (b + 6) 7) I874 L870)))))) ∧ (¬ (I (b + 6) 7) < 20 → Q (-3) I L)) ∧ (¬ r868 = 0 → Q (-2) I L)))
def W_X8_open (p1 : Int32) (p2 : Int32) (p3 : Int32) (p4 : Int32) (I : TI) (L : TL) (b : Nat) (d : Nat) (Q : Int32 → TI → TL → Prop) (QX : String → TI → TL → Prop) : Prop :=
  W_X8_requirePulse p2 p3 I L b d (fun (r875 : Int32) => (p1 = 0 → B_X8_open_28 p1 p2 p4 r875 I L b d Q QX) ∧ (¬ p1 = 0 → (p1 = 1 → B_X8_open_28 p1 p2 p4 r875 I L b d Q QX) ∧ (¬ p1 = 1 → QX "java/lang/IllegalArgumentException" I L))) (fun (e9 : String) => QX e9 I L)
def W_X8_judge (p1 : Int32) (I : TI) (L : TL) (b : Nat) (d : Nat) (Q : Int32 → TI → TL → Prop) (QX : String → TI → TL → Prop) : Prop :=
  W_X8_requireDispute p1 I L b d (fun (r885 : Nat) => LAY r885 = 2 ∧ (((I r885 6) = 0 → W_X3_times r885 I L (fun (r887 : Int32) => W_X0_cheapVerdict b (I r885 0) r887 (I r885 3) I L (fun (r888 : Int32) => W_X3_loserBy r885 r888 I L (fun (r889 : Int32) => vp_in r889 3 ∧ (((I (b + 1) 8) ≤ (I (b + 15) (r889.toNatClampNeg)) → W_X4_record (b + 6) I L (fun (I891 : TI) (L892 : TL) => W_X6_payCourt (b + 6) r889 (I (b + 1) 8) I891 L892 (fun (I893 : TI) => Q r888 (up2 (up2 I893 r885 7 r888) r885 6 1) L892))) ∧ (¬ (I (b + 1) 8) ≤ (I (b + 15) (r889.toNatClampNeg)) → Q (-3) I L)))))) ∧ (¬ (I r885 6) = 0 → Q (-2) I L))) (fun (e9 : String) => QX e9 I L)
def W_X8_appeal (p1 : Int32) (I : TI) (L : TL) (b : Nat) (d : Nat) (Q : Int32 → TI → TL → Prop) (QX : String → TI → TL → Prop) : Prop :=
  W_X8_requireDispute p1 I L b d (fun (r908 : Nat) => LAY r908 = 2 ∧ (((I r908 6) = 1 → W_X0_price b (I r908 0) (I r908 1) (I r908 2) I L (fun (r910 : Int32) => W_X3_loserBy r908 (I r908 7) I L (fun (r911 : Int32) => vp_in r911 3 ∧ ((r910 ≤ (I (b + 15) (r911.toNatClampNeg)) → W_X4_record (b + 6) I L (fun (I913 : TI) (L914 : TL) => W_X0_dearVerdict b r908 I913 L914 (fun (r915 : Int32) => W_X3_loserBy r908 ((up2 (up2 I913 r908 7 r915) r908 6 2) r908 7) (up2 (up2 I913 r908 7 r915) r908 6 2) L914 (fun (r916 : Int32) => vp_in r916 3 ∧ (W_X6_payCourt (b + 6) r916 (mnI r910 ((up2 (up2 I913 r908 7 r915) r908 6 2) (b + 15) (r916.toNatClampNeg))) (up2 (up2 I913 r908 7 r915) r908 6 2) L914 (fun (I918 : TI) => W_X0_settle b (I918 r908 0) (I918 r908 1) (I918 r908 2) I918 L914 (fun (r919 : Int32) (I920 : TI) (L921 : TL) => Q (I920 r908 7) I920 L921))))))) ∧ (¬ r910 ≤ (I (b + 15) (r911.toNatClampNeg)) → Q (-3) I L))))) ∧ (¬ (I r908 6) = 1 → Q (-2) I L))) (fun (e9 : String) => QX e9 I L)
def W_X8_accept (p1 : Int32) (I : TI) (L : TL) (b : Nat) (d : Nat) (Q : Int32 → TI → TL → Prop) (QX : String → TI → TL → Prop) : Prop :=
  W_X8_requireDispute p1 I L b d (fun (r929 : Nat) => LAY r929 = 2 ∧ (((I r929 6) = 1 → W_X4_record (b + 6) I L (fun (I931 : TI) (L932 : TL) => W_X0_rule b r929 (up2 I931 r929 6 3) L932 (fun (r933 : Int32) (I934 : TI) (L935 : TL) => Q r933 I934 L935))) ∧ (¬ (I r929 6) = 1 → Q (-2) I L))) (fun (e9 : String) => QX e9 I L)
def W_X8_replay (p1 : Int32) (p2 : Int32) (p3 : Int32) (I : TI) (L : TL) (b : Nat) (d : Nat) (Q : Int32 → TI → TL → Prop) (QX : String → TI → TL → Prop) : Prop :=
  W_X8_requireGate p1 I L b d (W_X8_requireTimes p2 p3 I L b d (W_X0_price b p1 p2 p3 I L (fun (r942 : Int32) => (r942 ≤ (I (b + 15) 2) → W_X4_record (b + 6) I L (fun (I943 : TI) (L944 : TL) => W_X0_settle b p1 p2 p3 (up2 I943 (b + 15) 2 ((I943 (b + 15) 2) - r942)) L944 (fun (r945 : Int32) (I946 : TI) (L947 : TL) => Q r945 I946 L947))) ∧ (¬ r942 ≤ (I (b + 15) 2) → Q (-3) I L))) (fun (e9 : String) => QX e9 I L)) (fun (e9 : String) => QX e9 I L)
def W_X8_setDelay (p1 : Int32) (p2 : Int32) (p3 : Int32) (I : TI) (L : TL) (b : Nat) (d : Nat) (Q : Int32 → TI → TL → Prop) (QX : String → TI → TL → Prop) : Prop :=
  W_X8_requireGate p1 I L b d ((p2 < 0 → QX "java/lang/IllegalArgumentException" I L) ∧ (¬ p2 < 0 → (3 ≤ p2 → QX "java/lang/IllegalArgumentException" I L) ∧ (¬ 3 ≤ p2 → (p3 < 1 → QX "java/lang/IllegalArgumentException" I L) ∧ (¬ p3 < 1 → (p3 ≤ 9 → W_X4_record (b + 6) I L (fun (I957 : TI) (L958 : TL) => vp_in p2 3 ∧ (vp_in p1 16 ∧ (∀ x961 : Int32, x961 = (I957 ((b + 8) + p2.toNatClampNeg) (p1.toNatClampNeg)) → ((x961 = p3 → Q x961 I957 L958) ∧ (¬ x961 = p3 → vp_in p2 3 ∧ (vp_in p1 16 ∧ (∀ I964 : TI, I964 = (up2 I957 ((b + 8) + p2.toNatClampNeg) (p1.toNatClampNeg) p3) → (W_X0_unsettle b p1 I964 L958 (fun (r965 : Int32) (I966 : TI) (L967 : TL) => Q x961 I966 L967)))))))))) ∧ (¬ p3 ≤ 9 → QX "java/lang/IllegalArgumentException" I L))))) (fun (e9 : String) => QX e9 I L)
def W_X8_toggle (p1 : Int32) (p2 : Int32) (I : TI) (L : TL) (b : Nat) (d : Nat) (Q : Int32 → TI → TL → Prop) (QX : String → TI → TL → Prop) : Prop :=
  (p1 < 0 → QX "java/util/NoSuchElementException" I L) ∧ (¬ p1 < 0 → (p1 < (I (b + 1) 4) → W_X2_hasTime (b + 1) p2 I L (fun (r977 : Int32) => (¬ r977 = 0 → W_X4_record (b + 6) I L (fun (I978 : TI) (L979 : TL) => vp_in p1 4 ∧ (W_X8_window p2 (I978 (b + 1) 6) I978 L979 (fun (r981 : Int64) => vp_in p1 4 ∧ (∀ L983 : TL, L983 = (up2 L979 (b + 11) (p1.toNatClampNeg) ((L979 (b + 11) (p1.toNatClampNeg)) ^^^ r981)) → (W_X0_unsettle b p1 I978 L983 (fun (r984 : Int32) (I985 : TI) (L986 : TL) => Q r984 I985 L986))))))) ∧ (r977 = 0 → QX "java/lang/IllegalArgumentException" I L))) ∧ (¬ p1 < (I (b + 1) 4) → QX "java/util/NoSuchElementException" I L))
def W_X8_deposit (p1 : Int32) (p2 : Int32) (I : TI) (L : TL) (b : Nat) (d : Nat) (Q : Int32 → TI → TL → Prop) (QX : String → TI → TL → Prop) : Prop :=
  (p1 < 0 → QX "java/lang/IllegalArgumentException" I L) ∧ (¬ p1 < 0 → (3 ≤ p1 → QX "java/lang/IllegalArgumentException" I L) ∧ (¬ 3 ≤ p1 → (p2 < 0 → QX "java/lang/IllegalArgumentException" I L) ∧ (¬ p2 < 0 → (p2 ≤ 99999 → vp_in p1 3 ∧ (∀ x992 : Int32, x992 = ((I (b + 15) (p1.toNatClampNeg)) + p2) → ((x992 ≤ 1000000 → W_X4_record (b + 6) I L (fun (I993 : TI) (L994 : TL) => vp_in p1 3 ∧ (Q x992 (up2 I993 (b + 15) (p1.toNatClampNeg) x992) L994))) ∧ (¬ x992 ≤ 1000000 → Q (-3) I L)))) ∧ (¬ p2 ≤ 99999 → QX "java/lang/IllegalArgumentException" I L))))
/-! the law writes a text of constants; the law feeds what it has written -/
def W_L_writes (p1 : Nat) (I : TI) (L : TL) (Q : TI → Prop) : Prop :=
  ∃ pl sz : Nat, p1 = 458 + pl ∧ pl < nJS ∧ I 436 1 = nI sz ∧ sz + lenJS.getD pl 0 ≤ 600 ∧ ∀ J : TI, (∀ a, a ≠ 436 → a ≠ 437 → J a = I a) → (∀ j, j ≠ 1 → J 436 j = I 436 j) → J 436 1 = nI (sz + lenJS.getD pl 0) → (∀ j, j < sz → J 437 j = I 437 j) → (∀ j, j < lenJS.getD pl 0 → J 437 (sz + j) = sch pl j) → Q J
def D_L_spaced_24 (v1 : Int32) (L : TL) (Q : TI → Prop) (R24 : Int32 → TI → Prop) (v2 : Int32) (I : TI) : Prop :=
  (v2 ≤ 0 → Q I) ∧ (¬ v2 ≤ 0 → ¬ v2 = 0 ∧ (vp_in (I 436 1) 600 ∧ (∀ I1004 : TI, I1004 = (up2 I 437 ((I 436 1).toNatClampNeg) ((48 : Int32) + (remI (v1 / v2) (10 : Int32)))) → (R24 (v2 / (10 : Int32)) (up2 I1004 436 1 ((I1004 436 1) + 1))))))
def L_L_spaced_24 (v1 : Int32) (L : TL) (Q : TI → Prop) : Nat → Int32 → TI → Prop
  | 0, _, _ => False
  | n9 + 1, v2, I => D_L_spaced_24 v1 L Q (fun v2 I => L_L_spaced_24 v1 L Q n9 v2 I) v2 I
def D_L_spaced_8 (v1 : Int32) (I : TI) (L : TL) (Q : TI → Prop) (R8 : Int32 → Prop) (v2 : Int32) : Prop :=
  ¬ v2 = 0 ∧ (((v1 / v2) ≤ 9 → ∃ n1006, L_L_spaced_24 v1 L Q n1006 v2 I) ∧ (¬ (v1 / v2) ≤ 9 → R8 (v2 * 10)))
def L_L_spaced_8 (v1 : Int32) (I : TI) (L : TL) (Q : TI → Prop) : Nat → Int32 → Prop
  | 0, _ => False
  | n9 + 1, v2 => D_L_spaced_8 v1 I L Q (fun v2 => L_L_spaced_8 v1 I L Q n9 v2) v2
def W_L_spaced (p1 : Int32) (I : TI) (L : TL) (Q : TI → Prop) : Prop :=
  W_L_writes 470 I L (fun (I1007 : TI) => ∃ n1008, L_L_spaced_8 p1 I1007 L Q n1008 (1 : Int32))
def W_L_cell (G : GT) (p1 : Int32) (I : TI) (L : TL) (Q : Int32 → Prop) : Prop :=
  ((nI (gL G)) ≤ p1 → Q 0) ∧ (¬ (nI (gL G)) ≤ p1 → vp_in p1 (gL G) ∧ (Q ((gx G p1.toNatClampNeg) &&& 1073741823)))
/-- four bytes of a text, the first one highest; behind its end there are spaces -/
def fdB (I : TI) (sz i : Nat) : Int32 := if i < sz then I 437 i else 32
def fdW (I : TI) (sz i : Nat) : Int32 := (((((((0 : Int32) <<< 8 ||| fdB I sz i) <<< 8) ||| fdB I sz (i + 1)) <<< 8) ||| fdB I sz (i + 2)) <<< 8) ||| fdB I sz (i + 3)
def fdL (Q : Int32 → TI → TL → Prop) (sz : Nat) : Nat → Nat → TI → TL → Prop
  | 0, _, _, _ => False
  | n + 1, j, I, L => (sz ≤ 20 * j → Q (nI sz) (up2 I 436 1 0) L) ∧ (20 * j < sz → ∀ I1 : TI, (∀ a, a ≠ 438 + j → I1 a = I a) → W_X8_feed (fdW I sz (20 * j)) (fdW I sz (20 * j + 4)) (fdW I sz (20 * j + 8)) (fdW I sz (20 * j + 12)) (fdW I sz (20 * j + 16)) I1 (clr L (438 + j) 0) (fun _ I2 => I2 436 1 = nI sz ∧ fdL Q sz n (j + 1) I2 (clr L (438 + j) 0)))
def W_L_feeds (I : TI) (L : TL) (Q : Int32 → TI → TL → Prop) : Prop :=
  ∃ n sz : Nat, sz ≤ 380 ∧ I 436 1 = nI sz ∧ fdL Q sz n 0 I L
def W_L_nets (I : TI) (L : TL) (Q : Int32 → Prop) : Prop :=
  Q ((I 436 3) + (I 436 4))
def W_L_word (p0 : Int32) (I : TI) (L : TL) (Q : Nat → Prop) : Prop :=
  (¬ p0 = 0 → (¬ p0 = 1 → (¬ p0 = 2 → (¬ p0 = 3 → (¬ p0 = 4 → (¬ p0 = 5 → Q 478) ∧ (p0 = 5 → Q 477)) ∧ (p0 = 4 → Q 476)) ∧ (p0 = 3 → Q 475)) ∧ (p0 = 2 → Q 474)) ∧ (p0 = 1 → Q 473)) ∧ (p0 = 0 → Q 472)
def B_L_gate_38 (v1 : Int32) (I : TI) (L : TL) (Q : TI → Prop) : Prop :=
  W_L_spaced ((1 : Int32) + (remI (v1 / (1001 : Int32)) (5 : Int32))) I L (fun (I1031 : TI) => W_L_spaced ((1 : Int32) + (remI (v1 / (5005 : Int32)) (5 : Int32))) I1031 L (fun (I1032 : TI) => W_L_spaced ((1 : Int32) + (remI (v1 / (25025 : Int32)) (3 : Int32))) I1032 L (fun (I1033 : TI) => W_L_writes 471 I1033 L (fun (I1034 : TI) => Q I1034))))
def W_L_gate (p1 : Int32) (p2 : Int32) (I : TI) (L : TL) (Q : TI → Prop) : Prop :=
  W_L_word (remI p1 (7 : Int32)) I L (fun (r1035 : Nat) => W_L_writes r1035 I L (fun (I1036 : TI) => ¬ p2 = 0 ∧ (W_L_spaced (remI (p1 / (7 : Int32)) p2) I1036 L (fun (I1038 : TI) => (5 ≤ (remI p1 (7 : Int32)) → B_L_gate_38 p1 I1038 L Q) ∧ (¬ 5 ≤ (remI p1 (7 : Int32)) → ¬ p2 = 0 ∧ (W_L_spaced (remI (p1 / (91 : Int32)) p2) I1038 L (fun (I1040 : TI) => B_L_gate_38 p1 I1040 L Q)))))))
def D_L_tells_217 (G : GT) (L : TL) (b : Nat) (d : Nat) (t : Nat) (Q : Int32 → TI → TL → Nat → Nat → Nat → Prop) (QX : String → TI → TL → Nat → Nat → Nat → Prop) (R217 : Int32 → TI → Prop) (v4 : Int32) (I : TI) : Prop :=
  ((I 436 4) ≤ v4 → W_L_writes 469 I L (fun (I1135 : TI) => W_L_cell G (11 : Int32) I1135 L (fun (r1136 : Int32) => W_L_spaced (remI r1136 (300 : Int32)) I1135 L (fun (I1137 : TI) => W_L_cell G (11 : Int32) I1137 L (fun (r1138 : Int32) => W_L_spaced (remI (r1138 / (300 : Int32)) (300 : Int32)) I1137 L (fun (I1139 : TI) => W_L_cell G (11 : Int32) I1139 L (fun (r1140 : Int32) => W_L_spaced (remI (r1140 / (90000 : Int32)) (900 : Int32)) I1139 L (fun (I1141 : TI) => W_L_writes 471 I1141 L (fun (I1142 : TI) => W_L_feeds I1142 L (fun (r1143 : Int32) (I1144 : TI) (L1145 : TL) => W_X8_load r1143 I1144 L1145 b d t (fun (r1146 : Int32) (I1147 : TI) (L1148 : TL) (b1149 : Nat) (d1150 : Nat) (t1151 : Nat) => bnOK b1149 ∧ (bnOK d1150 ∧ (txOK t1151 ∧ (W_L_nets I1147 L1148 (fun (r1155 : Int32) => (¬ r1146 = r1155 → Q 0 I1147 L1148 b1149 d1150 t1151) ∧ (r1146 = r1155 → W_X8_size (0 : Int32) I1147 L1148 b1149 d1150 (fun (r1156 : Int32) => (¬ r1156 = (I1147 436 3) → Q 0 I1147 L1148 b1149 d1150 t1151) ∧ (r1156 = (I1147 436 3) → W_X8_size (1 : Int32) I1147 L1148 b1149 d1150 (fun (r1157 : Int32) => (¬ r1157 = (I1147 436 4) → Q 0 I1147 L1148 b1149 d1150 t1151) ∧ (r1157 = (I1147 436 4) → W_X8_size (2 : Int32) I1147 L1148 b1149 d1150 (fun (r1158 : Int32) => (r1158 = (I1147 436 2) → W_X8_errorPosition I1147 L1148 (fun (r1159 : Int32) => (¬ r1159 = (-1) → Q 0 I1147 L1148 b1149 d1150 t1151) ∧ (r1159 = (-1) → W_X8_size (4 : Int32) I1147 L1148 b1149 d1150 (fun (r1160 : Int32) => (¬ r1160 = (I1147 436 5) → Q 0 I1147 L1148 b1149 d1150 t1151) ∧ (r1160 = (I1147 436 5) → W_X8_size (5 : Int32) I1147 L1148 b1149 d1150 (fun (r1161 : Int32) => (¬ r1161 = (I1147 436 6) → Q 0 I1147 L1148 b1149 d1150 t1151) ∧ (r1161 = (I1147 436 6) → W_X8_size (6 : Int32) I1147 L1148 b1149 d1150 (fun (r1162 : Int32) => (¬ r1162 = 0 → Q 0 I1147 L1148 b1149 d1150 t1151) ∧ (r1162 = 0 → Q 1 I1147 L1148 b1149 d1150 t1151)) (fun (e9 : String) => QX e9 I1147 L1148 b1149 d1150 t1151))) (fun (e9 : String) => QX e9 I1147 L1148 b1149 d1150 t1151))) (fun (e9 : String) => QX e9 I1147 L1148 b1149 d1150 t1151)))) ∧ (¬ r1158 = (I1147 436 2) → Q 0 I1147 L1148 b1149 d1150 t1151)) (fun (e9 : String) => QX e9 I1147 L1148 b1149 d1150 t1151))) (fun (e9 : String) => QX e9 I1147 L1148 b1149 d1150 t1151))) (fun (e9 : String) => QX e9 I1147 L1148 b1149 d1150 t1151))))))) (fun (e9 : String) (I8 : TI) (L8 : TL) (b8 : Nat) (d8 : Nat) (t8 : Nat) => QX e9 I8 L8 b8 d8 t8))))))))))) ∧ (¬ (I 436 4) ≤ v4 → W_L_cell G ((4 : Int32) + v4) I L (fun (r1163 : Int32) => W_L_gate r1163 ((I 436 3) + v4) I L (fun (I1164 : TI) => R217 (v4 + 1) I1164)))
def L_L_tells_217 (G : GT) (L : TL) (b : Nat) (d : Nat) (t : Nat) (Q : Int32 → TI → TL → Nat → Nat → Nat → Prop) (QX : String → TI → TL → Nat → Nat → Nat → Prop) : Nat → Int32 → TI → Prop
  | 0, _, _ => False
  | n9 + 1, v4, I => D_L_tells_217 G L b d t Q QX (fun v4 I => L_L_tells_217 G L b d t Q QX n9 v4 I) v4 I
def B_L_tells_196 (G : GT) (v4 : Int32) (v5 : Int32) (v6 : Int32) (v7 : Int32) (I : TI) (L : TL) (b : Nat) (d : Nat) (t : Nat) (Q : Int32 → TI → TL → Nat → Nat → Nat → Prop) (QX : String → TI → TL → Nat → Nat → Nat → Prop) (R118 : Int32 → TI → Prop) (R157 : Int32 → Int32 → TI → Prop) : Prop :=
  R157 v6 (v7 + 1) I
def D_L_tells_157 (G : GT) (v4 : Int32) (v5 : Int32) (L : TL) (b : Nat) (d : Nat) (t : Nat) (Q : Int32 → TI → TL → Nat → Nat → Nat → Prop) (QX : String → TI → TL → Nat → Nat → Nat → Prop) (R118 : Int32 → TI → Prop) (R157 : Int32 → Int32 → TI → Prop) (v6 : Int32) (v7 : Int32) (I : TI) : Prop :=
  (9 ≤ v7 → W_L_writes 471 I L (fun (I1165 : TI) => R118 (v4 + 1) I1165)) ∧ (¬ 9 ≤ v7 → ∀ x1166 : Int32, x1166 = (v6 + ((1 : Int32) + ((v5 >>> (((3 : Int32) * v7) &&& 31)) &&& 7))) → (((I 436 2) < x1166 → B_L_tells_196 G v4 v5 x1166 v7 I L b d t Q QX R118 R157) ∧ (¬ (I 436 2) < x1166 → W_L_spaced x1166 I L (fun (I1167 : TI) => B_L_tells_196 G v4 v5 x1166 v7 I1167 L b d t Q QX R118 R157))))
def L_L_tells_157 (G : GT) (v4 : Int32) (v5 : Int32) (L : TL) (b : Nat) (d : Nat) (t : Nat) (Q : Int32 → TI → TL → Nat → Nat → Nat → Prop) (QX : String → TI → TL → Nat → Nat → Nat → Prop) (R118 : Int32 → TI → Prop) : Nat → Int32 → Int32 → TI → Prop
  | 0, _, _, _ => False
  | n9 + 1, v6, v7, I => D_L_tells_157 G v4 v5 L b d t Q QX R118 (fun v6 v7 I => L_L_tells_157 G v4 v5 L b d t Q QX R118 n9 v6 v7 I) v6 v7 I
def D_L_tells_118 (G : GT) (L : TL) (b : Nat) (d : Nat) (t : Nat) (Q : Int32 → TI → TL → Nat → Nat → Nat → Prop) (QX : String → TI → TL → Nat → Nat → Nat → Prop) (R118 : Int32 → TI → Prop) (v4 : Int32) (I : TI) : Prop :=
  ((I 436 3) ≤ v4 → ∃ n1168, L_L_tells_217 G L b d t Q QX n1168 (0 : Int32) I) ∧ (¬ (I 436 3) ≤ v4 → W_L_cell G ((1 : Int32) + v4) I L (fun (r1169 : Int32) => W_L_writes 460 I L (fun (I1170 : TI) => W_L_spaced (remI r1169 (2 : Int32)) I1170 L (fun (I1171 : TI) => ∃ n1172, L_L_tells_157 G v4 r1169 L b d t Q QX R118 n1172 (0 : Int32) (0 : Int32) I1171))))
def L_L_tells_118 (G : GT) (L : TL) (b : Nat) (d : Nat) (t : Nat) (Q : Int32 → TI → TL → Nat → Nat → Nat → Prop) (QX : String → TI → TL → Nat → Nat → Nat → Prop) : Nat → Int32 → TI → Prop
  | 0, _, _ => False
  | n9 + 1, v4, I => D_L_tells_118 G L b d t Q QX (fun v4 I => L_L_tells_118 G L b d t Q QX n9 v4 I) v4 I
def W_L_tells (G : GT) (I : TI) (L : TL) (b : Nat) (d : Nat) (t : Nat) (Q : Int32 → TI → TL → Nat → Nat → Nat → Prop) (QX : String → TI → TL → Nat → Nat → Nat → Prop) : Prop :=
  W_L_cell G (0 : Int32) I L (fun (r1173 : Int32) => ∀ I1174 : TI, I1174 = (up2 (up2 I 436 2 ((10 : Int32) + (remI r1173 (41 : Int32)))) 436 3 ((1 : Int32) + (remI (r1173 / (41 : Int32)) (3 : Int32)))) → (∀ I1175 : TI, I1175 = (up2 I1174 436 4 ((1 : Int32) + (remI (r1173 / (123 : Int32)) (7 : Int32)))) → (∀ I1176 : TI, I1176 = (up2 (up2 I1175 436 5 (remI (r1173 / (861 : Int32)) (4 : Int32))) 436 6 (remI (r1173 / (3444 : Int32)) (9 : Int32))) → (W_L_writes 459 I1176 L (fun (I1177 : TI) => W_L_spaced (I1177 436 2) I1177 L (fun (I1178 : TI) => W_L_spaced ((1 : Int32) + (remI (r1173 / (30996 : Int32)) (9 : Int32))) I1178 L (fun (I1179 : TI) => W_L_spaced (I1179 436 5) I1179 L (fun (I1180 : TI) => W_L_spaced (I1180 436 6) I1180 L (fun (I1181 : TI) => W_L_writes 471 I1181 L (fun (I1182 : TI) => ∃ n1183, L_L_tells_118 G L b d t Q QX n1183 (0 : Int32) I1182))))))))))
def B_L_disputes_56 (v2 : Int32) (s1 : Int32) (s2 : Int32) (s3 : Int32) (s4 : Int32) (I : TI) (L : TL) (b : Nat) (d : Nat) (Q : TI → TL → Prop) (QX : String → TI → TL → Prop) : Prop :=
  W_X8_open s1 s2 s3 s4 I L b d (fun (r1214 : Int32) (I1215 : TI) (L1216 : TL) => (r1214 < 0 → Q I1215 L1216) ∧ (¬ r1214 < 0 → W_X8_judge r1214 I1215 L1216 b d (fun (r1217 : Int32) (I1218 : TI) (L1219 : TL) => (0 ≤ r1217 → (¬ (remI (v2 / (96 : Int32)) (3 : Int32)) = 0 → (¬ (remI (v2 / (96 : Int32)) (3 : Int32)) = 1 → Q I1218 L1219) ∧ ((remI (v2 / (96 : Int32)) (3 : Int32)) = 1 → W_X8_appeal r1214 I1218 L1219 b d (fun (r1220 : Int32) (I1221 : TI) (L1222 : TL) => Q I1221 L1222) (fun (e9 : String) (I8 : TI) (L8 : TL) => QX e9 I8 L8))) ∧ ((remI (v2 / (96 : Int32)) (3 : Int32)) = 0 → W_X8_accept r1214 I1218 L1219 b d (fun (r1223 : Int32) (I1224 : TI) (L1225 : TL) => Q I1224 L1225) (fun (e9 : String) (I8 : TI) (L8 : TL) => QX e9 I8 L8))) ∧ (¬ 0 ≤ r1217 → Q I1218 L1219)) (fun (e9 : String) (I8 : TI) (L8 : TL) => QX e9 I8 L8))) (fun (e9 : String) (I8 : TI) (L8 : TL) => QX e9 I8 L8)
def W_L_disputes (p2 : Int32) (I : TI) (L : TL) (b : Nat) (d : Nat) (Q : TI → TL → Prop) (QX : String → TI → TL → Prop) : Prop :=
  ¬ (I 436 4) = 0 ∧ (∀ x1227 : Int32, x1227 = ((I 436 3) + (remI p2 (I 436 4))) → (W_X8_gate x1227 (9 : Int32) I L b d (fun (r1228 : Int32) => (¬ r1228 = 0 → ¬ r1228 = 0 ∧ ((¬ (remI (p2 / (48 : Int32)) (2 : Int32)) = 0 → B_L_disputes_56 p2 (remI (p2 / (12 : Int32)) (2 : Int32)) x1227 (remI (p2 / (24 : Int32)) r1228) (0 : Int32) I L b d Q QX) ∧ ((remI (p2 / (48 : Int32)) (2 : Int32)) = 0 → B_L_disputes_56 p2 (remI (p2 / (12 : Int32)) (2 : Int32)) x1227 (remI (p2 / (24 : Int32)) r1228) (1 : Int32) I L b d Q QX))) ∧ (r1228 = 0 → Q I L)) (fun (e9 : String) => QX e9 I L)))
def W_L_net (p1 : Int32) (I : TI) (L : TL) (Q : Int32 → Prop) : Prop :=
  ¬ (I 436 4) = 0 ∧ (Q ((I 436 3) + (remI p1 (I 436 4))))
def W_L_purses (I : TI) (L : TL) (b : Nat) (d : Nat) (Q : Int32 → Prop) (QX : String → Prop) : Prop :=
  W_X8_size (7 : Int32) I L b d (fun (r1235 : Int32) => W_X8_size (8 : Int32) I L b d (fun (r1236 : Int32) => W_X8_size (9 : Int32) I L b d (fun (r1237 : Int32) => Q ((r1235 + r1236) + r1237)) (fun (e9 : String) => QX e9)) (fun (e9 : String) => QX e9)) (fun (e9 : String) => QX e9)
def W_L_acts (p2 : Int32) (I : TI) (L : TL) (b : Nat) (d : Nat) (Q : Int32 → TI → TL → Prop) (QX : String → TI → TL → Prop) : Prop :=
  ((remI p2 (6 : Int32)) = 0 → ¬ ((I 436 2) + 1) = 0 ∧ (∀ x1261 : Int32, x1261 = (remI (p2 / (6 : Int32)) ((I 436 2) + 1)) → (¬ (((I 436 2) + 1) - x1261) = 0 ∧ (∀ x1263 : Int32, x1263 = (x1261 + (remI ((p2 / (6 : Int32)) / (64 : Int32)) (((I 436 2) + 1) - x1261))) → (W_L_net ((p2 / (6 : Int32)) / (4096 : Int32)) I L (fun (r1264 : Int32) => W_X8_cost r1264 x1261 x1263 I L b d (fun (r1265 : Int32) => W_L_net ((p2 / (6 : Int32)) / (4096 : Int32)) I L (fun (r1266 : Int32) => W_X8_replay r1266 x1261 x1263 I L b d (fun (r1267 : Int32) (I1268 : TI) (L1269 : TL) => (0 ≤ r1267 → Q (-r1265) I1268 L1269) ∧ (¬ 0 ≤ r1267 → Q 0 I1268 L1269)) (fun (e9 : String) (I8 : TI) (L8 : TL) => QX e9 I8 L8))) (fun (e9 : String) => QX e9 I L))))))) ∧ ((remI p2 (6 : Int32)) = 1 → ∀ x1270 : Int32, x1270 = (remI ((p2 / (6 : Int32)) / (3 : Int32)) (200 : Int32)) → (W_X8_deposit (remI (p2 / (6 : Int32)) (3 : Int32)) x1270 I L b d (fun (r1271 : Int32) (I1272 : TI) (L1273 : TL) => (0 ≤ r1271 → Q x1270 I1272 L1273) ∧ (¬ 0 ≤ r1271 → Q 0 I1272 L1273)) (fun (e9 : String) (I8 : TI) (L8 : TL) => QX e9 I8 L8))) ∧ ((remI p2 (6 : Int32)) = 2 → W_L_net (p2 / (6 : Int32)) I L (fun (r1274 : Int32) => W_X8_setDelay r1274 (remI ((p2 / (6 : Int32)) / (8 : Int32)) (3 : Int32)) ((1 : Int32) + (remI ((p2 / (6 : Int32)) / (24 : Int32)) (9 : Int32))) I L b d (fun (r1275 : Int32) (I1276 : TI) (L1277 : TL) => Q 0 I1276 L1277) (fun (e9 : String) (I8 : TI) (L8 : TL) => QX e9 I8 L8))) ∧ ((remI p2 (6 : Int32)) = 3 → ¬ (I 436 3) = 0 ∧ (¬ ((I 436 2) + 1) = 0 ∧ (W_X8_toggle (remI (p2 / (6 : Int32)) (I 436 3)) (remI ((p2 / (6 : Int32)) / (4 : Int32)) ((I 436 2) + 1)) I L b d (fun (r1280 : Int32) (I1281 : TI) (L1282 : TL) => Q 0 I1281 L1282) (fun (e9 : String) (I8 : TI) (L8 : TL) => QX e9 I8 L8)))) ∧ ((remI p2 (6 : Int32)) < 0 ∨ 3 < (remI p2 (6 : Int32)) → W_L_disputes (p2 / (6 : Int32)) I L b d (fun (I1283 : TI) (L1284 : TL) => Q 0 I1283 L1284) (fun (e9 : String) (I8 : TI) (L8 : TL) => QX e9 I8 L8))
def B_L_isShown_157 (v2 : Int32) (v3 : Int64) (v8 : Int32) (v9 : Int32) (s0 : Int32) (I : TI) (L : TL) (b : Nat) (d : Nat) (Q : Int32 → Prop) (QX : String → Prop) (R111 : Int32 → Int32 → Prop) : Prop :=
  R111 s0 (v9 + 1)
def B_L_isShown_156 (v2 : Int32) (v3 : Int64) (v8 : Int32) (v9 : Int32) (I : TI) (L : TL) (b : Nat) (d : Nat) (Q : Int32 → Prop) (QX : String → Prop) (R111 : Int32 → Int32 → Prop) : Prop :=
  B_L_isShown_157 v2 v3 v8 v9 (0 : Int32) I L b d Q QX R111
def B_L_isShown_152 (v2 : Int32) (v3 : Int64) (v8 : Int32) (v9 : Int32) (I : TI) (L : TL) (b : Nat) (d : Nat) (Q : Int32 → Prop) (QX : String → Prop) (R111 : Int32 → Int32 → Prop) : Prop :=
  B_L_isShown_157 v2 v3 v8 v9 (1 : Int32) I L b d Q QX R111
def D_L_isShown_111 (v2 : Int32) (v3 : Int64) (v8 : Int32) (I : TI) (L : TL) (b : Nat) (d : Nat) (Q : Int32 → Prop) (QX : String → Prop) (R111 : Int32 → Int32 → Prop) (v7 : Int32) (v9 : Int32) : Prop :=
  (v2 < v9 → (v7 = 0 → Q 1) ∧ (¬ v7 = 0 → W_X8_wave v2 (1 : Int32) I L b d (fun (r1314 : Int64) => (¬ v3 = r1314 → Q 0) ∧ (v3 = r1314 → Q 1)) (fun (e9 : String) => QX e9))) ∧ (¬ v2 < v9 → (v7 = 0 → B_L_isShown_156 v2 v3 v8 v9 I L b d Q QX R111) ∧ (¬ v7 = 0 → (((v8 >>> (v9 &&& 31)) &&& 1) = 0 → B_L_isShown_152 v2 v3 v8 v9 I L b d Q QX R111) ∧ (¬ ((v8 >>> (v9 &&& 31)) &&& 1) = 0 → W_X8_gate v9 (7 : Int32) I L b d (fun (r1315 : Int32) => W_X8_gate v9 (8 : Int32) I L b d (fun (r1316 : Int32) => (¬ (r1315 + r1316) = 0 → B_L_isShown_156 v2 v3 v8 v9 I L b d Q QX R111) ∧ ((r1315 + r1316) = 0 → B_L_isShown_152 v2 v3 v8 v9 I L b d Q QX R111)) (fun (e9 : String) => QX e9)) (fun (e9 : String) => QX e9))))
def L_L_isShown_111 (v2 : Int32) (v3 : Int64) (v8 : Int32) (I : TI) (L : TL) (b : Nat) (d : Nat) (Q : Int32 → Prop) (QX : String → Prop) : Nat → Int32 → Int32 → Prop
  | 0, _, _ => False
  | n9 + 1, v7, v9 => D_L_isShown_111 v2 v3 v8 I L b d Q QX (fun v7 v9 => L_L_isShown_111 v2 v3 v8 I L b d Q QX n9 v7 v9) v7 v9
def B_L_isShown_60 (v2 : Int32) (v3 : Int64) (v5 : Int64) (v7 : Int32) (v8 : Int32) (I : TI) (L : TL) (b : Nat) (d : Nat) (Q : Int32 → Prop) (QX : String → Prop) (R21 : Int32 → Prop) : Prop :=
  R21 (v8 + 1)
def D_L_isShown_21 (v2 : Int32) (v3 : Int64) (v5 : Int64) (v7 : Int32) (I : TI) (L : TL) (b : Nat) (d : Nat) (Q : Int32 → Prop) (QX : String → Prop) (R21 : Int32 → Prop) (v8 : Int32) : Prop :=
  ((I 436 2) < v8 → ((I 436 3) ≤ v2 → W_X8_dependsOn v2 I L b d (fun (r1317 : Int32) => ∃ n1318, L_L_isShown_111 v2 v3 r1317 I L b d Q QX n1318 v7 (I 436 3)) (fun (e9 : String) => QX e9)) ∧ (¬ (I 436 3) ≤ v2 → (¬ v3 = v5 → Q 0) ∧ (v3 = v5 → W_X8_wave v2 (1 : Int32) I L b d (fun (r1319 : Int64) => (¬ v3 = r1319 → Q 0) ∧ (v3 = r1319 → Q 1)) (fun (e9 : String) => QX e9)))) ∧ (¬ (I 436 2) < v8 → W_X8_stateAt v2 v8 I L b d (fun (r1320 : Int32) => (¬ r1320 = 2 → B_L_isShown_60 v2 v3 v5 v7 v8 I L b d Q QX R21) ∧ (r1320 = 2 → (((shrL v3 v8) &&& 1) = ((shrL v5 v8) &&& 1) → B_L_isShown_60 v2 v3 v5 v7 v8 I L b d Q QX R21) ∧ (¬ ((shrL v3 v8) &&& 1) = ((shrL v5 v8) &&& 1) → Q 0))) (fun (e9 : String) => QX e9))
def L_L_isShown_21 (v2 : Int32) (v3 : Int64) (v5 : Int64) (v7 : Int32) (I : TI) (L : TL) (b : Nat) (d : Nat) (Q : Int32 → Prop) (QX : String → Prop) : Nat → Int32 → Prop
  | 0, _ => False
  | n9 + 1, v8 => D_L_isShown_21 v2 v3 v5 v7 I L b d Q QX (fun v8 => L_L_isShown_21 v2 v3 v5 v7 I L b d Q QX n9 v8) v8
def W_L_isShown (p2 : Int32) (I : TI) (L : TL) (b : Nat) (d : Nat) (Q : Int32 → Prop) (QX : String → Prop) : Prop :=
  W_X8_wave p2 (0 : Int32) I L b d (fun (r1321 : Int64) => W_X8_wave p2 (2 : Int32) I L b d (fun (r1322 : Int64) => ∃ n1323, L_L_isShown_21 p2 r1321 r1322 (1 : Int32) I L b d Q QX n1323 (0 : Int32)) (fun (e9 : String) => QX e9)) (fun (e9 : String) => QX e9)
def D_L_holds_43 (G : GT) (v3 : Int32) (v4 : Int32) (I : TI) (L : TL) (b : Nat) (d : Nat) (Q : Int32 → TI → TL → Prop) (QX : String → TI → TL → Prop) (R9 : Int32 → Int32 → TI → TL → Prop) (R43 : Int32 → Prop) (v5 : Int32) : Prop :=
  W_L_nets I L (fun (r1338 : Int32) => (r1338 ≤ v5 → R9 v3 (v4 + 1) I L) ∧ (¬ r1338 ≤ v5 → W_L_isShown v5 I L b d (fun (r1339 : Int32) => (¬ r1339 = 0 → R43 (v5 + 1)) ∧ (r1339 = 0 → Q 0 I L)) (fun (e9 : String) => QX e9 I L)))
def L_L_holds_43 (G : GT) (v3 : Int32) (v4 : Int32) (I : TI) (L : TL) (b : Nat) (d : Nat) (Q : Int32 → TI → TL → Prop) (QX : String → TI → TL → Prop) (R9 : Int32 → Int32 → TI → TL → Prop) : Nat → Int32 → Prop
  | 0, _ => False
  | n9 + 1, v5 => D_L_holds_43 G v3 v4 I L b d Q QX R9 (fun v5 => L_L_holds_43 G v3 v4 I L b d Q QX R9 n9 v5) v5
def D_L_holds_9 (G : GT) (b : Nat) (d : Nat) (Q : Int32 → TI → TL → Prop) (QX : String → TI → TL → Prop) (R9 : Int32 → Int32 → TI → TL → Prop) (v3 : Int32) (v4 : Int32) (I : TI) (L : TL) : Prop :=
  (30 ≤ v4 → Q 1 I L) ∧ (¬ 30 ≤ v4 → W_L_cell G v4 I L (fun (r1340 : Int32) => W_L_acts r1340 I L b d (fun (r1341 : Int32) (I1342 : TI) (L1343 : TL) => W_L_purses I1342 L1343 b d (fun (r1344 : Int32) => (r1344 = (v3 + r1341) → ∃ n1345, L_L_holds_43 G (v3 + r1341) v4 I1342 L1343 b d Q QX R9 n1345 (0 : Int32)) ∧ (¬ r1344 = (v3 + r1341) → Q 0 I1342 L1343)) (fun (e9 : String) => QX e9 I1342 L1343)) (fun (e9 : String) (I8 : TI) (L8 : TL) => QX e9 I8 L8)))
def L_L_holds_9 (G : GT) (b : Nat) (d : Nat) (Q : Int32 → TI → TL → Prop) (QX : String → TI → TL → Prop) : Nat → Int32 → Int32 → TI → TL → Prop
  | 0, _, _, _, _ => False
  | n9 + 1, v3, v4, I, L => D_L_holds_9 G b d Q QX (fun v3 v4 I L => L_L_holds_9 G b d Q QX n9 v3 v4 I L) v3 v4 I L
def W_L_holds (G : GT) (I : TI) (L : TL) (b : Nat) (d : Nat) (Q : Int32 → TI → TL → Prop) (QX : String → TI → TL → Prop) : Prop :=
  W_L_purses I L b d (fun (r1346 : Int32) => ∃ n1347, L_L_holds_9 G b d Q QX n1347 r1346 (12 : Int32) I L) (fun (e9 : String) => QX e9 I L)
