/-! disputes: dispute, disputes, misjudged -/
section DISP
variable {I J : TI} {L M : TL} {b d B : Nat} {X : XT}
def dF (r : RW) (k f : Nat) : Int32 := (r (81 + 8 * k + f)).toInt32
def dN (r : RW) (k : Nat) : Nat := un (r (81 + 8 * k))
def dA (r : RW) (k : Nat) : Nat := un (r (82 + 8 * k))
def dE (r : RW) (k : Nat) : Nat := un (r (83 + 8 * k))
theorem i64_back (x : Int32) : x.toInt64.toInt32 = x := by
  rw [← Int32.toInt_inj]
  simp
theorem SC.ds {C : CQ} {r : RW} {a k f : Nat} (h : SC I L a C r) (hk : k < un (r 4)) (hf : f < 8) : I (a + 11 + k) f = dF r k f := by
  unfold dF
  rw [← h.2.2.2.2.2 k hk f hf, i64_back]
/-- what a dispute of a sound row is -/
theorem RV.ds {C : CQ} {r : RW} {k : Nat} (h : RV C B r) (hC : CV C) (hk : k < un (r 4)) : (cI C ≤ dN r k ∧ dN r k < cI C + cG C) ∧ (1 ≤ dA r k ∧ dA r k ≤ dE r k ∧ dE r k < cH C) ∧ dF r k 0 = nI (dN r k) ∧ dF r k 1 = nI (dA r k) ∧ dF r k 2 = nI (dE r k) ∧ (dF r k 3 = 0 ∨ dF r k 3 = 1) ∧ (dF r k 4 = 0 ∨ dF r k 4 = 1) ∧ (dF r k 5 = 0 ∨ dF r k 5 = 1) ∧ (∃ s, s ≤ 4 ∧ dF r k 6 = nI s) ∧ ((dF r k 7 = -1 ∧ dF r k 6 ≠ 1) ∨ dF r k 7 = 0 ∨ dF r k 7 = 1) := by
  have hI := hC.1
  have hG := hC.2.1
  have hH := hC.2.2.1
  obtain ⟨⟨g, g1, g2⟩, ⟨a, e, a1, a2, a3, a4, a5⟩, p3, p4, p5, ⟨s, s1, s2⟩, p7⟩ := h.2.2.2.2.2 k hk
  have e0 : dN r k = cI C + g := by unfold dN; rw [g2, un_lN (by omega)]
  have e1 : dA r k = a := by unfold dA; rw [a4, un_lN (by omega)]
  have e2 : dE r k = e := by unfold dE; rw [a5, un_lN (by omega)]
  have z : ∀ x : Int64, (x = 0 → x.toInt32 = 0) ∧ (x = 1 → x.toInt32 = 1) ∧ (x = -1 → x.toInt32 = -1) := fun x => ⟨fun q => by rw [q]; rfl, fun q => by rw [q]; rfl, fun q => by rw [q]; rfl⟩
  have f1 : dF r k 1 = (r (82 + 8 * k)).toInt32 := by unfold dF; rw [show 81 + 8 * k + 1 = 82 + 8 * k by omega]
  have f2 : dF r k 2 = (r (83 + 8 * k)).toInt32 := by unfold dF; rw [show 81 + 8 * k + 2 = 83 + 8 * k by omega]
  have f3 : dF r k 3 = (r (84 + 8 * k)).toInt32 := by unfold dF; rw [show 81 + 8 * k + 3 = 84 + 8 * k by omega]
  have f4 : dF r k 4 = (r (85 + 8 * k)).toInt32 := by unfold dF; rw [show 81 + 8 * k + 4 = 85 + 8 * k by omega]
  have f5 : dF r k 5 = (r (86 + 8 * k)).toInt32 := by unfold dF; rw [show 81 + 8 * k + 5 = 86 + 8 * k by omega]
  have f6 : dF r k 6 = (r (87 + 8 * k)).toInt32 := by unfold dF; rw [show 81 + 8 * k + 6 = 87 + 8 * k by omega]
  have f7 : dF r k 7 = (r (88 + 8 * k)).toInt32 := by unfold dF; rw [show 81 + 8 * k + 7 = 88 + 8 * k by omega]
  rw [f1, f2, f3, f4, f5, f6, f7]
  refine ⟨by omega, by omega, un_i _, un_i _, un_i _, p3.imp (z _).1 (z _).2.1, p4.imp (z _).1 (z _).2.1, p5.imp (z _).1 (z _).2.1, ⟨s, s1, by rw [s2, lN_i]⟩, ?_⟩
  · rcases p7 with ⟨q1, q2⟩ | q1 | q1
    · refine Or.inl ⟨(z _).2.2 q1, fun q3 => ?_⟩
      rw [s2, lN_i] at q3
      have := (nI_eq (a := s) (b := 1) (by omega) (by omega)).mp q3
      rw [s2, this] at q2
      exact q2 rfl
    · exact Or.inr (Or.inl ((z _).1 q1))
    · exact Or.inr (Or.inr ((z _).2.1 q1))
theorem c_rd1 {Q : Nat → Prop} {QX : String → Prop} {x : Int32} {k : Nat} (h : INV I L b d X B) (hx : x = nI k) (hk : k < un (xr X 4)) (q : Q (b + 17 + k)) : W_X8_requireDispute x I L b d Q QX := by
  have hc := h.r.2.2.1
  subst hx
  have e : I (b + 6) 7 = nI (un (xr X 4)) := h.bc.2.1.2.2.1
  unfold W_X8_requireDispute
  rw [e, pk_cl k rfl (by omega)]
  exact ⟨fun z => absurd z (nI_pos (by omega)), fun _ => ⟨fun _ => ⟨pk_in k 20 (by omega) rfl, q⟩, fun z => absurd (nI_lt hk (by omega)) z⟩⟩
theorem c_rd0 {Q : Nat → Prop} {QX : String → Prop} {x : Int32} (h : INV I L b d X B) (hx : ¬ rg x 0 (un (xr X 4))) (q : QX NSE) : W_X8_requireDispute x I L b d Q QX := by
  have hc := h.r.2.2.1
  have e : I (b + 6) 7 = nI (un (xr X 4)) := h.bc.2.1.2.2.1
  have key := rg_iff (x := x) (a := 0) (c := un (xr X 4)) (by omega) (by omega)
  unfold W_X8_requireDispute
  rw [e]
  exact ⟨fun _ => q, fun z => ⟨fun z2 => absurd (key.mpr ⟨lt_nle.mp z, z2⟩) hx, fun _ => q⟩⟩
theorem dis_l (h : INV I L b d X B) {k : Nat} (hk : k < 20) : LAY (b + 17 + k) = 2 := st_disl (bn_st h.2.2.1.1) hk
theorem INV.ds (h : INV I L b d X B) {k f : Nat} (hk : k < un (xr X 4)) (hf : f < 8) : I (b + 17 + k) f = dF (xr X) k f := by
  have := h.bc.2.1.ds hk hf
  rw [show b + 6 + 11 + k = b + 17 + k by omega] at this
  exact this
/-- who has lost by a verdict -/
def loF (r : RW) (k : Nat) (v : Int32) : Int32 := if dF r k 5 = v then 1 - dF r k 4 else dF r k 4
theorem c_loser {Q : Int32 → Prop} {k : Nat} {v : Int32} (h : INV I L b d X B) (hk : k < un (xr X 4)) (hv : v = 0 ∨ v = 1) (q : Q (loF (xr X) k v)) : W_X3_loserBy (b + 17 + k) v I L Q := by
  unfold loF at q
  unfold W_X3_loserBy B_X3_loserBy_17
  rw [h.ds hk (by omega), h.ds hk (by omega)]
  have fin : ∀ s, s = v → ((¬ s = dF (xr X) k 5 → Q (dF (xr X) k 4)) ∧ (s = dF (xr X) k 5 → Q ((1 : Int32) - dF (xr X) k 4))) := by
    rintro s rfl
    refine ⟨fun e => ?_, fun e => ?_⟩
    · rw [if_neg (fun z => e z.symm)] at q
      exact q
    · rw [if_pos e.symm] at q
      exact q
  refine ⟨fun _ => ⟨fun e => fin 0 ?_, fun e => fin 1 e.symm⟩, fun e => ?_⟩
  · rcases hv with z | z
    · exact z.symm
    · exact absurd z e
  · rcases hv with z | z <;> rw [z] at e <;> exact absurd e (by decide)
theorem c_stake {Q : Int32 → Prop} {k : Nat} (h : INV I L b d X B) (hk : k < un (xr X 4)) (q : Q (prF (xC X) (dN (xr X) k) (dF (xr X) k 1) (dF (xr X) k 2))) : W_X0_price b (I (b + 17 + k) 0) (I (b + 17 + k) 1) (I (b + 17 + k) 2) I L Q := by
  obtain ⟨s1, s2, s3, -⟩ := h.r.ds h.C hk
  rw [h.ds hk (by omega), h.ds hk (by omega), h.ds hk (by omega)]
  exact s_price h.bc.1 h.C s3 s1.2 q
def dpF (C : CQ) (r : RW) (k w : Nat) : Int32 := match w with
  | 8 => if dF r k 7 = -1 then -1 else loF r k (dF r k 7)
  | 9 => prF C (dN r k) (dF r k 1) (dF r k 2)
  | f => dF r k f
def dcF (r : RW) (s : Int32) : Nat → Nat := fb_ct (fun k => decide (dF r k 6 = s))
/-- the verdict of the dear wave -/
def rpF (C : CQ) (r : RW) (k : Nat) : Int32 := if ((if dF r k 3 = 1 then deF C r (dN r k) else deF C r (dN r k) ^^^ (-1)) &&& win (dA r k) (dE r k)) = 0 then 0 else 1
theorem c_dearV {Q : Int32 → Prop} {k : Nat} (h : INV I L b d X B) (hk : k < un (xr X 4)) (q : Q (rpF (xC X) (xr X) k)) : W_X0_dearVerdict b (b + 17 + k) I L Q := by
  have nb := h.nb
  obtain ⟨s1, s2, s3, s4, s5, s6, -⟩ := h.r.ds h.C hk
  have e3 := (h.bc.2.2 _ s1.2).2.2.1
  have vn : vp_in (nI (dN (xr X) k)) 16 := pk_in _ 16 (by omega) rfl
  unfold rpF at q
  unfold W_X0_dearVerdict B_X0_dearVerdict_33
  rw [h.ds hk (by omega), h.ds hk (by omega), h.ds hk (by omega), h.ds hk (by omega), s3, s4, s5, pk_cl (dN (xr X) k) rfl (by omega), e3]
  have fin : ∀ s : Int64, s = (if dF (xr X) k 3 = 1 then deF (xC X) (xr X) (dN (xr X) k) else deF (xC X) (xr X) (dN (xr X) k) ^^^ (-1)) → W_X8_window (nI (dA (xr X) k)) (nI (dE (xr X) k)) I L (fun (r294 : Int64) => ((s &&& r294) = 0 → Q 0) ∧ (¬ (s &&& r294) = 0 → Q 1)) := by
    rintro s rfl
    refine s_window rfl rfl (by omega) (by omega) ⟨fun e => ?_, fun e => ?_⟩
    · rw [if_pos e] at q
      exact q
    · rw [if_neg e] at q
      exact q
  exact ⟨fun e => ⟨vn, fin _ (by rw [if_neg e])⟩, fun e => ⟨vn, fin _ (by rw [if_pos e])⟩⟩
def mjF (C : CQ) (r : RW) : Nat → Nat := fb_ct (fun k => decide (dF r k 7 ≠ -1 ∧ dF r k 7 ≠ rpF C r k))
end DISP
