/-! appeal -/
section APPEAL
variable {I J : TI} {L M : TL} {b d B : Nat} {X : XT}
theorem c_dearG {Q : Int32 → Prop} {C : CQ} {r : RW} {k : Nat} (hC : CV C) (hr : RV C B r) (hB : BC I L b C r) (hk : k < un (r 4)) (q : Q (rpF C r k)) : W_X0_dearVerdict b (b + 17 + k) I L Q := by
  have hI := hC.1
  have hG := hC.2.1
  have hH := hC.2.2.1
  have ds : ∀ f, f < 8 → I (b + 17 + k) f = dF r k f := fun f hf => by
    have := hB.2.1.ds hk hf
    rw [show b + 6 + 11 + k = b + 17 + k by omega] at this
    exact this
  obtain ⟨s1, s2, s3, s4, s5, s6, -⟩ := hr.ds hC hk
  have e3 := (hB.2.2 _ s1.2).2.2.1
  have vn : vp_in (nI (dN r k)) 16 := pk_in _ 16 (by omega) rfl
  unfold rpF at q
  unfold W_X0_dearVerdict B_X0_dearVerdict_33
  rw [ds 3 (by omega), ds 0 (by omega), ds 1 (by omega), ds 2 (by omega), s3, s4, s5, pk_cl (dN r k) rfl (by omega), e3]
  have fin : ∀ s : Int64, s = (if dF r k 3 = 1 then deF C r (dN r k) else deF C r (dN r k) ^^^ (-1)) → W_X8_window (nI (dA r k)) (nI (dE r k)) I L (fun (r294 : Int64) => ((s &&& r294) = 0 → Q 0) ∧ (¬ (s &&& r294) = 0 → Q 1)) := by
    rintro s rfl
    refine s_window rfl rfl (by omega) (by omega) ⟨fun e => ?_, fun e => ?_⟩
    · rw [if_pos e] at q
      exact q
    · rw [if_neg e] at q
      exact q
  exact ⟨fun e => ⟨vn, fin _ (by rw [if_neg e])⟩, fun e => ⟨vn, fin _ (by rw [if_pos e])⟩⟩
theorem c_loserG {Q : Int32 → Prop} {r : RW} {x k : Nat} {v : Int32} (h5 : I x 5 = dF r k 5) (h4 : I x 4 = dF r k 4) (hv : v = 0 ∨ v = 1) (q : Q (loF r k v)) : W_X3_loserBy x v I L Q := by
  unfold loF at q
  unfold W_X3_loserBy B_X3_loserBy_17
  rw [h5, h4]
  have fin : ∀ s, s = v → ((¬ s = dF r k 5 → Q (dF r k 4)) ∧ (s = dF r k 5 → Q ((1 : Int32) - dF r k 4))) := by
    rintro s rfl
    refine ⟨fun e => ?_, fun e => ?_⟩
    · rw [if_neg (fun z => e z.symm)] at q
      exact q
    · rw [if_pos e.symm] at q
      exact q
  refine ⟨fun _ => ⟨fun e => fin 0 ?_, fun e => fin 1 e.symm⟩, fun e => ?_⟩
  · rcases hv with z | z
    · exact z.symm
    · exact absurd z e
  · rcases hv with z | z <;> rw [z] at e <;> exact absurd e (by decide)
theorem rp_01 {C : CQ} {r : RW} {k : Nat} : rpF C r k = 0 ∨ rpF C r k = 1 := by
  unfold rpF
  split
  · split
    · exact Or.inl rfl
    · exact Or.inr rfl
  · split
    · exact Or.inl rfl
    · exact Or.inr rfl
/-- who loses by another verdict -/
theorem lo_two {r : RW} {k : Nat} {v w : Int32} (h4 : dF r k 4 = 0 ∨ dF r k 4 = 1) (h5 : dF r k 5 = 0 ∨ dF r k 5 = 1) (hv : v = 0 ∨ v = 1) (hw : w = 0 ∨ w = 1) (n : v ≠ w) : loF r k v = 1 - loF r k w := by
  unfold loF
  rcases hv with rfl | rfl <;> rcases hw with rfl | rfl
  · exact absurd rfl n
  · rcases h5 with e | e <;> rcases h4 with f | f <;> rw [e, f] <;> decide
  · rcases h5 with e | e <;> rcases h4 with f | f <;> rw [e, f] <;> decide
  · exact absurd rfl n
theorem mn_n {a c : Nat} (ha : a < 2 ^ 31) (hc : c < 2 ^ 31) : mnI (nI a) (nI c) = nI (min a c) := by
  unfold mnI
  by_cases q : c < a
  · rw [if_pos (nI_lt q ha), Nat.min_eq_right (by omega)]
  · rw [if_neg (nI_nlt (by omega) hc), Nat.min_eq_left (by omega)]
theorem app_row {r : RW} {k g p f : Nat} {v w m : Int64} (hg : g < 12) (hp : p < 2) : upR (upR (upR (upR (upR r (81 + 8 * k + 7) v) (81 + 8 * k + 6) w) (9 + g) (r (9 + g) ||| m)) (1 + p) (lN (un (r (1 + p)) - f))) 3 (lN (un (r 3) + f)) = stR (payR (upR (upR r (81 + 8 * k + 7) v) (81 + 8 * k + 6) w) p f) g m := by
  have a1 : (upR (upR r (81 + 8 * k + 7) v) (81 + 8 * k + 6) w) (1 + p) = r (1 + p) := by rw [upR_n (by omega), upR_n (by omega)]
  have a3 : (upR (upR r (81 + 8 * k + 7) v) (81 + 8 * k + 6) w) 3 = r 3 := by rw [upR_n (by omega), upR_n (by omega)]
  have a9 : payR (upR (upR r (81 + 8 * k + 7) v) (81 + 8 * k + 6) w) p f (9 + g) = r (9 + g) := by rw [payR_n (by omega) (by omega), upR_n (by omega), upR_n (by omega)]
  unfold stR
  rw [a9]
  unfold payR
  rw [a1, a3, upR_comm (show 9 + g ≠ 1 + p by omega), upR_comm (show 9 + g ≠ 3 by omega)]
end APPEAL
