/-! doubles and floats: no NaN -/
section FLOATS
theorem fp_q {f : FP.Core.Fmt} {i j : Int} {x y : FP.Core.Datum} (hx : FP.Core.Whole i x) (hy : FP.Core.Whole j y) (hj : j ≠ 0) : FP.Core.quotient f x y ≠ .nan := by
  cases x with
  | nan => exact hx.elim
  | inf => exact hx.elim
  | fin s c q =>
  cases y with
  | nan => exact hy.elim
  | inf => exact hy.elim
  | fin t d r =>
    show (if d = 0 then _ else FP.Core.roundRatio f (s != t) c d (q - r)) ≠ .nan
    split
    · rename_i h
      exfalso
      subst h
      have hy : FP.Core.signed t (0 * 2 ^ r.toNat) = j * ((2 ^ (-r).toNat : Nat) : Int) := hy
      have z : FP.Core.signed t (0 * 2 ^ r.toNat) = 0 := by
        rw [Nat.zero_mul]
        cases t <;> rfl
      rw [z] at hy
      have p : ((2 ^ (-r).toNat : Nat) : Int) ≠ 0 := by
        have := Nat.two_pow_pos (-r).toNat
        omega
      rcases Int.mul_eq_zero.mp hy.symm with q1 | q1
      · exact hj q1
      · exact p q1
    · exact FP.Core.roundRatio_ne_nan _ _ _ _ _
theorem fp_n64 {a : UInt64} (h : FP.Core.val64 a ≠ .nan) : vf_n64 a := by
  have h2 : ¬ FP.Core.dIsNaN a = true := fun e => h ((FP.Core.dIsNaN_iff a).mp e)
  rw [FP.Core.isNaN_bits] at h2
  unfold vf_n64
  rw [UInt64.le_iff_toNat_le, UInt64.toNat_and, show (0x7fffffffffffffff : UInt64).toNat = 2 ^ 63 - 1 from rfl, Nat.and_two_pow_sub_one_eq_mod, show (0x7ff0000000000000 : UInt64).toNat = 9218868437227405312 from rfl]
  omega
theorem fp_n32 {a : UInt32} (h : FP.Core.val32 a ≠ .nan) : vf_n32 a := by
  have h2 : ¬ FP.Core.fIsNaN a = true := fun e => h ((FP.Core.fIsNaN_iff a).mp e)
  rw [FP.Core.isNaN_bits32] at h2
  unfold vf_n32
  rw [UInt32.le_iff_toNat_le, UInt32.toNat_and, show (0x7fffffff : UInt32).toNat = 2 ^ 31 - 1 from rfl, Nat.and_two_pow_sub_one_eq_mod, show (0x7f800000 : UInt32).toNat = 2139095040 from rfl]
  omega
theorem fp_dd {x y : Int32} (h : y ≠ 0) : vf_n64 (FP.ddiv (FP.i2d x) (FP.i2d y)) := by
  apply fp_n64
  rw [FP.ddiv_core, FP.i2d_core, FP.Core.val64_ddiv]
  refine fp_q (FP.Core.i2d_int x) (FP.Core.i2d_int y) (fun e => h ?_)
  rw [← Int32.toInt_inj, e]
  rfl
theorem fp_ff {x y : Nat} (hx : x < 2 ^ 24) (hy : y < 2 ^ 24) (h : y ≠ 0) : vf_n32 (FP.fdiv (FP.i2f (nI x)) (FP.i2f (nI y))) := by
  apply fp_n32
  rw [FP.fdiv_core, FP.i2f_core, FP.Core.val32_fdiv]
  have e1 : (nI x).toInt = x := nI_toInt (by omega)
  have e2 : (nI y).toInt = y := nI_toInt (by omega)
  refine fp_q (FP.Core.i2f_int (by rw [e1]; omega)) (FP.Core.i2f_int (by rw [e2]; omega)) (fun e => h ?_)
  rw [e2] at e
  omega
end FLOATS
