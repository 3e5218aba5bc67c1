/-! calls that ask: size, stateAt, allWrong, worst, errorPosition, dependsOn, touches, longest, cost -/
section OPS2
variable {I J : TI} {L M : TL} {b d B : Nat} {X : XT}
theorem INV.dv (h : INV I L b d X B) : DV (xC X) (xr X) := fun g hg => (h.r.2.2.2.2.1 g hg).2.2.2
/-! sums of wrong times -/
def wsF (C : CQ) (sh de : Nat → Int64) : Nat := fb_sm (fun n => pc (sh n ^^^ de n)) (cI C + cG C)
theorem wsF_cong {C : CQ} {a c e f : Nat → Int64} (h : ∀ n, n < cI C + cG C → a n = e n ∧ c n = f n) : wsF C a c = wsF C e f := fb_sm_cong (fun k hk => by rw [(h k hk).1, (h k hk).2])
def woN (f : Nat → Nat) : Nat → Nat
  | 0 => 0
  | n + 1 => if f (woN f n) < f (n + 1) then n + 1 else woN f n
theorem woN_le (f : Nat → Nat) : ∀ n, woN f n ≤ n
  | 0 => Nat.le_refl _
  | n + 1 => by
    have := woN_le f n
    unfold woN
    split <;> omega
end OPS2
