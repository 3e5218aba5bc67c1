/-! undoCount, undo, saveSnapshot, restoreSnapshot -/
section UNDO
variable {I J : TI} {L M : TL} {b d B : Nat} {X : XT}
/-- refresh behind a change of the state's rows: the bench holds the row again -/
theorem c_refresh {Q : TI → TL → Prop} {C : CQ} {r : RW} (hb : bnOK b) (hC : CV C) (hr : RV C B r) (h : CC I (b + 1) C) (hS : SC I L (b + 6) C r) (k : ∀ J M, (∀ q, q ≠ b + 41 → J q = I q) → (∀ q, q ≠ b + 37 → q ≠ b + 38 → q ≠ b + 39 → M q = L q) → BC J M b C r → Q J M) : W_X0_refresh b I L Q := by
  refine s_refresh h hC hS hr (fun J M hJ hM hW => k J M (fun q hq => hJ q (nin1 hq)) (fun q a c e => hM q (nin3 a c e)) ?_)
  exact hW.bc hC (h.fr (fun q a c => hJ q (nin1 (by omega)))) (hS.fr hr.2.2.1 (fun q a c => hJ q (nin1 (by omega))) (fun q a c => hM q (nin3 (by omega) (by omega) (by omega))))
def popX (X : XT) (r : RW) : XT := (xC X, r, (xk X - 1, xh X), X.2.2.2)
def savX (X : XT) : XT := (xC X, xr X, (xk X, xh X), some (xr X), X.2.2.2.2)
def rstX (X : XT) (r : RW) : XT := (xC X, r, (0, xh X), X.2.2.2)
end UNDO
