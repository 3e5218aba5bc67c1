/-! a text begins -/
section BEGIN
variable {I J : TI} {L M : TL}
def tS0 (c : Nat → Nat) (ln : Nat) : PS := (tkN c ln 0, 0, -1)
theorem tS0_v {c : Nat → Nat} {ln : Nat} : PX c ln (tS0 c ln) := ⟨tkN_v (Nat.zero_le _) (Nat.zero_le _), tkN_l⟩
theorem c_begin {Q : TI → Nat → Prop} {c : Nat → Nat} {ln t : Nat} {x : Int32} (hc : txV c ln) (hx : x = nI ln) (ht : ∀ i, i < ln → I 350 i = sb (c i)) (k : ∀ J, (∀ q, q ≠ 344 → J q = I q) → TC J c ln (tS0 c ln) → Q J 350) : W_X7_begin x I L t Q := by
  subst hx
  have hl := hc.1
  unfold W_X7_begin
  rintro _ rfl
  rw [show mnI (nI ln) (nI 600) = nI ln by rw [mn_n (by omega) (by omega), Nat.min_eq_left hl]]
  have g1 : (up2 (up2 (up2 (up2 I 344 1 (nI ln)) 344 3 0) 344 6 0) 344 7 (-1)) 344 1 = nI ln := by rw [up2_n (Or.inr (by decide)), up2_n (Or.inr (by decide)), up2_n (Or.inr (by decide)), up2_s]
  have g3 : (up2 (up2 (up2 (up2 I 344 1 (nI ln)) 344 3 0) 344 6 0) 344 7 (-1)) 344 3 = 0 := by rw [up2_n (Or.inr (by decide)), up2_n (Or.inr (by decide)), up2_s]
  have g6 : (up2 (up2 (up2 (up2 I 344 1 (nI ln)) 344 3 0) 344 6 0) 344 7 (-1)) 344 6 = 0 := by rw [up2_n (Or.inr (by decide)), up2_s]
  have g7 : (up2 (up2 (up2 (up2 I 344 1 (nI ln)) 344 3 0) 344 6 0) 344 7 (-1)) 344 7 = -1 := up2_s
  have gr : ∀ q, q ≠ 344 → (up2 (up2 (up2 (up2 I 344 1 (nI ln)) 344 3 0) 344 6 0) 344 7 (-1)) q = I q := fun q hq => by rw [up2_row hq, up2_row hq, up2_row hq, up2_row hq]
  generalize up2 (up2 (up2 (up2 I 344 1 (nI ln)) 344 3 0) 344 6 0) 344 7 (-1) = i0 at g1 g3 g6 g7 gr
  unfold W_X7_advance W_X7_failed
  rw [g6]
  refine ⟨fun _ => ⟨fun _ => ?_, fun z => absurd rfl z⟩, fun z => absurd rfl z⟩
  exact c_adv0 (S := ((0, 0, 0), 0, -1)) hc (Nat.zero_le _) g1 g3 g6 g7 (fun i hi => by rw [gr 350 (by decide)]; exact ht i hi) (fun J a b => k J (fun q hq => by rw [a q hq, gr q hq]) b)
end BEGIN
