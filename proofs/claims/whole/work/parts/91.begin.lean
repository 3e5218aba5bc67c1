/-! a text begins -/
section BEGIN
variable {I J : TI} {L M : TL}
def tS0 (c : Nat → Nat) (ln : Nat) : PS := (tkN c ln 0, 0, -1)
theorem tS0_v {c : Nat → Nat} {ln : Nat} : PX c ln (tS0 c ln) := ⟨tkN_v (Nat.zero_le _) (Nat.zero_le _), tkN_l⟩
theorem c_begin {Q : TI → Nat → Prop} {c : Nat → Nat} {ln t : Nat} {x : Int32} (hc : txV c ln) (hx : x = nI ln) (ht : ∀ i, i < ln → I 350 i = sb (c i)) (k : ∀ J, (∀ q, q ≠ 344 → J q = I q) → TC J c ln (tS0 c ln) → Q J 350) : W_X7_begin x I L t Q := by
  subst hx
  have hl := hc.1
  unfold W_X7_begin
  rintro _ rfl
  rw [show mnI (nI ln) (nI 600) = nI ln by rw [mn_n (by omega) (by omega), Nat.min_eq_left hl]]
  have g1 : (up2 (up2 (up2 (up2 I 344 1 (nI ln)) 344 3 0) 344 6 0) 344 7 (-1)) 344 1 = nI ln := by rw [up2_n (Or.inr (by decide)), up2_n (Or.inr (by decide)), up2_n (Or.inr (by decide)), up2_s]
  have g3 : (up2 (up2 (up2 (up2 I 344 1 (nI ln)) 344 3 0) 344 6 0) 344 7 (-1)) 344 3 = 0 := by rw [up2_n (Or.inr (by decide)), up2_n (Or.inr (by decide)), up2_s]
  have g6 : (up2 (up2 (up2 (up2 I 344 1 (nI ln)) 344 3 0) 344 6 0) 344 7 (-1)) 344 6 = 0 := by rw [up2_n (Or.inr (by decide)), up2_s]
  have g7 : (up2 (up2 (up2 (up2 I 344 1 (nI ln)) 344 3 0) 344 6 0) 344 7 (-1)) 344 7 = -1 := up2_s
  have gr : ∀ q, q ≠ 344 → (up2 (up2 (up2 (up2 I 344 1 (nI ln)) 344 3 0) 344 6 0) 344 7 (-1)) q = I q := fun q hq => by rw [up2_row hq, up2_row hq, up2_row hq, up2_row hq]
  generalize up2 (up2 (up2 (up2 I 344 1 (nI ln)) 344 3 0) 344 6 0) 344 7 (-1) = i0 at g1 g3 g6 g7 gr
  unfold W_X7_advance W_X7_failed
  rw [g6]
  refine ⟨fun _ => ⟨fun _ => ?_, fun z => absurd rfl z⟩, fun z => absurd rfl z⟩
  exact c_adv0 (S := ((0, 0, 0), 0, -1)) hc (Nat.zero_le _) g1 g3 g6 g7 (fun i hi => by rw [gr 350 (by decide)]; exact ht i hi) (fun J a b => k J (fun q hq => by rw [a q hq, gr q hq]) b)
theorem m_starts {Q : TI → TL → Prop} {c : Nat → Nat} {ln : Nat} {x : Int32} (hc : txV c ln) (hx : x = nI ln) (ht : ∀ i, i < ln → I 447 i = nI (c i)) (k : ∀ J M, (∀ q, q ≠ 436 → J q = I q) → (∀ j, (j < 22 ∨ 30 < j) → J 436 j = I 436 j) → J 436 22 = 0 → tL L M → TR J M c ln (tS0 c ln) → Q J M) : W_X9_starts x I L Q := by
  subst hx
  unfold W_X9_starts
  rintro _ rfl
  have g : ∀ j, (up2 (up2 (up2 (up2 (up2 I 436 23 (nI ln)) 436 22 0) 436 24 0) 436 29 0) 436 30 (-1)) 436 j = if j = 30 then -1 else if j = 29 then 0 else if j = 24 then 0 else if j = 22 then 0 else if j = 23 then nI ln else I 436 j := fun j => by
    rw [up2_at, up2_at, up2_at, up2_at, up2_at]
  have gr : ∀ q, q ≠ 436 → (up2 (up2 (up2 (up2 (up2 I 436 23 (nI ln)) 436 22 0) 436 24 0) 436 29 0) 436 30 (-1)) q = I q := fun q hq => by rw [up2_row hq, up2_row hq, up2_row hq, up2_row hq, up2_row hq]
  generalize up2 (up2 (up2 (up2 (up2 I 436 23 (nI ln)) 436 22 0) 436 24 0) 436 29 0) 436 30 (-1) = i0 at g gr
  refine m_next0 (S := ((0, 0, 0), 0, -1)) hc (Nat.zero_le _) (by rw [g]; rfl) (by rw [g]; rfl) (by rw [g]; rfl) (by rw [g]; rfl) (fun i hi => by rw [gr 447 (by decide)]; exact ht i hi) (fun J M a b d => k J M (fun q hq => by rw [a.1 q hq, gr q hq]) (fun j hj => ?_) ?_ b d)
  · rw [a.2 j (by omega), g, if_neg (by omega), if_neg (by omega), if_neg (by omega), if_neg (by omega), if_neg (by omega)]
  · rw [a.2 22 (by omega), g]
    rfl
end BEGIN
