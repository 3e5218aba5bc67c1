/-! open -/
section OPEN2
variable {I J : TI} {L M : TL} {b d B : Nat} {X : XT}
/-- the row with a dispute laid behind -/
def nwR (r : RW) (k : Nat) (v : Nat → Int32) : RW := fun i => if i = 4 then r 4 + 1 else if 81 + 8 * k ≤ i ∧ i < 89 + 8 * k then (v (i - (81 + 8 * k))).toInt64 else r i
def opV (n t e l p c : Int32) : Nat → Int32
  | 0 => n
  | 1 => t
  | 2 => e
  | 3 => l
  | 4 => p
  | 5 => c
  | 6 => 0
  | _ => -1
theorem row8 {r : RW} {k : Nat} {w0 w1 w2 w3 w4 w5 w6 w7 : Int64} {i : Nat} : (upR (upR (upR (upR (upR (upR (upR (upR r (81 + 8 * k + 0) w0) (81 + 8 * k + 1) w1) (81 + 8 * k + 2) w2) (81 + 8 * k + 3) w3) (81 + 8 * k + 4) w4) (81 + 8 * k + 5) w5) (81 + 8 * k + 6) w6) (81 + 8 * k + 7) w7) i = if 81 + 8 * k ≤ i ∧ i < 89 + 8 * k then (match i - (81 + 8 * k) with | 0 => w0 | 1 => w1 | 2 => w2 | 3 => w3 | 4 => w4 | 5 => w5 | 6 => w6 | _ => w7) else r i := by
  by_cases h : 81 + 8 * k ≤ i ∧ i < 89 + 8 * k
  · rw [if_pos h]
    obtain ⟨f, hf, rfl⟩ : ∃ f, f < 8 ∧ i = 81 + 8 * k + f := ⟨i - (81 + 8 * k), by omega, by omega⟩
    rw [Nat.add_sub_cancel_left]
    match f, hf with
    | 0, _ => (rw [upR_n (by omega), upR_n (by omega), upR_n (by omega), upR_n (by omega), upR_n (by omega), upR_n (by omega), upR_n (by omega), upR_s]; rfl)
    | 1, _ => (rw [upR_n (by omega), upR_n (by omega), upR_n (by omega), upR_n (by omega), upR_n (by omega), upR_n (by omega), upR_s]; rfl)
    | 2, _ => (rw [upR_n (by omega), upR_n (by omega), upR_n (by omega), upR_n (by omega), upR_n (by omega), upR_s]; rfl)
    | 3, _ => (rw [upR_n (by omega), upR_n (by omega), upR_n (by omega), upR_n (by omega), upR_s]; rfl)
    | 4, _ => (rw [upR_n (by omega), upR_n (by omega), upR_n (by omega), upR_s]; rfl)
    | 5, _ => (rw [upR_n (by omega), upR_n (by omega), upR_s]; rfl)
    | 6, _ => (rw [upR_n (by omega), upR_s]; rfl)
    | 7, _ => (rw [upR_s]; rfl)
  · rw [if_neg h, upR_n (by omega), upR_n (by omega), upR_n (by omega), upR_n (by omega), upR_n (by omega), upR_n (by omega), upR_n (by omega), upR_n (by omega)]
end OPEN2
