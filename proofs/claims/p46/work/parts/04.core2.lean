def okty (t : Nat) (ty : FieldType) : Bool := match t with
  | 0 => decide (ty = .int)
  | 1 => decide (ty = .long)
  | 2 => decide (ty = .boolean)
  | _ => match ty with
    | .object _ => true
    | .array _ => true
    | _ => false
theorem okty0 {ty : FieldType} (h : okty 0 ty = true) : ty = .int := of_decide_eq_true h
theorem okty1 {ty : FieldType} (h : okty 1 ty = true) : ty = .long := of_decide_eq_true h
theorem okty2 {ty : FieldType} (h : okty 2 ty = true) : ty = .boolean := of_decide_eq_true h
theorem okty3 {ty : FieldType} (h : okty 3 ty = true) : defaultValue ty = .null ∧ ∀ v : Option Nat, narrow ty (va_rf v) = va_rf v ∧ fits ty (va_rf v) = true := by
  cases ty with
  | object C => exact ⟨rfl, fun v => by cases v <;> exact ⟨rfl, rfl⟩⟩
  | array C => exact ⟨rfl, fun v => by cases v <;> exact ⟨rfl, rfl⟩⟩
  | _ => cases h
/-- what the tables say of a class of clz -/
def clOK (ci : Nat) (C : String) (T : u_T) (N : Nat) (ty0 : Nat → FieldType) : Prop := (∀ w ∈ u_ws C T N, w ∈ lw_tbl ∧ goodWord w = true) ∧ NF ci = N ∧ (∀ k, k < N → parseFieldDescriptor (T k).2.2.1 = some (ty0 k)) ∧ (∀ a, a < N → ∀ b, b < N → a ≠ b → (T a).2.1 ≠ (T b).2.1) ∧ (∀ k, k < N → okty (FTY ci k) (ty0 k) = true) ∧ ci < 20
theorem cl_ok0 : clOK 0 RX0 TX0 7 tyX0 := ⟨by decide +kernel, by decide +kernel, tyX0_ok, nmX0, by decide +kernel, by decide +kernel⟩
theorem cl_ok1 : clOK 1 RX2 TX2 9 tyX2 := ⟨by decide +kernel, by decide +kernel, tyX2_ok, nmX2, by decide +kernel, by decide +kernel⟩
theorem cl_ok2 : clOK 2 RX3 TX3 8 tyX3 := ⟨by decide +kernel, by decide +kernel, tyX3_ok, nmX3, by decide +kernel, by decide +kernel⟩
theorem cl_ok3 : clOK 3 RX4 TX4 5 tyX4 := ⟨by decide +kernel, by decide +kernel, tyX4_ok, nmX4, by decide +kernel, by decide +kernel⟩
theorem cl_ok4 : clOK 4 RX5 TX5 7 tyX5 := ⟨by decide +kernel, by decide +kernel, tyX5_ok, nmX5, by decide +kernel, by decide +kernel⟩
theorem cl_ok5 : clOK 5 RX6 TX6 9 tyX6 := ⟨by decide +kernel, by decide +kernel, tyX6_ok, nmX6, by decide +kernel, by decide +kernel⟩
theorem cl_ok6 : clOK 6 RX7 TX7 8 tyX7 := ⟨by decide +kernel, by decide +kernel, tyX7_ok, nmX7, by decide +kernel, by decide +kernel⟩
theorem cl_ok7 : clOK 7 RX8 TX8 10 tyX8 := ⟨by decide +kernel, by decide +kernel, tyX8_ok, nmX8, by decide +kernel, by decide +kernel⟩
theorem cl_ok8 : clOK 8 RXL TXL 7 tyXL := ⟨by decide +kernel, by decide +kernel, tyXL_ok, nmXL, by decide +kernel, by decide +kernel⟩
theorem cl_ok : ∀ ci C T N, clz[ci]? = some (C, T, N) → ∃ ty0, clOK ci C T N ty0 := by
  intro ci C T N h
  match ci, h with
  | 0, h => cases h; exact ⟨_, cl_ok0⟩
  | 1, h => cases h; exact ⟨_, cl_ok1⟩
  | 2, h => cases h; exact ⟨_, cl_ok2⟩
  | 3, h => cases h; exact ⟨_, cl_ok3⟩
  | 4, h => cases h; exact ⟨_, cl_ok4⟩
  | 5, h => cases h; exact ⟨_, cl_ok5⟩
  | 6, h => cases h; exact ⟨_, cl_ok6⟩
  | 7, h => cases h; exact ⟨_, cl_ok7⟩
  | 8, h => cases h; exact ⟨_, cl_ok8⟩
  | n + 9, h => simp [clz] at h
theorem cl_in {ci : Nat} {C : String} {T : u_T} {N : Nat} (h : clz[ci]? = some (C, T, N)) : ∀ w ∈ u_ws C T N, w ∈ GW := fun w hw => List.mem_filter.mpr ((cl_ok ci C T N h).choose_spec.1 w hw)
