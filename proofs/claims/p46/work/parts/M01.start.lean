/-! THE LAW AT ITS START: what the tables and the start say, as the walks want it -/
section WS
theorem ws_arr {s : State} {A : Array Value} {ty : FieldType} (h : (Cond.arrayClass ty).before A s = true) : ∃ cA, ArrOfT s cA ty ∧ s.vm.findClass ("[" ++ ty.toString) = some cA := by
  obtain ⟨c, k, comp, h1, h2, h3⟩ := Cond.arrayClass_spec (args := A) (first := s) (o := none) (s := s) (idx := []) h
  exact ⟨c, fun n z => ⟨(fun k h => by cases h), k, h2, comp, h3⟩, h1⟩
theorem ws_ty {s : State} {A : Array Value} (hts : ∀ w ∈ lw_tbl, w.before A s = true) (hgw : ∀ w ∈ GW, w.before A s = true) : ∀ t : Nat, ∃ cA : ClassId, t < 8 → ArrOfT s cA (aty t) ∧ va_RA s cA (aty t) := by
  intro t
  match t with
  | 0 => obtain ⟨c, h1, h2⟩ := ws_arr (hgw _ ar_int); exact ⟨c, fun _ => ⟨h1, h2⟩⟩
  | 1 => obtain ⟨c, h1, h2⟩ := ws_arr (hgw _ ar_long); exact ⟨c, fun _ => ⟨h1, h2⟩⟩
  | 2 => obtain ⟨c, h1, h2⟩ := ws_arr (hgw _ ar_byte); exact ⟨c, fun _ => ⟨h1, h2⟩⟩
  | 3 => obtain ⟨c, h1, h2⟩ := ws_arr (hgw _ ar_boolean); exact ⟨c, fun _ => ⟨h1, h2⟩⟩
  | 4 =>
    obtain ⟨comp, c, k, h1, -, h3, h4, h5⟩ := Cond.arrayOver_spec (args := A) (first := s) (o := none) (s := s) (idx := []) (hts (.arrayOver (.object "GlitchCourt$State")) (List.mem_of_getElem? (i := 67) (by decide +kernel)))
    exact ⟨c, fun _ => ⟨fun n z => ⟨(fun k h => by cases h), k, h3, comp, h4⟩, k, comp, h3, h4, h1, h5⟩⟩
  | 5 =>
    obtain ⟨comp, c, k, h1, -, h3, h4, h5⟩ := Cond.arrayOver_spec (args := A) (first := s) (o := none) (s := s) (idx := []) (hts (.arrayOver (.object "GlitchCourt$Dispute")) (List.mem_of_getElem? (i := 76) (by decide +kernel)))
    exact ⟨c, fun _ => ⟨fun n z => ⟨(fun k h => by cases h), k, h3, comp, h4⟩, k, comp, h3, h4, h1, h5⟩⟩
  | 6 =>
    obtain ⟨comp, c, k, h1, h3, h4, h5⟩ := Cond.arrayOver_specA (args := A) (first := s) (o := none) (s := s) (idx := []) (hts (.arrayOver (.array .int)) (List.mem_of_getElem? (i := 74) (by decide +kernel)))
    exact ⟨c, fun _ => ⟨fun n z => ⟨(fun k h => by cases h), k, h3, comp, h4⟩, h5⟩⟩
  | 7 => obtain ⟨c, h1, h2⟩ := ws_arr (hgw _ ar_int); exact ⟨c, fun _ => ⟨h1, h2⟩⟩
  | n + 8 => exact ⟨0, fun h => absurd h (by omega)⟩
theorem ws_ic : ∀ (ci : Nat) (C : String) (T : u_T) (N : Nat), clz[ci]? = some (C, T, N) → ∃ n, Cond.instantiable C n ∈ GW := by
  intro ci C T N h
  match ci, h with
  | 0, h => cases h; exact ⟨_, ic_X0⟩
  | 1, h => cases h; exact ⟨_, ic_X2⟩
  | 2, h => cases h; exact ⟨_, ic_X3⟩
  | 3, h => cases h; exact ⟨_, ic_X4⟩
  | 4, h => cases h; exact ⟨_, ic_X5⟩
  | 5, h => cases h; exact ⟨_, ic_X6⟩
  | 6, h => cases h; exact ⟨_, ic_X7⟩
  | 7, h => cases h; exact ⟨_, ic_X8⟩
  | 8, h => cases h; exact ⟨_, ic_L⟩
  | n + 9, h => simp [clz] at h
theorem ws_cl {s : State} {A : Array Value} (hts : ∀ w ∈ GW, w.before A s = true) : ∀ ci : Nat, ∃ q : ClassId × (Nat → Nat), ∀ (C : String) (T : u_T) (N : Nat), clz[ci]? = some (C, T, N) → u_Kn s C T N q.1 q.2 := by
  intro ci
  cases h : clz[ci]? with
  | none => exact ⟨(0, fun _ => 0), fun _ _ _ q => by cases q⟩
  | some q0 =>
    obtain ⟨C, T, N⟩ := q0
    obtain ⟨n, hi⟩ := ws_ic ci C T N h
    obtain ⟨cC, iS, hk⟩ := u_known hts (cl_in h) (hts _ hi)
    exact ⟨(cC, iS), fun C' T' N' e => by cases e; exact hk⟩
/-- the constants: the first place of each -/
def stT : List (String × Nat) := [("GlitchCourt", 63), ("GlitchCourtLaw", 83), ("GlitchCourtLaw", 85), ("GlitchCourt$BenchText", 105), ("GlitchCourt", 408), ("GlitchCourt", 410), ("GlitchCourt", 412), ("GlitchCourt", 414), ("GlitchCourt", 416), ("GlitchCourt", 418), ("GlitchCourt", 420), ("GlitchCourtLaw", 91), ("GlitchCourtLaw", 27), ("GlitchCourtLaw", 68), ("GlitchCourtLaw", 46), ("GlitchCourtLaw", 48), ("GlitchCourtLaw", 50), ("GlitchCourtLaw", 52), ("GlitchCourtLaw", 54), ("GlitchCourtLaw", 56), ("GlitchCourtLaw", 58), ("GlitchCourt", 138), ("GlitchCourt", 184), ("GlitchCourt", 359), ("GlitchCourt", 345), ("GlitchCourt", 205), ("GlitchCourt", 247), ("GlitchCourt", 316), ("GlitchCourt", 249), ("GlitchCourt", 179), ("GlitchCourt", 199)]
def tmS (i : Nat) : Term := .string (stT.getD i ("", 0)).1 (stT.getD i ("", 0)).2
def nFl : List Cond := Jvm.Free.XT.flat (.and given_1 narrow_1)
def stB (i : Nat) : Nat := ([158, 35, 54, 188, 196, 203, 209, 216, 224, 231, 238, 148, 44, 49, 63, 75, 86, 98, 111, 123, 135, 257, 274, 283, 294, 314, 322, 331, 340, 351, 358] : List Nat).getD i 0
theorem st_ex0 : ∀ i, i < 31 → nFl[stB i]? = some (Cond.exactly (tmS i) "java/lang/String") := by decide +kernel
theorem st_co0 : ∀ i, i < 31 → nFl[stB i + 1]? = some (Cond.eq (.field (tmS i) "java/lang/String" "coder" "B") (.int 0)) := by decide +kernel
theorem st_ar0 : ∀ i, i < 31 → nFl[stB i + 2]? = some (Cond.arrayOf (.field (tmS i) "java/lang/String" "value" "[B") .byte) := by decide +kernel
theorem st_le0 : ∀ i, i < 31 → nFl[stB i + 3]? = some (Cond.eq (.length (.field (tmS i) "java/lang/String" "value" "[B")) (.int (Int32.ofNat (lenJS.getD i 0)))) := by decide +kernel
theorem st_el0 : ∀ i, i < 31 → ∀ j, j < lenJS.getD i 0 → nFl[stB i + 4 + j]? = some (Cond.eq (.elem (.field (tmS i) "java/lang/String" "value" "[B") (.int (Int32.ofNat j))) (.int ((bytJS.getD i []).getD j 0))) := by decide +kernel
theorem st_ne : ∀ i, i < 31 → ∀ j, j < 31 → i ≠ j → lenJS.getD i 0 ≠ lenJS.getD j 0 ∨ (List.range (lenJS.getD i 0)).any (fun k => decide ((bytJS.getD i []).getD k 0 ≠ (bytJS.getD j []).getD k 0)) = true := by decide +kernel
theorem zip_in {α β : Type} : ∀ (l : List α) (r : List β), l.length = r.length → ∀ q ∈ l, ∃ k, (q, k) ∈ l.zip r
  | [], _, _, q, h => by cases h
  | a :: l, [], h, _, _ => by cases h
  | a :: l, b :: r, h, q, hq => by
    rcases List.mem_cons.mp hq with e | hq
    · subst e; exact ⟨b, by rw [List.zip_cons_cons]; exact List.mem_cons_self⟩
    · obtain ⟨k, hk⟩ := zip_in l r (Nat.succ.inj h) q hq
      exact ⟨k, by rw [List.zip_cons_cons]; exact List.mem_cons_of_mem _ hk⟩
theorem zip_tb {α : Type} {l : List α} {r : List Nat} {f : α → Cond} (hl : l.length = r.length) (h : ∀ z ∈ l.zip r, lw_tbl[z.2]? = some (f z.1)) : ∀ q ∈ l, f q ∈ lw_tbl := by
  intro q hq
  obtain ⟨k, hk⟩ := zip_in l r hl q hq
  exact List.mem_of_getElem? (h _ hk)
theorem st_ref : ∀ q ∈ strs, Cond.stringRef q.1 q.2.1 q.2.2.1 ∈ lw_tbl := zip_tb (l := strs) (r := [403, 460, 461, 462, 470, 471, 472, 473, 474, 475, 476, 477, 535, 611, 649, 665, 679, 680, 681, 682, 683, 684, 685, 695, 763, 801, 810, 865, 871, 898, 899, 940, 941, 960, 1014, 1015]) (f := fun q => Cond.stringRef q.1 q.2.1 q.2.2.1) (by decide +kernel) (by decide +kernel)
theorem st_ns : ∀ q ∈ nsts, Cond.methodLinkNest q.1 q.2.1 q.2.2.1 q.2.2.2 ∈ lw_tbl := zip_tb (l := nsts) (r := [78, 186, 220, 249, 255, 656, 676, 715, 717, 720, 1024]) (f := fun q => Cond.methodLinkNest q.1 q.2.1 q.2.2.1 q.2.2.2) (by decide +kernel) (by decide +kernel)
theorem st_cs : ∀ q ∈ csts, Cond.castable q.1 q.2 ∈ lw_tbl := zip_tb (l := csts) (r := [497, 756, 1030, 1031, 1032, 1033, 1034, 1035, 1036, 1037, 1038, 1039, 1040, 1041, 1042]) (f := fun q => Cond.castable q.1 q.2) (by decide +kernel) (by decide +kernel)
theorem st_dc : ∀ q ∈ dcls, Cond.declares q ∈ lw_tbl := zip_tb (l := dcls) (r := [498, 499, 500, 501, 502, 503]) (f := fun q => Cond.declares q) (by decide +kernel) (by decide +kernel)
theorem st_tm0 : ∀ z ∈ strs.zip [0, 0, 0, 0, 0, 0, 0, 0, 0, 0, 0, 0, 0, 177, 187, 0, 0, 0, 0, 0, 0, 0, 0, 256, 0, 273, 0, 0, 0, 312, 0, 0, 0, 0, 0, 0], z.1.2.2.2 < 31 ∧ (tmS z.1.2.2.2 = .string z.1.1 z.1.2.1 ∨ nFl[z.2]? = some (Cond.eq (tmS z.1.2.2.2) (.string z.1.1 z.1.2.1))) := by decide +kernel
theorem st_tm : ∀ q ∈ strs, q.2.2.2 < 31 ∧ (tmS q.2.2.2 = .string q.1 q.2.1 ∨ Cond.eq (tmS q.2.2.2) (.string q.1 q.2.1) ∈ nFl) := by
  intro q hq
  obtain ⟨k, hk⟩ := zip_in strs [0, 0, 0, 0, 0, 0, 0, 0, 0, 0, 0, 0, 0, 177, 187, 0, 0, 0, 0, 0, 0, 0, 0, 256, 0, 273, 0, 0, 0, 312, 0, 0, 0, 0, 0, 0] (by decide +kernel) q hq
  obtain ⟨h1, h2⟩ := st_tm0 _ hk
  exact ⟨h1, h2.imp id (fun h => List.mem_of_getElem? h)⟩
end WS
