/-! THE LAW AT ITS START: what the tables and the start say, as the walks want it -/
section WS
theorem ws_arr {s : State} {A : Array Value} {ty : FieldType} (h : (Cond.arrayClass ty).before A s = true) : ∃ cA, ArrOfT s cA ty ∧ s.vm.findClass ("[" ++ ty.toString) = some cA := by
  obtain ⟨c, k, comp, h1, h2, h3⟩ := Cond.arrayClass_spec (args := A) (first := s) (o := none) (s := s) (idx := []) h
  exact ⟨c, fun n z => ⟨(fun k h => by cases h), k, h2, comp, h3⟩, h1⟩
theorem ws_ty {s : State} {A : Array Value} (hts : ∀ w ∈ lw_tbl, w.before A s = true) (hgw : ∀ w ∈ GW, w.before A s = true) : ∀ t : Nat, ∃ cA : ClassId, t < 7 → ArrOfT s cA (aty t) ∧ va_RA s cA (aty t) := by
  intro t
  match t with
  | 0 => obtain ⟨c, h1, h2⟩ := ws_arr (hgw _ ar_int); exact ⟨c, fun _ => ⟨h1, h2⟩⟩
  | 1 => obtain ⟨c, h1, h2⟩ := ws_arr (hgw _ ar_long); exact ⟨c, fun _ => ⟨h1, h2⟩⟩
  | 2 => obtain ⟨c, h1, h2⟩ := ws_arr (hgw _ ar_byte); exact ⟨c, fun _ => ⟨h1, h2⟩⟩
  | 3 => obtain ⟨c, h1, h2⟩ := ws_arr (hgw _ ar_boolean); exact ⟨c, fun _ => ⟨h1, h2⟩⟩
  | 4 =>
    obtain ⟨comp, c, k, h1, -, h3, h4, h5⟩ := Cond.arrayOver_spec (args := A) (first := s) (o := none) (s := s) (idx := []) (hts (.arrayOver (.object "GlitchCourt$State")) (List.mem_of_getElem? (i := 131) (by decide +kernel)))
    exact ⟨c, fun _ => ⟨fun n z => ⟨(fun k h => by cases h), k, h3, comp, h4⟩, k, comp, h3, h4, h1, h5⟩⟩
  | 5 =>
    obtain ⟨comp, c, k, h1, -, h3, h4, h5⟩ := Cond.arrayOver_spec (args := A) (first := s) (o := none) (s := s) (idx := []) (hts (.arrayOver (.object "GlitchCourt$Dispute")) (List.mem_of_getElem? (i := 140) (by decide +kernel)))
    exact ⟨c, fun _ => ⟨fun n z => ⟨(fun k h => by cases h), k, h3, comp, h4⟩, k, comp, h3, h4, h1, h5⟩⟩
  | 6 =>
    obtain ⟨comp, c, k, h1, h3, h4, h5⟩ := Cond.arrayOver_specA (args := A) (first := s) (o := none) (s := s) (idx := []) (hts (.arrayOver (.array .int)) (List.mem_of_getElem? (i := 138) (by decide +kernel)))
    exact ⟨c, fun _ => ⟨fun n z => ⟨(fun k h => by cases h), k, h3, comp, h4⟩, h5⟩⟩
  | n + 7 => exact ⟨0, fun h => absurd h (by omega)⟩
theorem ws_ic : ∀ (ci : Nat) (C : String) (T : u_T) (N : Nat), clz[ci]? = some (C, T, N) → ∃ n, Cond.instantiable C n ∈ GW := by
  intro ci C T N h
  match ci, h with
  | 0, h => cases h; exact ⟨_, ic_X0⟩
  | 1, h => cases h; exact ⟨_, ic_X2⟩
  | 2, h => cases h; exact ⟨_, ic_X3⟩
  | 3, h => cases h; exact ⟨_, ic_X4⟩
  | 4, h => cases h; exact ⟨_, ic_X5⟩
  | 5, h => cases h; exact ⟨_, ic_X6⟩
  | 6, h => cases h; exact ⟨_, ic_X7⟩
  | 7, h => cases h; exact ⟨_, ic_X8⟩
  | 8, h => cases h; exact ⟨_, ic_X9⟩
  | n + 9, h => simp [clz] at h
theorem ws_cl {s : State} {A : Array Value} (hts : ∀ w ∈ GW, w.before A s = true) : ∀ ci : Nat, ∃ q : ClassId × (Nat → Nat), ∀ (C : String) (T : u_T) (N : Nat), clz[ci]? = some (C, T, N) → u_Kn s C T N q.1 q.2 := by
  intro ci
  cases h : clz[ci]? with
  | none => exact ⟨(0, fun _ => 0), fun _ _ _ q => by cases q⟩
  | some q0 =>
    obtain ⟨C, T, N⟩ := q0
    obtain ⟨n, hi⟩ := ws_ic ci C T N h
    obtain ⟨cC, iS, hk⟩ := u_known hts (cl_in h) (hts _ hi)
    exact ⟨(cC, iS), fun C' T' N' e => by cases e; exact hk⟩
/-- the constants: the first place of each -/
def stT : List (String × Nat) := [("GlitchCourt", 63), ("GlitchCourt$BenchText", 34), ("GlitchCourt$BenchText", 75), ("GlitchCourt$BenchText", 105), ("GlitchCourt", 408), ("GlitchCourt", 410), ("GlitchCourt", 412), ("GlitchCourt", 414), ("GlitchCourt", 416), ("GlitchCourt", 418), ("GlitchCourt", 420), ("GlitchCourt$BenchText", 133), ("GlitchCourt", 138), ("GlitchCourt", 179), ("GlitchCourt", 199), ("GlitchCourt", 205), ("GlitchCourt", 247), ("GlitchCourt", 249), ("GlitchCourt", 301), ("GlitchCourt", 184), ("GlitchCourt", 316), ("GlitchCourt", 345), ("GlitchCourt", 359), ("GlitchCourt", 362), ("GlitchCourt", 382), ("GlitchCourt", 388), ("GlitchCourt", 422), ("GlitchCourt", 423), ("GlitchCourt", 425), ("GlitchCourt", 427), ("GlitchCourt", 429), ("GlitchCourt", 431), ("GlitchCourt", 432)]
def tmS (i : Nat) : Term := .string (stT.getD i ("", 0)).1 (stT.getD i ("", 0)).2
def nFl : List Cond := Jvm.Free.XT.flat (.and given_1 narrow_1)
def stB (i : Nat) : Nat := ([55, 65, 74, 83, 91, 98, 104, 111, 119, 126, 133, 141, 151, 168, 175, 183, 191, 200, 211, 220, 229, 238, 257, 268, 277, 285, 302, 310, 321, 330, 341, 350, 360] : List Nat).getD i 0
theorem st_ex0 : ∀ i, i < 33 → nFl[stB i]? = some (Cond.exactly (tmS i) "java/lang/String") := by decide +kernel
theorem st_co0 : ∀ i, i < 33 → nFl[stB i + 1]? = some (Cond.eq (.field (tmS i) "java/lang/String" "coder" "B") (.int 0)) := by decide +kernel
theorem st_ar0 : ∀ i, i < 33 → nFl[stB i + 2]? = some (Cond.arrayOf (.field (tmS i) "java/lang/String" "value" "[B") .byte) := by decide +kernel
theorem st_le0 : ∀ i, i < 33 → nFl[stB i + 3]? = some (Cond.eq (.length (.field (tmS i) "java/lang/String" "value" "[B")) (.int (Int32.ofNat (lenJS.getD i 0)))) := by decide +kernel
theorem st_el0 : ∀ i, i < 33 → ∀ j, j < lenJS.getD i 0 → nFl[stB i + 4 + j]? = some (Cond.eq (.elem (.field (tmS i) "java/lang/String" "value" "[B") (.int (Int32.ofNat j))) (.int ((bytJS.getD i []).getD j 0))) := by decide +kernel
theorem st_ne : ∀ i, i < 33 → ∀ j, j < 33 → i ≠ j → lenJS.getD i 0 ≠ lenJS.getD j 0 ∨ (List.range (lenJS.getD i 0)).any (fun k => decide ((bytJS.getD i []).getD k 0 ≠ (bytJS.getD j []).getD k 0)) = true := by decide +kernel
theorem zip_in {α β : Type} : ∀ (l : List α) (r : List β), l.length = r.length → ∀ q ∈ l, ∃ k, (q, k) ∈ l.zip r
  | [], _, _, q, h => by cases h
  | a :: l, [], h, _, _ => by cases h
  | a :: l, b :: r, h, q, hq => by
    rcases List.mem_cons.mp hq with e | hq
    · subst e; exact ⟨b, by rw [List.zip_cons_cons]; exact List.mem_cons_self⟩
    · obtain ⟨k, hk⟩ := zip_in l r (Nat.succ.inj h) q hq
      exact ⟨k, by rw [List.zip_cons_cons]; exact List.mem_cons_of_mem _ hk⟩
theorem zip_tb {α : Type} {l : List α} {r : List Nat} {f : α → Cond} (hl : l.length = r.length) (h : ∀ z ∈ l.zip r, lw_tbl[z.2]? = some (f z.1)) : ∀ q ∈ l, f q ∈ lw_tbl := by
  intro q hq
  obtain ⟨k, hk⟩ := zip_in l r hl q hq
  exact List.mem_of_getElem? (h _ hk)
theorem st_ref : ∀ q ∈ strs, Cond.stringRef q.1 q.2.1 q.2.2.1 ∈ lw_tbl := zip_tb (l := strs) (r := [682, 758, 842, 855, 866, 867, 868, 869, 870, 871, 872, 882, 910, 932, 958, 959, 964, 1069, 1085, 1097, 1109, 1124, 1192, 1210, 1219, 1228, 1246, 1248, 1264, 1279, 1280, 1281, 1282, 1283, 1284, 1285, 1308, 1309]) (f := fun q => Cond.stringRef q.1 q.2.1 q.2.2.1) (by decide +kernel) (by decide +kernel)
theorem st_ns : ∀ q ∈ nsts, Cond.methodLinkNest q.1 q.2.1 q.2.2.1 q.2.2.2 ∈ lw_tbl := zip_tb (l := nsts) (r := [142, 254, 288, 317, 323, 491, 494, 536, 555, 849, 863, 977, 1276]) (f := fun q => Cond.methodLinkNest q.1 q.2.1 q.2.2.1 q.2.2.2) (by decide +kernel) (by decide +kernel)
theorem st_cs : ∀ q ∈ csts, Cond.castable q.1 q.2 ∈ lw_tbl := zip_tb (l := csts) (r := [644, 903, 1966, 1967, 1968, 1969, 1970, 1971, 1972, 1973, 1974, 1975, 1976, 1977, 1978]) (f := fun q => Cond.castable q.1 q.2) (by decide +kernel) (by decide +kernel)
theorem st_dc : ∀ q ∈ dcls, Cond.declares q ∈ lw_tbl := zip_tb (l := dcls) (r := [645, 646, 647, 648, 649, 650]) (f := fun q => Cond.declares q) (by decide +kernel) (by decide +kernel)
theorem st_tm0 : ∀ z ∈ strs.zip [0, 0, 0, 0, 0, 0, 0, 0, 0, 0, 0, 0, 0, 167, 0, 0, 0, 0, 0, 0, 0, 0, 0, 256, 0, 0, 0, 0, 301, 0, 0, 0, 0, 0, 0, 0, 375, 382], z.1.2.2.2 < 33 ∧ (tmS z.1.2.2.2 = .string z.1.1 z.1.2.1 ∨ nFl[z.2]? = some (Cond.eq (tmS z.1.2.2.2) (.string z.1.1 z.1.2.1))) := by decide +kernel
theorem st_tm : ∀ q ∈ strs, q.2.2.2 < 33 ∧ (tmS q.2.2.2 = .string q.1 q.2.1 ∨ Cond.eq (tmS q.2.2.2) (.string q.1 q.2.1) ∈ nFl) := by
  intro q hq
  obtain ⟨k, hk⟩ := zip_in strs [0, 0, 0, 0, 0, 0, 0, 0, 0, 0, 0, 0, 0, 167, 0, 0, 0, 0, 0, 0, 0, 0, 0, 256, 0, 0, 0, 0, 301, 0, 0, 0, 0, 0, 0, 0, 375, 382] (by decide +kernel) q hq
  obtain ⟨h1, h2⟩ := st_tm0 _ hk
  exact ⟨h1, h2.imp id (fun h => List.mem_of_getElem? h)⟩
end WS
