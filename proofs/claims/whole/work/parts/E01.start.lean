/-! THE LAW AT ITS START: what the tables and the start say, as the walks want it -/
section WS
theorem ws_arr {s : State} {A : Array Value} {ty : FieldType} (h : (Cond.arrayClass ty).before A s = true) : ∃ cA, ArrOfT s cA ty ∧ s.vm.findClass ("[" ++ ty.toString) = some cA := by
  obtain ⟨c, k, comp, h1, h2, h3⟩ := Cond.arrayClass_spec (args := A) (first := s) (o := none) (s := s) (idx := []) h
  exact ⟨c, fun n z => ⟨(fun k h => by cases h), k, h2, comp, h3⟩, h1⟩
theorem ws_ty {s : State} {A : Array Value} (hts : ∀ w ∈ GW, w.before A s = true) : ∀ t : Nat, ∃ cA : ClassId, t < 7 → ArrOfT s cA (aty t) ∧ va_RA s cA (aty t) := by
  intro t
  match t with
  | 0 => obtain ⟨c, h1, h2⟩ := ws_arr (hts _ ar_int); exact ⟨c, fun _ => ⟨h1, h2⟩⟩
  | 1 => obtain ⟨c, h1, h2⟩ := ws_arr (hts _ ar_long); exact ⟨c, fun _ => ⟨h1, h2⟩⟩
  | 2 => obtain ⟨c, h1, h2⟩ := ws_arr (hts _ ar_byte); exact ⟨c, fun _ => ⟨h1, h2⟩⟩
  | 3 => obtain ⟨c, h1, h2⟩ := ws_arr (hts _ ar_boolean); exact ⟨c, fun _ => ⟨h1, h2⟩⟩
  | 4 =>
    obtain ⟨comp, c, k, h1, -, h3, h4, h5⟩ := Cond.arrayOver_spec (args := A) (first := s) (o := none) (s := s) (idx := []) (hts (.arrayOver (.object "GlitchCourt$State")) (gw_in 131 (by decide +kernel) (by decide +kernel)))
    exact ⟨c, fun _ => ⟨fun n z => ⟨(fun k h => by cases h), k, h3, comp, h4⟩, k, comp, h3, h4, h1, h5⟩⟩
  | 5 =>
    obtain ⟨comp, c, k, h1, -, h3, h4, h5⟩ := Cond.arrayOver_spec (args := A) (first := s) (o := none) (s := s) (idx := []) (hts (.arrayOver (.object "GlitchCourt$Dispute")) (gw_in 140 (by decide +kernel) (by decide +kernel)))
    exact ⟨c, fun _ => ⟨fun n z => ⟨(fun k h => by cases h), k, h3, comp, h4⟩, k, comp, h3, h4, h1, h5⟩⟩
  | 6 =>
    obtain ⟨comp, c, k, h1, h3, h4, h5⟩ := Cond.arrayOver_specA (args := A) (first := s) (o := none) (s := s) (idx := []) (hts (.arrayOver (.array .int)) (gw_in 138 (by decide +kernel) (by decide +kernel)))
    exact ⟨c, fun _ => ⟨fun n z => ⟨(fun k h => by cases h), k, h3, comp, h4⟩, h5⟩⟩
  | n + 7 => exact ⟨0, fun h => absurd h (by omega)⟩
theorem ws_ic : ∀ ci C T N, clz[ci]? = some (C, T, N) → ∃ n, Cond.instantiable C n ∈ GW := by
  intro ci C T N h
  match ci, h with
  | 0, h => cases h; exact ⟨_, ic_X0⟩
  | 1, h => cases h; exact ⟨_, ic_X2⟩
  | 2, h => cases h; exact ⟨_, ic_X3⟩
  | 3, h => cases h; exact ⟨_, ic_X4⟩
  | 4, h => cases h; exact ⟨_, ic_X5⟩
  | 5, h => cases h; exact ⟨_, ic_X6⟩
  | 6, h => cases h; exact ⟨_, ic_X7⟩
  | 7, h => cases h; exact ⟨_, ic_X8⟩
  | 8, h => cases h; exact ⟨_, ic_X9⟩
  | n + 9, h => simp [clz] at h
theorem ws_cl {s : State} {A : Array Value} (hts : ∀ w ∈ GW, w.before A s = true) : ∀ ci : Nat, ∃ q : ClassId × (Nat → Nat), ∀ C T N, clz[ci]? = some (C, T, N) → u_Kn s C T N q.1 q.2 := by
  intro ci
  cases h : clz[ci]? with
  | none => exact ⟨(0, fun _ => 0), fun _ _ _ q => by cases q⟩
  | some q0 =>
    obtain ⟨C, T, N⟩ := q0
    obtain ⟨n, hi⟩ := ws_ic ci C T N h
    obtain ⟨cC, iS, hk⟩ := u_known hts (cl_in h) (hts _ hi)
    exact ⟨(cC, iS), fun C' T' N' e => by cases e; exact hk⟩
/-- the constants: the first place of each -/
def stT : List (String × Nat) := [("GlitchCourt", 63), ("GlitchCourt$BenchText", 34), ("GlitchCourt$BenchText", 75), ("GlitchCourt$BenchText", 105), ("GlitchCourt", 408), ("GlitchCourt", 410), ("GlitchCourt", 412), ("GlitchCourt", 414), ("GlitchCourt", 416), ("GlitchCourt", 418), ("GlitchCourt", 420), ("GlitchCourt$BenchText", 133), ("GlitchCourt", 138), ("GlitchCourt", 179), ("GlitchCourt", 199), ("GlitchCourt", 205), ("GlitchCourt", 247), ("GlitchCourt", 249), ("GlitchCourt", 301), ("GlitchCourt", 184), ("GlitchCourt", 316), ("GlitchCourt", 345), ("GlitchCourt", 359), ("GlitchCourt", 362), ("GlitchCourt", 382), ("GlitchCourt", 388), ("GlitchCourt", 422), ("GlitchCourt", 423), ("GlitchCourt", 425), ("GlitchCourt", 427), ("GlitchCourt", 429), ("GlitchCourt", 431), ("GlitchCourt", 432)]
def tmS (i : Nat) : Term := .string (stT.getD i ("", 0)).1 (stT.getD i ("", 0)).2
def nFl : List Cond := Jvm.Free.XT.flat (.and given_1 narrow_1)
theorem st_ex : ∀ i, i < 33 → Cond.exactly (tmS i) "java/lang/String" ∈ nFl := by decide +kernel
theorem st_co : ∀ i, i < 33 → Cond.eq (.field (tmS i) "java/lang/String" "coder" "B") (.int 0) ∈ nFl := by decide +kernel
theorem st_ar : ∀ i, i < 33 → Cond.arrayOf (.field (tmS i) "java/lang/String" "value" "[B") .byte ∈ nFl := by decide +kernel
theorem st_le : ∀ i, i < 33 → Cond.eq (.length (.field (tmS i) "java/lang/String" "value" "[B")) (.int (Int32.ofNat (lenJS.getD i 0))) ∈ nFl := by decide +kernel
theorem st_el : ∀ i, i < 33 → ∀ j, j < lenJS.getD i 0 → Cond.eq (.elem (.field (tmS i) "java/lang/String" "value" "[B") (.int (Int32.ofNat j))) (.int ((bytJS.getD i []).getD j 0)) ∈ nFl := by decide +kernel
theorem st_ne : ∀ i, i < 33 → ∀ j, j < 33 → i ≠ j → lenJS.getD i 0 ≠ lenJS.getD j 0 ∨ (List.range (lenJS.getD i 0)).any (fun k => decide ((bytJS.getD i []).getD k 0 ≠ (bytJS.getD j []).getD k 0)) = true := by decide +kernel
theorem st_ref : ∀ q ∈ strs, Cond.stringRef q.1 q.2.1 q.2.2.1 ∈ lw_tbl := by decide +kernel
theorem st_tm : ∀ q ∈ strs, q.2.2.2 < 33 ∧ (tmS q.2.2.2 = .string q.1 q.2.1 ∨ Cond.eq (tmS q.2.2.2) (.string q.1 q.2.1) ∈ nFl) := by decide +kernel
/-- strings apart by what they hold -/
theorem ws_S {args : Array Value} {s : State} {N : Nat} {tm : Nat → Term} {len : List Nat} {byt : List (List Int32)} {A : Nat → Prop} (hN : ∀ i : Nat, i < N → len.getD i 0 < 2 ^ 31) (hex : ∀ i : Nat, i < N → (Cond.exactly (tm i) "java/lang/String").before args s = true) (hco : ∀ i : Nat, i < N → (Cond.eq (.field (tm i) "java/lang/String" "coder" "B") (.int 0)).before args s = true)
    (har : ∀ i : Nat, i < N → (Cond.arrayOf (.field (tm i) "java/lang/String" "value" "[B") .byte).before args s = true) (hle : ∀ i : Nat, i < N → (Cond.eq (.length (.field (tm i) "java/lang/String" "value" "[B")) (.int (Int32.ofNat (len.getD i 0)))).before args s = true)
    (hel : ∀ i : Nat, i < N → ∀ j : Nat, j < len.getD i 0 → (Cond.eq (.elem (.field (tm i) "java/lang/String" "value" "[B") (.int (Int32.ofNat j))) (.int ((byt.getD i []).getD j 0))).before args s = true)
    (hne : ∀ i, i < N → ∀ j, j < N → i ≠ j → len.getD i 0 ≠ len.getD j 0 ∨ (List.range (len.getD i 0)).any (fun k => decide ((byt.getD i []).getD k 0 ≠ (byt.getD j []).getD k 0)) = true) (hA : ∀ a : Nat, a < s.heap.size → ¬ A a) :
    ∃ adK adV : Nat → Nat, vk_S N len byt adK adV A s s.heap ∧ ∀ i : Nat, i < N → (tm i).eval args s none [] s = some (.ref (adK i)) := by
  have h0 : ∀ i : Nat, ∃ q : Nat × Nat, i < N → (tm i).eval args s none [] s = some (.ref q.1) ∧ va_O "java/lang/String" q.1 A s s.heap ∧ va_OF "java/lang/String" "coder" "B" (.int 0) q.1 A s s.heap ∧ va_OF "java/lang/String" "value" "[B" (.ref q.2) q.1 A s s.heap ∧ va_T .byte q.2 (len.getD i 0) (fun j => .int ((byt.getD i []).getD j 0)) A s s.heap := by
    intro i
    by_cases hi : i < N
    · obtain ⟨a, c, cA, kA, q1, q2, q3, q4, q5, q6, -⟩ := Cond.exactly_spec (args := args) (first := s) (o := none) (s := s) (idx := []) (t := tm i) (cls := "java/lang/String") (hex i hi)
      obtain ⟨t, ht, hT⟩ := va_Tof (f := fun j => .int ((byt.getD i []).getD j 0)) (A := A) (hN i hi) (har i hi) (va_eqt (hle i hi)) (fun j hj => va_eqt (hel i hi j hj)) hA
      exact ⟨(a, t), fun _ => ⟨q1, ⟨cA, q3, q5, by rw [q6]; exact q2, hA a (Array.getElem?_eq_some_iff.mp q3).1⟩, vk_OFof q1 (va_eqt (hco i hi)) hA, vk_OFof q1 ht hA, hT⟩⟩
    · exact ⟨(0, 0), fun h => absurd h hi⟩
  obtain ⟨ad, had⟩ := Classical.axiomOfChoice h0
  refine ⟨fun i => (ad i).1, fun i => (ad i).2, ⟨fun i hi => (had i hi).2, fun i j hi hj e => ?_⟩, fun i hi => (had i hi).1⟩
  by_cases hij : i = j
  · exact hij
  · exfalso
    obtain ⟨-, -, -, v1, t1⟩ := had i hi
    obtain ⟨-, -, -, v2, t2⟩ := had j hj
    have e : (ad i).1 = (ad j).1 := e
    obtain ⟨cf, k, x, f, cell, g1, -, g3, -, g5, -⟩ := v1
    obtain ⟨cf', k', x', f', cell', g1', -, g3', -, g5', -⟩ := v2
    rw [← e] at g3'
    cases g1.symm.trans g1'
    cases g3.symm.trans g3'
    have e2 : (ad i).2 = (ad j).2 := by
      have h := Option.some.inj (g5.symm.trans g5')
      injection h
    obtain ⟨c1, y1, -, -, y4, y5, y6, -⟩ := t1
    obtain ⟨c2, z1, -, -, z4, z5, z6, -⟩ := t2
    rw [← e2] at z1
    cases y1.symm.trans z1
    have el : len.getD i 0 = len.getD j 0 := by
      have h := congrArg Int32.toNatClampNeg (y5.symm.trans z5)
      rw [show (Int32.ofNat (len.getD i 0)).toNatClampNeg = len.getD i 0 from nI_clamp (hN i hi), show (Int32.ofNat (len.getD j 0)).toNatClampNeg = len.getD j 0 from nI_clamp (hN j hj)] at h
      exact h
    rcases hne i hi j hj hij with q | q
    · exact q el
    · obtain ⟨k, hk, hd⟩ := List.any_eq_true.mp q
      have hk := List.mem_range.mp hk
      have h1 := Option.some.inj ((y6 k hk).symm.trans (z6 k (by rw [← el]; exact hk)))
      injection h1 with h2
      exact of_decide_eq_true hd h2
theorem ws_null {args : Array Value} {s : State} {C n d : String} (h : (Cond.isRef (.static C n d)).before args s = true) : (Term.static C n d).eval args s none [] s = some .null ∨ ∃ a, (Term.static C n d).eval args s none [] s = some (.ref a) := by
  cases hv : (Term.static C n d).eval args s none [] s with
  | none => simp [Cond.before, Cond.holds, Cond.value, hv] at h
  | some w =>
    cases w with
    | null => exact Or.inl rfl
    | ref a => exact Or.inr ⟨a, rfl⟩
    | _ => simp [Cond.before, Cond.holds, Cond.value, Value.isRef, hv] at h
theorem ws_G {l : Launch} {s : State} {b L : Nat} {xs : Nat → Int32} (hflags : l.flags = flags0) (hts : ∀ w ∈ lw_tbl, w.before #[Value.ref b] s = true) (hX : va_X b L xs s s.heap) (hb : b < s.heap.size) (hg : (Jvm.Cond.and given_1 narrow_1).before #[Value.ref b] s = true) : ∃ G : GT, gl G = l ∧ gn G = s.heap.size ∧ gb G = b ∧ gL G = L ∧ KS G s ∧ SX G s s.heap := by
  have hgw : ∀ w ∈ GW, w.before #[Value.ref b] s = true := fun w hw => hts w (List.mem_filter.mp hw).1
  have hn : ∀ w ∈ nFl, w.before #[Value.ref b] s = true := flat_of_before _ hg
  obtain ⟨gCI, hCI⟩ := Classical.axiomOfChoice (ws_cl hgw)
  obtain ⟨ga, hga⟩ := Classical.axiomOfChoice (ws_ty hgw)
  have hA : ∀ a : Nat, a < s.heap.size → ¬ (s.heap.size ≤ a) := fun a h1 h2 => absurd h1 (Nat.not_lt.mpr h2)
  obtain ⟨adK, adV, hS, hev⟩ := ws_S (args := #[Value.ref b]) (s := s) (N := 33) (tm := tmS) (len := lenJS) (byt := bytJS) (A := fun q => s.heap.size ≤ q) (by decide +kernel) (fun i hi => hn _ (st_ex i hi)) (fun i hi => hn _ (st_co i hi)) (fun i hi => hn _ (st_ar i hi)) (fun i hi => hn _ (st_le i hi)) (fun i hi j hj => hn _ (st_el i hi j hj)) st_ne hA
  have hZ : ∃ r : Nat, va_Z "jdk/internal/util/Preconditions" "SIOOBE_FORMATTER" "Ljava/util/function/BiFunction;" .null (fun q => s.heap.size ≤ q) s s.heap ∨ va_Z "jdk/internal/util/Preconditions" "SIOOBE_FORMATTER" "Ljava/util/function/BiFunction;" (.ref r) (fun q => s.heap.size ≤ q) s s.heap := by
    have hl := hgw (.laysStatic "jdk/internal/util/Preconditions" "SIOOBE_FORMATTER" "Ljava/util/function/BiFunction;") (gw_in 792 (by decide +kernel) (by decide +kernel))
    have hi := hgw (.initialized "jdk/internal/util/Preconditions") (gw_in 109 (by decide +kernel) (by decide +kernel))
    rcases ws_null (hn (.isRef (.static "jdk/internal/util/Preconditions" "SIOOBE_FORMATTER" "Ljava/util/function/BiFunction;")) (by decide +kernel)) with q | ⟨r, q⟩
    · exact ⟨0, Or.inl (va_Zof hl hi q hA)⟩
    · exact ⟨r, Or.inr (va_Zof hl hi q hA)⟩
  obtain ⟨r, hZ⟩ := hZ
  refine ⟨(l, fun c => (gCI c).1, fun c => (gCI c).2, ga, s.heap.size, fun i => if i < 100 then adK i else if i < 200 then adV (i - 100) else r, b, L, xs), rfl, rfl, rfl, rfl, ?_, ?_⟩
  · refine ⟨⟨fun c q hq => ?_, fun k q hq => ?_⟩, ?_, ?_, ?_, ?_, ?_, ?_, ?_, ?_, ?_⟩
    · obtain ⟨C, T, N⟩ := q
      exact hCI c C T N hq
    · have hk : k < 7 := by
        have h := (List.getElem?_eq_some_iff.mp hq).1
        simpa [tysG] using h
      rw [tys_get _ hk] at hq
      cases hq
      exact hga k hk
    · intro q hq
      exact va_Nw.of rfl (hts _ ((show ∀ q ∈ nsts, Cond.methodLinkNest q.1 q.2.1 q.2.2.1 q.2.2.2 ∈ lw_tbl by decide +kernel) q hq))
    · intro q hq
      exact va_Nw.of rfl (hts _ ((show ∀ q ∈ csts, Cond.castable q.1 q.2 ∈ lw_tbl by decide +kernel) q hq))
    · intro q hq
      exact va_Nw.of rfl (hts _ ((show ∀ q ∈ dcls, Cond.declares q ∈ lw_tbl by decide +kernel) q hq))
    · exact va_AO.of (hgw _ (gw_in 131 (by decide +kernel) (by decide +kernel)))
    · exact va_AO.of (hgw _ (gw_in 140 (by decide +kernel) (by decide +kernel)))
    · have h := hgw (.arrayOver (.array .int)) (gw_in 138 (by decide +kernel) (by decide +kernel))
      show (Cond.arrayOver (.array .int)).before #[] s = true
      first
        | exact va_tabs rfl rfl h
        | exact h
    · intro q hq
      obtain ⟨h33, ht⟩ := st_tm q hq
      refine vk_R.of (hts _ (st_ref q hq)) ?_
      show _ = some (.ref (if q.2.2.2 < 100 then adK q.2.2.2 else _))
      rw [if_pos (by omega)]
      rcases ht with ht | ht
      · rw [← ht]; exact hev _ h33
      · exact va_eqR (hn _ ht) (hev _ h33)
    · exact va_Nc.of (hn (.not (.castable "java/lang/IllegalArgumentException" "java/util/NoSuchElementException")) (by decide +kernel))
    · show (!l.flags.contains noTraceFlag) = false
      rw [hflags]
      decide +kernel
  · refine ⟨hX, hb, ?_, ?_, ?_, ?_, ?_⟩
    · exact vx_Zqof (hgw _ (gw_in 669 (by decide +kernel) (by decide +kernel))) (hgw (.initialized "java/lang/Throwable") (gw_in 100 (by decide +kernel) (by decide +kernel))) (hn _ (by decide +kernel)) hA
    · exact vx_Zqof (hgw _ (gw_in 671 (by decide +kernel) (by decide +kernel))) (hgw (.initialized "java/lang/Throwable") (gw_in 100 (by decide +kernel) (by decide +kernel))) (hn _ (by decide +kernel)) hA
    · refine ⟨fun i hi => ?_, fun i j hi hj e => ?_⟩
      · have h := hS.1 i hi
        have hi : i < 33 := hi
        show va_O _ (if i < 100 then adK i else _) _ _ _ ∧ va_OF _ _ _ _ (if i < 100 then adK i else _) _ _ _ ∧ va_OF _ _ _ (.ref (if 100 + i < 100 then _ else if 100 + i < 200 then adV (100 + i - 100) else r)) (if i < 100 then adK i else _) _ _ _ ∧ va_T _ (if 100 + i < 100 then _ else if 100 + i < 200 then adV (100 + i - 100) else r) _ _ _ _ _
        rw [if_pos (show i < 100 by omega), if_neg (show ¬ 100 + i < 100 by omega), if_pos (show 100 + i < 200 by omega), show 100 + i - 100 = i by omega]
        exact h
      · have hi9 : i < 33 := hi
        have hj9 : j < 33 := hj
        have e9 : (if i < 100 then adK i else if i < 200 then adV (i - 100) else r) = (if j < 100 then adK j else if j < 200 then adV (j - 100) else r) := e
        rw [if_pos (by omega), if_pos (by omega)] at e9
        exact hS.2 i j hi hj e9
    · exact va_Zof (hgw _ (gw_in 776 (by decide +kernel) (by decide +kernel))) (hgw (.initialized "java/lang/String") (gw_in 107 (by decide +kernel) (by decide +kernel))) (va_eqi (hn _ (by decide +kernel))) hA
    · exact hZ
end WS
