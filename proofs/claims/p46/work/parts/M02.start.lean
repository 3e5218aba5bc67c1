/-! THE LAW AT ITS START: the world -/
section WS2
/-- strings apart by what they hold -/
theorem ws_S {args : Array Value} {s : State} {N : Nat} {tm : Nat → Term} {len : List Nat} {byt : List (List Int32)} {A : Nat → Prop} (hN : ∀ i : Nat, i < N → len.getD i 0 < 2 ^ 31) (hex : ∀ i : Nat, i < N → (Cond.exactly (tm i) "java/lang/String").before args s = true) (hco : ∀ i : Nat, i < N → (Cond.eq (.field (tm i) "java/lang/String" "coder" "B") (.int 0)).before args s = true)
    (har : ∀ i : Nat, i < N → (Cond.arrayOf (.field (tm i) "java/lang/String" "value" "[B") .byte).before args s = true) (hle : ∀ i : Nat, i < N → (Cond.eq (.length (.field (tm i) "java/lang/String" "value" "[B")) (.int (Int32.ofNat (len.getD i 0)))).before args s = true)
    (hel : ∀ i : Nat, i < N → ∀ j : Nat, j < len.getD i 0 → (Cond.eq (.elem (.field (tm i) "java/lang/String" "value" "[B") (.int (Int32.ofNat j))) (.int ((byt.getD i []).getD j 0))).before args s = true)
    (hne : ∀ i, i < N → ∀ j, j < N → i ≠ j → len.getD i 0 ≠ len.getD j 0 ∨ (List.range (len.getD i 0)).any (fun k => decide ((byt.getD i []).getD k 0 ≠ (byt.getD j []).getD k 0)) = true) (hA : ∀ a : Nat, a < s.heap.size → ¬ A a) :
    ∃ adK adV : Nat → Nat, vk_S N len byt adK adV A s s.heap ∧ ∀ i : Nat, i < N → (tm i).eval args s none [] s = some (.ref (adK i)) := by
  have h0 : ∀ i : Nat, ∃ q : Nat × Nat, i < N → (tm i).eval args s none [] s = some (.ref q.1) ∧ va_O "java/lang/String" q.1 A s s.heap ∧ va_OF "java/lang/String" "coder" "B" (.int 0) q.1 A s s.heap ∧ va_OF "java/lang/String" "value" "[B" (.ref q.2) q.1 A s s.heap ∧ va_T .byte q.2 (len.getD i 0) (fun j => .int ((byt.getD i []).getD j 0)) A s s.heap := by
    intro i
    by_cases hi : i < N
    · obtain ⟨a, c, cA, kA, q1, q2, q3, q4, q5, q6, -⟩ := Cond.exactly_spec (args := args) (first := s) (o := none) (s := s) (idx := []) (t := tm i) (cls := "java/lang/String") (hex i hi)
      obtain ⟨t, ht, hT⟩ := va_Tof (f := fun j => .int ((byt.getD i []).getD j 0)) (A := A) (hN i hi) (har i hi) (va_eqt (hle i hi)) (fun j hj => va_eqt (hel i hi j hj)) hA
      exact ⟨(a, t), fun _ => ⟨q1, ⟨cA, q3, q5, by rw [q6]; exact q2, hA a (Array.getElem?_eq_some_iff.mp q3).1⟩, vk_OFof q1 (va_eqt (hco i hi)) hA, vk_OFof q1 ht hA, hT⟩⟩
    · exact ⟨(0, 0), fun h => absurd h hi⟩
  obtain ⟨ad, had⟩ := Classical.axiomOfChoice h0
  refine ⟨fun i => (ad i).1, fun i => (ad i).2, ⟨fun i hi => (had i hi).2, fun i j hi hj e => ?_⟩, fun i hi => (had i hi).1⟩
  by_cases hij : i = j
  · exact hij
  · exfalso
    obtain ⟨-, -, -, v1, t1⟩ := had i hi
    obtain ⟨-, -, -, v2, t2⟩ := had j hj
    have e : (ad i).1 = (ad j).1 := e
    obtain ⟨cf, k, x, f, cell, g1, -, g3, -, g5, -⟩ := v1
    obtain ⟨cf', k', x', f', cell', g1', -, g3', -, g5', -⟩ := v2
    rw [← e] at g3'
    cases g1.symm.trans g1'
    cases g3.symm.trans g3'
    have e2 : (ad i).2 = (ad j).2 := by
      have h := Option.some.inj (g5.symm.trans g5')
      injection h
    obtain ⟨c1, y1, -, -, y4, y5, y6, -⟩ := t1
    obtain ⟨c2, z1, -, -, z4, z5, z6, -⟩ := t2
    rw [← e2] at z1
    cases y1.symm.trans z1
    have el : len.getD i 0 = len.getD j 0 := by
      have h := congrArg Int32.toNatClampNeg (y5.symm.trans z5)
      rw [show (Int32.ofNat (len.getD i 0)).toNatClampNeg = len.getD i 0 from nI_clamp (hN i hi), show (Int32.ofNat (len.getD j 0)).toNatClampNeg = len.getD j 0 from nI_clamp (hN j hj)] at h
      exact h
    rcases hne i hi j hj hij with q | q
    · exact q el
    · obtain ⟨k, hk, hd⟩ := List.any_eq_true.mp q
      have hk := List.mem_range.mp hk
      have h1 := Option.some.inj ((y6 k hk).symm.trans (z6 k (by rw [← el]; exact hk)))
      injection h1 with h2
      exact of_decide_eq_true hd h2
theorem ws_null {args : Array Value} {s : State} {C n d : String} (h : (Cond.isRef (.static C n d)).before args s = true) : (Term.static C n d).eval args s none [] s = some .null ∨ ∃ a, (Term.static C n d).eval args s none [] s = some (.ref a) := by
  cases hv : (Term.static C n d).eval args s none [] s with
  | none => simp [Cond.before, Cond.holds, Cond.value, hv] at h
  | some w =>
    cases w with
    | null => exact Or.inl rfl
    | ref a => exact Or.inr ⟨a, rfl⟩
    | _ => simp [Cond.before, Cond.holds, Cond.value, Value.isRef, hv] at h
theorem ws_G {l : Launch} {s : State} {b L : Nat} {xs : Nat → Int32} (hflags : l.flags = flags0) (hts : ∀ w ∈ lw_tbl, w.before #[Value.ref b] s = true) (hX : va_X b L xs s s.heap) (hb : b < s.heap.size) (hg : (Jvm.Cond.and given_1 narrow_1).before #[Value.ref b] s = true) : ∃ G : GT, gl G = l ∧ g0 G = s.heap.size ∧ gb G = b ∧ gL G = L ∧ KS G s ∧ SX G s s.heap := by
  have hgw : ∀ w ∈ GW, w.before #[Value.ref b] s = true := fun w hw => hts w (List.mem_filter.mp hw).1
  have hn : ∀ w ∈ nFl, w.before #[Value.ref b] s = true := flat_of_before _ hg
  obtain ⟨gCI, hCI⟩ := Classical.axiomOfChoice (ws_cl hgw)
  obtain ⟨ga, hga⟩ := Classical.axiomOfChoice (ws_ty hts hgw)
  have hA : ∀ a : Nat, a < s.heap.size → ¬ (s.heap.size ≤ a) := fun a h1 h2 => absurd h1 (Nat.not_lt.mpr h2)
  obtain ⟨adK, adV, hS, hev⟩ := ws_S (args := #[Value.ref b]) (s := s) (N := 31) (tm := tmS) (len := lenJS) (byt := bytJS) (A := fun q => s.heap.size ≤ q) (by decide +kernel) (fun i hi => hn _ (List.mem_of_getElem? (st_ex0 i hi))) (fun i hi => hn _ (List.mem_of_getElem? (st_co0 i hi))) (fun i hi => hn _ (List.mem_of_getElem? (st_ar0 i hi))) (fun i hi => hn _ (List.mem_of_getElem? (st_le0 i hi))) (fun i hi j hj => hn _ (List.mem_of_getElem? (st_el0 i hi j hj))) st_ne hA
  have hZ : ∃ r : Nat, va_Z "jdk/internal/util/Preconditions" "SIOOBE_FORMATTER" "Ljava/util/function/BiFunction;" .null (fun q => s.heap.size ≤ q) s s.heap ∨ va_Z "jdk/internal/util/Preconditions" "SIOOBE_FORMATTER" "Ljava/util/function/BiFunction;" (.ref r) (fun q => s.heap.size ≤ q) s s.heap := by
    have hl := hts (.laysStatic "jdk/internal/util/Preconditions" "SIOOBE_FORMATTER" "Ljava/util/function/BiFunction;") (List.mem_of_getElem? (i := 433) (by decide +kernel))
    have hi := hts (.initialized "jdk/internal/util/Preconditions") (List.mem_of_getElem? (i := 39) (by decide +kernel))
    rcases ws_null (hn (.isRef (.static "jdk/internal/util/Preconditions" "SIOOBE_FORMATTER" "Ljava/util/function/BiFunction;")) (List.mem_of_getElem? (i := 5) (by decide +kernel))) with q | ⟨r, q⟩
    · exact ⟨0, Or.inl (va_Zof hl hi q hA)⟩
    · exact ⟨r, Or.inr (va_Zof hl hi q hA)⟩
  obtain ⟨r, hZ⟩ := hZ
  refine ⟨(l, fun c => (gCI c).1, fun c => (gCI c).2, ga, s.heap.size, fun i => if i < 100 then adK i else if i < 200 then adV (i - 100) else r, b, L, xs), rfl, rfl, rfl, rfl, ?_, ?_⟩
  · refine ⟨⟨fun c q hq => ?_, fun k q hq => ?_⟩, ?_, ?_, ?_, ?_, ?_, ?_, ?_, ?_, ?_⟩
    · obtain ⟨C, T, N⟩ := q
      exact hCI c C T N hq
    · have hk : k < 8 := by
        have h := (List.getElem?_eq_some_iff.mp hq).1
        simpa [tysG] using h
      rw [tys_get _ hk] at hq
      cases hq
      exact hga k hk
    · intro q hq
      exact va_Nw.of rfl (hts _ (st_ns q hq))
    · intro q hq
      exact va_Nw.of rfl (hts _ (st_cs q hq))
    · intro q hq
      exact va_Nw.of rfl (hts _ (st_dc q hq))
    · exact va_AO.of (hts _ (List.mem_of_getElem? (i := 67) (by decide +kernel)))
    · exact va_AO.of (hts _ (List.mem_of_getElem? (i := 76) (by decide +kernel)))
    · have h := hts (.arrayOver (.array .int)) (List.mem_of_getElem? (i := 74) (by decide +kernel))
      show (Cond.arrayOver (.array .int)).before #[] s = true
      first
        | exact va_tabs rfl rfl h
        | exact h
    · intro q hq
      obtain ⟨h33, ht⟩ := st_tm q hq
      refine vk_R.of (hts _ (st_ref q hq)) ?_
      show _ = some (Value.ref (if q.2.2.2 < 100 then adK q.2.2.2 else _))
      rw [if_pos (by omega)]
      rcases ht with ht | ht
      · rw [← ht]; exact hev _ h33
      · exact va_eqR (hn _ ht) (hev _ h33)
    · exact va_Nc.of (hn (.not (.castable "java/lang/Throwable" "GlitchCourt$State")) (List.mem_of_getElem? (i := 21) (by decide +kernel)))
    · show (!l.flags.contains noTraceFlag) = false
      rw [hflags]
      decide +kernel
  · refine ⟨hX, hb, ?_, ?_, ?_, ?_, ?_⟩
    · exact vx_Zqof (hts _ (List.mem_of_getElem? (i := 522) (by decide +kernel))) (hts (.initialized "java/lang/Throwable") (List.mem_of_getElem? (i := 41) (by decide +kernel))) (hn _ (List.mem_of_getElem? (i := 9) (by decide +kernel))) hA
    · exact vx_Zqof (hts _ (List.mem_of_getElem? (i := 524) (by decide +kernel))) (hts (.initialized "java/lang/Throwable") (List.mem_of_getElem? (i := 41) (by decide +kernel))) (hn _ (List.mem_of_getElem? (i := 10) (by decide +kernel))) hA
    · refine ⟨fun i hi => ?_, fun i j hi hj e => ?_⟩
      · have h := hS.1 i hi
        have hi : i < 31 := hi
        show va_O _ (if i < 100 then adK i else _) _ _ _ ∧ va_OF _ _ _ _ (if i < 100 then adK i else _) _ _ _ ∧ va_OF _ _ _ (Value.ref (if 100 + i < 100 then _ else if 100 + i < 200 then adV (100 + i - 100) else r)) (if i < 100 then adK i else _) _ _ _ ∧ va_T _ (if 100 + i < 100 then _ else if 100 + i < 200 then adV (100 + i - 100) else r) _ _ _ _ _
        rw [if_pos (show i < 100 by omega), if_neg (show ¬ 100 + i < 100 by omega), if_pos (show 100 + i < 200 by omega), show 100 + i - 100 = i by omega]
        exact h
      · have hi9 : i < 31 := hi
        have hj9 : j < 31 := hj
        have e9 : (if i < 100 then adK i else if i < 200 then adV (i - 100) else r) = (if j < 100 then adK j else if j < 200 then adV (j - 100) else r) := e
        rw [if_pos (by omega), if_pos (by omega)] at e9
        exact hS.2 i j hi hj e9
    · exact va_Zof (hts _ (List.mem_of_getElem? (i := 417) (by decide +kernel))) (hts (.initialized "java/lang/String") (List.mem_of_getElem? (i := 37) (by decide +kernel))) (va_eqi (hn _ (List.mem_of_getElem? (i := 4) (by decide +kernel)))) hA
    · exact hZ
end WS2
