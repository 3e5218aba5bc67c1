section VMM
variable {G : GT} {Y Y2 : MT} {pc pc' : Nat} {ls ls' : List (Nat × Value)} {st : List Value} {u : MU} {c0 s0 : Nat} {Q Q1 : Option Value → MU → Prop} {QX QX1 : String → MU → Prop}
variable {I : Nat → Nat → Int32} {L : Nat → Nat → Int64} {R : Nat → Nat → Option Nat} {nx : Nat}
/-- the world behind new int[3][16] -/
def mnu (I : Nat → Nat → Int32) (L : Nat → Nat → Int64) (R : Nat → Nat → Option Nat) (nx : Nat) : MU :=
  (fun a j => if nx ≤ a ∧ a < nx + 4 then 0 else I a j, fun a j => if nx ≤ a ∧ a < nx + 4 then 0 else L a j, fun a j => if a = nx then (if j < 3 then some (nx + 1 + j) else none) else if nx ≤ a ∧ a < nx + 4 then none else R a j, nx + 4)
theorem mnu_old {k : Nat} (h : k < nx) : cel G (mnu I L R nx) k = cel G (I, L, R, nx) k := by
  have h1 : ¬ (nx ≤ k ∧ k < nx + 4) := by omega
  have h2 : ¬ k = nx := by omega
  exact cel_same (by funext j; simp [mnu, h1]) (by funext j; simp [mnu, h1]) (by funext j; simp [mnu, h1, h2])
theorem v_mna (k : Nat) {idx : Nat} (hd : (yP Y)[k]? = some (pc, .multianewarray idx 2, 4)) (hp : pc + 4 = pc') (hk : Cond.classLink (yN Y).cls idx "[[I" ∈ GW) (har : Cond.arrayClass .int ∈ GW) (hl0 : LAY nx = 26) (hl1 : LAY (nx + 1) = 20) (hl2 : LAY (nx + 2) = 20) (hl3 : LAY (nx + 3) = 20) (hn0 : LEN nx = 3) (hn1 : LEN (nx + 1) = 16) (hn2 : LEN (nx + 2) = 16) (hn3 : LEN (nx + 3) = 16)
    (hx : nx + 4 ≤ 457) (hc : c0 + 4 ≤ (yR Y).cells) (hs : s0 + 51 ≤ (yR Y).slots) (kk : V G Y pc' ls (.ref nx :: st) (mnu I L R nx) (c0 + 4) (s0 + 51) Q QX) : V G Y pc ls (.int 16 :: .int 3 :: st) (I, L, R, nx) c0 s0 Q QX := by
  subst hp
  intro p e s m args below meth c C H locs arr hH hS hl hz
  refine W.le (fun hle => ?_)
  have hz1 : s.heap.size + c0 = gn G + nx := hz (by show nx < 457; omega)
  have hsz : H.size = gn G + nx := by
    refine Nat.le_antisymm (by omega) ?_
    by_cases h0 : nx = 0
    · rw [h0]; exact Nat.le_trans (cxn C) hS.1
    · have h3 := (hH.1 (nx - 1) _ (wl_get G (I, L, R, nx) (by show nx - 1 < nx; omega))).lt
      have h4 : gn G + (nx - 1) < H.size := h3
      omega
  have hcy : s.vm.findClass (FieldType.array .int).toString = some (gA G 0) := ((cxk C).1.2 0 _ (tys_get G (by decide))).2
  intro T hT X
  obtain ⟨vm₁, cA, comp, -, fA, fC, hO, -, X', step⟩ := X.multianewarray2F (cxx C) (cxo C) (cxw C _ hk) (va_AOA.use (cxk C).2.2.2.2.2.2.1) (cxw C _ har) (g := F0 m pc arr (.int 16 :: .int 3 :: st.map (cv G))) rfl (by rw [cxb C]; exact cxd C hd) rfl (by decide) (by decide) (by decide) (by decide) (by decide) rfl rfl (n := 3) (k := 16) (by show c0 + 4 ≤ _; exact hc) (by show s0 + 51 ≤ _; exact hs)
  have ec : gA G 0 = comp := Option.some.inj (hcy.symm.trans fC)
  subst ec
  have eA : cA = gA G 6 := Option.some.inj (fA.symm.trans ((cxk C).1.2 6 _ (tys_get G (by decide))).2)
  subst eA
  have hN3 : (3 : Int32).toNatClampNeg = 3 := by decide
  have hN16 : (16 : Int32).toNatClampNeg = 16 := by decide
  rw [hN3, hN16] at X' step
  generalize hF : Jvm.Free.Multi.fill (T.setVm vm₁) (gA G 6) (gA G 0) 3 16 (defaultValue .int) 3 = F at X' step
  have hTh : (T.setVm vm₁).heap = H := hT
  obtain ⟨f1, f2, -, -⟩ := Jvm.Free.Multi.fill_facts (T.setVm vm₁) (gA G 6) (gA G 0) 3 16 (defaultValue .int) 3
  rw [hF, hTh] at f1 f2
  have hold : ∀ x : Nat, x < H.size → F.heap[x]? = H[x]? := fun x hx9 => by
    have := Jvm.Free.Multi.fill_old (T.setVm vm₁) (gA G 6) (gA G 0) 3 16 (defaultValue .int) (a := x) (by rw [hTh]; exact hx9) 3
    rw [hF, hTh] at this
    exact this
  have hrow : ∀ j : Nat, j < 3 → F.heap[H.size + 1 + j]? = some (vp_cell (gA G 0) (16, .inl (fun _ => 0))) := fun j hj => by
    have h9 := Jvm.Free.Multi.fill_inner (T.setVm vm₁) (gA G 6) (gA G 0) 3 16 (defaultValue .int) 3 j hj
    rw [hF, hTh] at h9
    rw [h9, vp_cell_i]
    exact congrArg some (arrV_new (gA G 0) 16 (defaultValue .int))
  have hout : F.heap[H.size]? = some (vp_cell (gA G 6) (3, .inr (.inr (.inr (.inr (fun i => if i < 3 then some (H.size + 1 + i) else none)))))) := by
    rw [f2, vp_cell_q]
    exact congrArg some (vr_outer (gA G 6) 3 H.size 3)
  have hP' : va_P (gC G, gI G) clz (wl G (mnu I L R nx)) F.heap := by
    intro k9 q9 hk9
    obtain ⟨hlt, rfl⟩ := wl_getI hk9
    have hlt : k9 < nx + 4 := hlt
    rcases Nat.lt_or_ge k9 nx with h | h
    · rw [mnu_old h]
      have h8 := hH.1 k9 _ (wl_get G (I, L, R, nx) h)
      refine h8.kept (hold _ ?_)
      exact h8.lt
    · rcases Nat.eq_or_lt_of_le h with h | h
      · subst h
        rw [cel_arr (t := 6) hl0]
        show F.heap[gn G + nx]? = some (vp_cell (gA G 6) (LEN nx, dta G (mnu I L R nx) nx 6))
        rw [← hsz, hout, hn0]
        congr 2
        simp only [dta, mnu]
        congr 5
        funext j
        by_cases hj : j < 3
        · simp only [hj, if_true, Option.map_some]
          rw [AD_in G (by omega), hsz]
          congr 1
          omega
        · simp [hj]
      · have hm : ∀ j, j < 3 → k9 = nx + 1 + j → LAY k9 = 20 → LEN k9 = 16 → va_at (gC G, gI G) clz (gn G + k9, cel G (mnu I L R nx) k9) F.heap := by
          intro j hj e h1 h2
          rw [cel_arr (t := 0) h1]
          show F.heap[gn G + k9]? = some (vp_cell (gA G 0) (LEN k9, dta G (mnu I L R nx) k9 0))
          rw [show gn G + k9 = H.size + 1 + j by omega, hrow j hj, h2]
          congr 2
          simp only [dta, mnu]
          congr 2
          funext i
          rw [if_pos (by omega)]
        rcases (show k9 = nx + 1 ∨ k9 = nx + 2 ∨ k9 = nx + 3 by omega) with e | e | e
        · exact hm 0 (by decide) (by omega) (by rw [e]; exact hl1) (by rw [e]; exact hn1)
        · exact hm 1 (by decide) (by omega) (by rw [e]; exact hl2) (by rw [e]; exact hn2)
        · exact hm 2 (by decide) (by omega) (by rw [e]; exact hl3) (by rw [e]; exact hn3)
  have hS' : va_S (AA G) s.heap F.heap locs := ⟨by rw [f1]; have := hS.1; omega, fun x h1 h2 => (hold x (Nat.lt_of_lt_of_le h1 hS.1)).trans (hS.2.1 x h1 h2), hS.2.2⟩
  obtain ⟨t, a1, b1⟩ := kk p e s m args below meth c C F.heap locs arr ⟨hP', hx⟩ hS' hl (fun _ => by show s.heap.size + (c0 + 4) = gn G + (nx + 4); omega) F rfl X'
  refine ⟨t, step t ?_, b1⟩
  have e1 : T.heap.size = gn G + nx := by rw [hT]; exact hsz
  rw [e1]
  have hc2 : cv G (.ref nx) = .ref (gn G + nx) := by simp [cv, AD_in G (show nx < 457 by omega)]
  rw [show ((Value.ref nx :: st).map (cv G)) = .ref (gn G + nx) :: st.map (cv G) by simp [hc2]] at a1
  exact a1
/-! methods with a table: the law's wrappers -/
theorem MW.introH {args : List Value} {q9 : Nat × Nat × Nat × Nat} {r9 : List (Nat × Nat × Nat × Nat)} (hY : yH Y = q9 :: r9) (hy : plainName (yN Y).cls = true) (hP : (yP Y).all (okI (yB Y)) = true) (hl : (lg_sl args).length ≤ yM Y) (k : V G Y 0 (lv_args 0 args) [] u 0 0 Q QX) : MW G Y args u Q QX := by
  have hw : yW Y = Cond.codeWith (yN Y) (yB Y) (yM Y) (yT Y) (q9 :: r9) :: GW := by simp [yW, yC, hY]
  refine vx_ofWH (cc := yB Y) (maxL := yM Y) (ret := yT Y) hy hw ?_
  intro p e s m args' below meth c s₁ B hml hv
  obtain ⟨rfl, hH, hK, hX, hn, hz⟩ := hv
  have hts := atoms_spec (ws := yW Y) B.pre
  have htb : c.exceptionTable.toList = tableOf (yH Y) := by
    rw [hY]
    exact vx_table (x := yN Y) B (hts _ (by rw [hw]; exact List.mem_cons_self))
  have C : CX G Y p s m (args.map (cv G)).toArray meth c := ⟨B.exec, B.bytes, hml, findClass_of_methodNamed B.named, fun w h => hts w (List.mem_cons_of_mem _ h), B.notSynchronized, B.returns, List.all_eq_true.mp hP, hK, hX, hn, (name_of_methodNamed B.named B.method).1, htb⟩
  rw [lg_entry_eq]
  have hlen : (lg_sl (args.map (cv G))).length ≤ yM Y := by rw [lsl_cv]; exact hl
  have hl9 := lv_entry (args.map (cv G)) hlen
  rw [lcv_args] at hl9
  exact k p e s m _ below meth c C s.heap [] _ hH va_S.rf hl9 hz
/-- a static call of a method with a table -/
theorem v_cSX (k : Nat) {idx n : Nat} {As : List Value} {q9 : Nat × Nat × Nat × Nat} {r9 : List (Nat × Nat × Nat × Nat)} (hd : (yP Y)[k]? = some (pc, .invokestatic idx, 3)) (hp : pc + 3 = pc') (hF : MF Y2 n) (h0 : yH Y2 = q9 :: r9) (hR : RM Y Y2 = true) (hl : Cond.methodLink (yN Y).cls idx (yN Y2) ∈ GW) (hsc : Cond.static (yN Y2) ∈ GW)
    (hn : As.length = n) (hst : (st.map fun v => v.category).sum ≤ 8) (hc : c0 + (yR Y2).cells ≤ (yR Y).cells ∧ s0 + (yR Y2).slots ≤ (yR Y).slots)
    {c1 s1 : Nat} (e1 : c0 + (yR Y2).cells = c1) (e2 : s0 + (yR Y2).slots = s1) (hM : MW G Y2 As u Q1 QX1) (kx : ∀ E u', QX1 E u' → VX G Y pc ls st E u' c1 s1 Q QX)
    (kk : ∀ v u', Q1 v u' → (u'.2.2.2 < 457 → u'.2.2.2 = u.2.2.2 + (yR Y2).cells) ∧ V G Y pc' ls (v.toList ++ st) u' c1 s1 Q QX) : V G Y pc ls (As.reverse ++ st) u c0 s0 Q QX := by
  subst e1
  subst e2
  refine v_call hp (fun p e s m args below meth c H locs arr T9 hsz => ?_) kx kk
  obtain ⟨f1, f2, f3, f4⟩ := hF
  obtain ⟨r1, r2⟩ := of_decide_eq_true hR
  have hC9 : yC Y2 = Cond.codeWith (yN Y2) (yB Y2) (yM Y2) (yT Y2) (q9 :: r9) := by simp [yC, h0]
  refine vx_runSX (As := As.map (cv G)) (hh := q9 :: r9) (bytes := yB Y2) (maxL := yM Y2) (ret := yT Y2) (n := n) (cx_fix T9.1) hM ⟨⟨rfl, rfl, r1, r2, yW_pay (cxw T9.1) f1, by rw [← hC9]; exact List.mem_cons_self⟩, by rw [← hC9]; exact cxw T9.1 _ f1, cxw T9.1 _ f2, f3, fun sig h => by rw [h] at f4; exact (Option.some.inj f4).symm, cxw T9.1 _ hl, cxw T9.1 _ hsc⟩ ⟨PC_blind G _ u, fun U hU hW => T9.pc As U hU hW⟩ rfl (by rw [List.length_map]; exact hn) hsz ?_ (lv_room (st_room hst)) (cxd T9.1 hd) hc
  show (As.reverse ++ st).map (cv G) = (As.map (cv G)).reverse ++ st.map (cv G)
  rw [List.map_append, List.map_reverse]
/-- the handler that answers a number: astore; iconst; ireturn -/
theorem hd_ret {p : Program} {e : Env} {s : State} {m : MethodId} {args : Array Value} {below : List Frame} {meth : Method} {c : Code} {H : Heap} {locs : List Loc} {arr : Array Slot} {q : Addr} {hpc i : Nat} {n : Int} {v : Int32} (C : CX G Y p s m args meth c) (hH : HS G u H) (hS : va_S (AA G) s.heap H locs) (hl : lv_has arr (yM Y) (lcv G ls)) (k1 k2 k3 : Nat)
    (hd1 : (∃ f : Fin 4, (yP Y)[k1]? = some (hpc, .astore_n f, 1) ∧ (f : Nat) = i ∧ (yP Y)[k2]? = some (hpc + 1, .iconst n, 1) ∧ (yP Y)[k3]? = some (hpc + 2, .ireturn, 1)) ∨ ((yP Y)[k1]? = some (hpc, .astore i, 2) ∧ (yP Y)[k2]? = some (hpc + 2, .iconst n, 1) ∧ (yP Y)[k3]? = some (hpc + 3, .ireturn, 1)))
    (hi : i < yM Y) (hv : Int32.ofInt n = v) (hT : yT Y = some .int) (hc : c0 ≤ (yR Y).cells) (hs : s0 ≤ (yR Y).slots) (hq : Q (some (.int v)) u) :
    W p (gl G) e (yR Y) s m args below meth c H locs c0 s0 (vx_MQ below (QC G Q) (XC G QX) args s (yR Y).cells (yR Y).slots (AA G)) (F0 m hpc arr [.ref q]) := by
  have hlk := cxl C
  have hend : ∀ (arr2 : Array Slot) (pc9 : Nat), decode (yB Y) pc9 = .ok (.ireturn, 1) → W p (gl G) e (yR Y) s m args below meth c H locs c0 s0 (vx_MQ below (QC G Q) (XC G QX) args s (yR Y).cells (yR Y).slots (AA G)) (F0 m pc9 arr2 [.int v]) := by
    intro arr2 pc9 hd9
    refine vx_ret (W.widen hc hs ?_)
    exact W.iret (v := v) (cxx C) (cxb C) ((cxr C).trans hT) (fun t ht hW => ⟨⟨some (.int v), u, rfl, hq, by rw [ht]; exact hH⟩, hS.F ht⟩) hS.2.2 hd9
  rcases hd1 with ⟨f, d1, hf, d2, d3⟩ | ⟨d1, d2, d3⟩
  · exact lv_astore_n (cxx C) (cxb C) (cxd C d1) hf hl hi rfl (fun arr2 hl2 => lv_iconst (cxx C) (cxb C) (cxd C d2) hv (hend arr2 _ (cxd C d3)))
  · exact lv_astore (cxx C) (cxb C) (cxd C d1) hl hi rfl (fun arr2 hl2 => lv_iconst (cxx C) (cxb C) (cxd C d2) hv (hend arr2 _ (cxd C d3)))
/-- caught by the first entry -/
theorem vx_c1 {E : String} {sp ep hpc ct i : Nat} {n : Int} {v : Int32} {r9 : List (Nat × Nat × Nat × Nat)} (k1 k2 k3 : Nat) (hY : yH Y = (sp, ep, hpc, ct) :: r9) (hcv : sp ≤ pc ∧ pc < ep) (hct : ct ≠ 0) (hlk : Cond.classLink (yN Y).cls ct E ∈ GW) (hca : (E, E) ∈ csts)
    (hd1 : (∃ f : Fin 4, (yP Y)[k1]? = some (hpc, .astore_n f, 1) ∧ (f : Nat) = i ∧ (yP Y)[k2]? = some (hpc + 1, .iconst n, 1) ∧ (yP Y)[k3]? = some (hpc + 2, .ireturn, 1)) ∨ ((yP Y)[k1]? = some (hpc, .astore i, 2) ∧ (yP Y)[k2]? = some (hpc + 2, .iconst n, 1) ∧ (yP Y)[k3]? = some (hpc + 3, .ireturn, 1)))
    (hi : i < yM Y) (hv : Int32.ofInt n = v) (hT : yT Y = some .int) (hc : c0 ≤ (yR Y).cells) (hs : s0 ≤ (yR Y).slots) (hq : Q (some (.int v)) u) : VX G Y pc ls st E u c0 s0 Q QX := by
  intro p e s m args below meth c C H locs arr hH hS hl q ce hce hcv9 hcl
  have htb := cxt C
  rw [hY] at htb
  refine vx_catch (name := E) (E := E) (cxo C) [] ⟨sp, ep, hpc, ct⟩ (tableOf r9) htb (fun z hz => absurd hz List.not_mem_nil) ?_ hct (cxw C _ hlk) (va_Nw.use rfl ((cxk C).2.2.1 _ hca)) hce hcv9 hcl (hd_ret C hH hS hl k1 k2 k3 hd1 hi hv hT hc hs hq)
  simp [covers, hcv.1, hcv.2]
/-- caught by the second entry, the first one being of another class -/
theorem vx_c2 {sp ep hpc ct sp1 ep1 hpc1 ct1 i : Nat} {n : Int} {v : Int32} {r9 : List (Nat × Nat × Nat × Nat)} (k1 k2 k3 : Nat) (hY : yH Y = (sp1, ep1, hpc1, ct1) :: (sp, ep, hpc, ct) :: r9) (hcv : sp ≤ pc ∧ pc < ep) (hct1 : ct1 ≠ 0) (hct : ct ≠ 0) (hlk1 : Cond.classLink (yN Y).cls ct1 "java/util/NoSuchElementException" ∈ GW) (hlk : Cond.classLink (yN Y).cls ct "java/lang/IllegalArgumentException" ∈ GW) (hca : ("java/lang/IllegalArgumentException", "java/lang/IllegalArgumentException") ∈ csts)
    (hd1 : (∃ f : Fin 4, (yP Y)[k1]? = some (hpc, .astore_n f, 1) ∧ (f : Nat) = i ∧ (yP Y)[k2]? = some (hpc + 1, .iconst n, 1) ∧ (yP Y)[k3]? = some (hpc + 2, .ireturn, 1)) ∨ ((yP Y)[k1]? = some (hpc, .astore i, 2) ∧ (yP Y)[k2]? = some (hpc + 2, .iconst n, 1) ∧ (yP Y)[k3]? = some (hpc + 3, .ireturn, 1)))
    (hi : i < yM Y) (hv : Int32.ofInt n = v) (hT : yT Y = some .int) (hc : c0 ≤ (yR Y).cells) (hs : s0 ≤ (yR Y).slots) (hq : Q (some (.int v)) u) : VX G Y pc ls st "java/lang/IllegalArgumentException" u c0 s0 Q QX := by
  intro p e s m args below meth c C H locs arr hH hS hl q ce hce hcv9 hcl
  have htb := cxt C
  rw [hY] at htb
  refine vx_catch (name := "java/lang/IllegalArgumentException") (E := "java/lang/IllegalArgumentException") (cxo C) [⟨sp1, ep1, hpc1, ct1⟩] ⟨sp, ep, hpc, ct⟩ (tableOf r9) htb (fun z hz => Or.inr ?_) ?_ hct (cxw C _ hlk) (va_Nw.use rfl ((cxk C).2.2.1 _ hca)) hce hcv9 hcl (hd_ret C hH hS hl k1 k2 k3 hd1 hi hv hT hc hs hq)
  · rcases List.mem_singleton.mp hz with rfl
    exact ⟨hct1, _, cxw C _ hlk1, (cxk C).2.2.2.2.2.2.2.2.1⟩
  · simp [covers, hcv.1, hcv.2]
end VMM
