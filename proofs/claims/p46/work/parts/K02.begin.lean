/-! THE LAW'S OWN OBJECT: the beginning, where no cell stands -/
section UU
variable {G : GT} {Y : MT} {pc pc' : Nat} {ls ls' : List (Nat × Value)} {st : List Value} {ws : va_W} {c0 s0 : Nat} {Q : Option Value → MU → Prop} {QX : String → MU → Prop}
/-- like V, with any list of cells -/
def U9 (G : GT) (Y : MT) (pc : Nat) (ls : List (Nat × Value)) (st : List Value) (ws : va_W) (c0 s0 : Nat) (Q : Option Value → MU → Prop) (QX : String → MU → Prop) : Prop :=
  ∀ (p : Program) (e : Env) (s : State) (m : MethodId) (args : Array Value) (below : List Frame) (meth : Method) (c : Code), CX G Y p s m args meth c → ∀ (H : Heap) (locs : List Loc) (arr : Array Slot), va_P (gC G, gI G) clz ws H → va_D (AA G) ws → va_S (AA G) s.heap H locs → lv_has arr (yM Y) (lcv G ls) → s.heap.size + c0 = g0 G + ws.length →
    W p (gl G) e (yR Y) s m args below meth c H locs c0 s0 (vx_MQ below (QC G Q) (XC G QX) args s (yR Y).cells (yR Y).slots (AA G)) (F0 m pc arr (st.map (cv G)))
theorem u_aload_n (k : Nat) (j : Nat) {f : Fin 4} {i : Nat} {x : Nat} (hd : (yP Y)[k]? = some (pc, .aload_n f, 1)) (hp : pc + 1 = pc') (hi : (f : Nat) = i) (hl0 : ls[j]? = some (i, .ref x)) (kk : U9 G Y pc' ls (.ref x :: st) ws c0 s0 Q QX) : U9 G Y pc ls st ws c0 s0 Q QX := by
  subst hp
  exact fun p e s m args below meth c C H locs arr hP hD hS hl hz => lv_aload_n (cxx C) (cxb C) (cxd C hd) hi (lv_at hl j (lcv_get hl0)) (kk p e s m args below meth c C H locs arr hP hD hS hl hz)
theorem u_sipush (k : Nat) {n : Int} {v : Int32} (hd : (yP Y)[k]? = some (pc, .sipush n, 3)) (hp : pc + 3 = pc') (hv : (Int16.ofInt n).toInt32 = v) (kk : U9 G Y pc' ls (.int v :: st) ws c0 s0 Q QX) : U9 G Y pc ls st ws c0 s0 Q QX := by
  subst hp
  exact fun p e s m args below meth c C H locs arr hP hD hS hl hz => lv_sipush (cxx C) (cxb C) (cxd C hd) hv (kk p e s m args below meth c C H locs arr hP hD hS hl hz)
theorem u_dup (k : Nat) {v : Value} (hd : (yP Y)[k]? = some (pc, .dup, 1)) (hp : pc + 1 = pc') (hv : v.category = 1) (kk : U9 G Y pc' ls (v :: v :: st) ws c0 s0 Q QX) : U9 G Y pc ls (v :: st) ws c0 s0 Q QX := by
  subst hp
  exact fun p e s m args below meth c C H locs arr hP hD hS hl hz => lv_dup (cxx C) (cxb C) (cxd C hd) (by rw [cv_cat]; exact hv) (kk p e s m args below meth c C H locs arr hP hD hS hl hz)
theorem u_obj (k : Nat) {idx b : Nat} (hd : (yP Y)[k]? = some (pc, .invokespecial idx, 3)) (hp : pc + 3 = pc') (hl : Cond.methodLink (yN Y).cls idx Lib.objectInit ∈ GW) (hin : Cond.instanceMethod Lib.objectInit ∈ GW) (hco : Cond.code Lib.objectInit ⟨#[0xb1]⟩ 1 none ∈ GW) (h1 : 1 ≤ (yR Y).frames) (h2 : (st.map fun v => v.category).sum + 12 ≤ (yR Y).locals) (kk : U9 G Y pc' ls st ws c0 s0 Q QX) : U9 G Y pc ls (.ref b :: st) ws c0 s0 Q QX := by
  subst hp
  intro p e s m args below meth c C H locs arr hP hD hS hl9 hz
  refine W.objInit (cxx C) (cxb C) (cxo C) (cxw C _ hl) (cxw C _ hin) (cxw C _ hco) rfl (by rw [cxm C]; exact hl9.1) rfl (cxd C hd) h1 ?_ (kk p e s m args below meth c C H locs arr hP hD hS hl9 hz)
  rw [List.map_map]
  have e9 : ((fun v : Value => v.category) ∘ cv G) = fun v => v.category := funext fun v => cv_cat G v
  rw [e9]
  show 2 * 0 + _ + 12 ≤ _
  omega
/-- the law's object, its text not there yet -/
def U1 : MU := (fun _ _ => 0, fun _ _ => 0, fun _ _ => none, 0)
def w1 (G : GT) : va_W := [(g0 G, cel G U1 436)]
theorem cv_436 : cv G (.ref 436) = .ref (g0 G) := by
  show Value.ref (AD G 436) = _
  rw [AD_in G (by decide)]
  rfl
theorem u_new (kk : U9 G YLw 3 [(0, .ref 457)] [.ref 436] (w1 G) 1 7 Q QX) : U9 G YLw 0 [(0, .ref 457)] [] [] 0 0 Q QX := by
  obtain ⟨ty0, k1, k2, k3, k4, k5, k6⟩ := cl_ok 8 RXL TXL 7 rfl
  intro p e s m args below meth c C H locs arr hP hD hS hl hz
  have hdef : ∀ j, j < 7 → defaultValue (ty0 j) = vp_V (fsl G U1 436 8) j := by
    intro j hj
    have h1 : (fsl G U1 436 8)[j]? = some (fvl G U1 436 j (FTY 8 j)) := fsl_get (by rw [k2]; exact hj)
    have h2 := k5 j hj
    show _ = (fsl G U1 436 8).getD j .null
    rw [List.getD_eq_getElem?_getD, h1]
    show _ = fvl G U1 436 j (FTY 8 j)
    generalize FTY 8 j = t at h2 ⊢
    match t, h2 with
    | 0, h2 => rw [okty0 h2]; rfl
    | 1, h2 => rw [okty1 h2]; rfl
    | 2, h2 => rw [okty2 h2]; rfl
    | n + 3, h2 => rw [(okty3 (ty := ty0 j) h2).1]; rfl
  refine va_new (cxx C) (cxb C) (cxw C) (cl_in (ci := 8) rfl) ty0 k3 (cxo C) (cxw C _ cl_L_8) (cxw C _ ic_L) (cxw C _ it_L) (cxk C).1 hP hD hS (fun q hq => Nat.le_trans (cxn C) hq) (ci := 8) rfl hdef (show 0 + 1 ≤ 600086 by decide) (show 0 + 7 ≤ 7301442 by decide) (cxd C (Y := YLw) (k := 0) rfl) (fun q H1 hP hD hS1 => ?_)
  refine W.le (fun hle => ?_)
  have hq : q = g0 G := by
    have h1 : q < H1.size := (hP 0 _ rfl).lt
    have h2 : g0 G ≤ q := hD.2 0 _ rfl
    have h3 : s.heap.size + 0 = g0 G + 0 := hz
    omega
  subst hq
  have ec : cel G U1 436 = .inr (8, fsl G U1 436 8) := cel_obj ly_436 (by decide)
  have k9 := kk p e s m args below meth c C H1 locs arr (by unfold w1; rw [ec]; exact hP) (by unfold w1; rw [ec]; exact hD) hS1 hl (by show s.heap.size + 1 = g0 G + 1; have h3 : s.heap.size + 0 = g0 G + 0 := hz; omega)
  rw [show ([Value.ref 436].map (cv G)) = [.ref (g0 G)] by simp [cv_436]] at k9
  exact k9
theorem wl_U1 : wl G U1 = w1 G ++ [(g0 G + 1, cel G U1 437)] := by
  show (List.range 2).map (fun i => (g0 G + i, cel G U1 (ID i))) = _
  rfl
theorem u_newa (kk : V G Y_L_init 10 [(0, .ref 436)] [.ref 437, .ref 436] U1 1 600 Q QX) : U9 G Y_L_init 8 [(0, .ref 436)] [.int (nI 600), .ref 436] (w1 G) 0 0 Q QX := by
  intro p e s m args below meth c C H locs arr hP hD hS hl hz
  have hcell : ∀ cA : ClassId, vp_cell cA (600, dta G U1 437 0) = arrV cA 600 (fun _ => defaultValue .int) := by
    intro cA
    simp only [dta, vp_cell_i, U1]; congr 1
  refine va_newa (atype := .int) (cxx C) (cxb C) (cxw C _ ar_int) rfl (cxk C).1 hP hD hS (fun q hq => Nat.le_trans (cxn C) hq) hcell (nI_pos (by omega)) (nI_clamp (by omega)) (by decide) (show 0 + 1 ≤ 1 by decide) (show 0 + 600 ≤ 600 by decide) (cxd C (Y := Y_L_init) (k := 4) rfl) (fun q cA H1 hK2 hP1 hD1 hS1 => ?_)
  refine W.le (fun hle => ?_)
  have hz2 : s.heap.size + 0 = g0 G + 1 := hz
  have hq : q = g0 G + 1 := by
    have h1 : q < H1.size := (hP1 1 _ rfl).lt
    have h2 : g0 G ≤ q := hD1.2 1 _ rfl
    have h3 : q ≠ g0 G := fun e => absurd (hD1.1 0 1 _ _ rfl rfl e.symm) (by decide)
    omega
  have hcA := k_last (t := 0) hK2 (by decide)
  have ec : cel G U1 437 = .inl (cA, 600, dta G U1 437 0) := by rw [cel_arr (t := 0) ly_437, ln_437, hcA]
  have hH : HS G U1 H1 := ⟨by rw [wl_U1, ec, ← hq]; exact hP1, Or.inl (by decide)⟩
  have k9 := kk p e s m args below meth c C H1 locs arr hH hS1 hl (fun _ => by show s.heap.size + 1 = g0 G + (0 + 2); omega)
  have hc2 : cv G (.ref 437) = .ref q := by
    show Value.ref (AD G 437) = _
    rw [AD_in G (by decide), hq]
    rfl
  rw [show ([Value.ref 437, Value.ref 436].map (cv G)) = .ref q :: [Value.ref 436].map (cv G) by simp [hc2]] at k9
  exact k9
/-- what is known where the law's constructor is called -/
def PC1 (G : GT) : Array Value → State → Prop := va_Pc ([Value.ref 436].map (cv G)) (fun U => (va_P (gC G, gI G) clz (w1 G) U.heap ∧ va_D (AA G) (w1 G)) ∧ KS G U ∧ SX G U U.heap ∧ g0 G ≤ U.heap.size ∧ U.heap.size = g0 G + 1)
theorem PC1_blind : FrameBlind (PC1 G) := by
  intro a U g mk h
  obtain ⟨h1, h2, h3, h4, h5⟩ := h
  refine ⟨h1, h2, ?_, ?_, h5⟩
  · exact KS.warm (s := U) (State.WarmedH.refl U) h3
  · exact SX.moved (u := U) (Vm.Alike.refl U.vm) h4
def U2 : MU := (fun _ _ => 0, fun _ _ => 0, up2 (fun _ _ => none) 436 0 (some 437), 0)
theorem U2_R : ∀ q, 436 ≤ q → U2.2.2.1 q = W0 q := by
  intro q hq
  funext j
  rw [W0_n (by omega) (by omega)]
  show up2 (fun _ _ => none) 436 0 (some 437) q j = RS q j
  by_cases h1 : q = 436
  · subst h1
    unfold RS
    rw [ly_436]
    match j with
    | 0 => rfl
    | j + 1 =>
      rw [up2_n (Or.inr (by omega))]
      try rfl
  · rw [up2_n (Or.inl h1)]
    unfold RS
    by_cases h2 : q = 437
    · subst h2
      rw [ly_437]
      try rfl
    · by_cases h3 : q < 457
      · rw [lay_w q h3 (by omega)]
        try rfl
      · rw [show LAY q = 99 by simp [LAY, List.getD_eq_getElem?_getD, List.getElem?_eq_none (show lay.length ≤ q by rw [lay_len]; omega)]]
        try rfl
theorem ok_L_init : vx_Met (gl G) (yN Y_L_init) (yW Y_L_init) (yR Y_L_init) (PC1 G) (QC G (fun v u => v = none ∧ u = U2)) (XC G (fun _ _ => False)) (yR Y_L_init).cells (yR Y_L_init).slots (AA G) := by
  have hw : yW Y_L_init = Cond.code (yN Y_L_init) (yB Y_L_init) (yM Y_L_init) (yT Y_L_init) :: GW := by simp [yW, yC, show yH Y_L_init = [] from rfl]
  refine vx_ofW (cc := yB Y_L_init) (maxL := yM Y_L_init) (ret := yT Y_L_init) (by decide) hw ?_
  intro p e s m args' below meth c s₁ B hml htab hv
  obtain ⟨rfl, ⟨hP, hD⟩, hK, hX, hn, hz⟩ := hv
  have hts := atoms_spec (ws := yW Y_L_init) B.pre
  have htb : c.exceptionTable.toList = tableOf (yH Y_L_init) := by
    rw [show yH Y_L_init = [] from rfl]
    cases hc : c.exceptionTable.toList with
    | nil => rfl
    | cons x r => exact absurd (htab x (by rw [hc]; exact List.mem_cons_self)) id
  have C : CX G Y_L_init p s m ([Value.ref 436].map (cv G)).toArray meth c := ⟨B.exec, B.bytes, hml, findClass_of_methodNamed B.named, fun w h => hts w (List.mem_cons_of_mem _ h), B.notSynchronized, B.returns, List.all_eq_true.mp is_L_init, hK, hX, hn, (name_of_methodNamed B.named B.method).1, htb⟩
  rw [lg_entry_eq]
  have hlen : (lg_sl ([Value.ref 436].map (cv G))).length ≤ yM Y_L_init := by rw [lsl_cv]; decide
  have hl9 := lv_entry ([Value.ref 436].map (cv G)) hlen
  rw [lcv_args] at hl9
  have K : U9 G Y_L_init 0 [(0, .ref 436)] [] (w1 G) 0 0 (fun v u => v = none ∧ u = U2) (fun _ _ => False) := by
    refine u_aload_n (pc' := 1) 0 0 rfl rfl rfl rfl ?_
    refine u_obj (pc' := 4) 1 rfl rfl ml_L_1 mi_Obj co_Obj (by decide) (by decide) ?_
    refine u_aload_n (pc' := 5) 2 0 rfl rfl rfl rfl ?_
    refine u_sipush (v := nI 600) (pc' := 8) 3 rfl rfl (by decide) ?_
    refine u_newa ?_
    refine v_putR (pc' := 13) 5 rfl rfl pf_L_7 (fun _ => ⟨rfl, fun _ _ _ h => by cases h; rfl⟩) ly_436 (show PO 436 < sc 0 by decide) ?_
    exact v_vret 6 rfl rfl (by decide) (by decide) ⟨rfl, rfl⟩
  exact K p e s m _ below meth c C s.heap [] _ hP hD va_S.rf hl9 hz
theorem law_U (hL : gL G ≤ 260) (hq : ∀ u, Q (some (.int 1)) u) : U9 G YLw 0 [(0, .ref 457)] [] [] 0 0 Q QX := by
  refine u_new ?_
  refine u_dup (pc' := 4) 1 rfl rfl rfl ?_
  intro p e s m args below meth c C H locs arr hP hD hS hl hz
  refine W.le (fun hle => ?_)
  have hz2 : s.heap.size + 1 = g0 G + 1 := hz
  have hsz : H.size = g0 G + 1 := by
    have h1 : g0 G < H.size := (hP 0 _ rfl).lt
    omega
  intro T hT X
  have hB := mk_callB (Y2 := Y_L_init) (idx := 126) C mf_L_init rfl rfl ml_L_126
  have hrun : vx_Run p (gl G) e (yR YLw) s m args below meth c H locs 1 7 1 600 (F0 m 4 arr ([Value.ref 436, Value.ref 436].map (cv G))) ([Value.ref 436].map (cv G)) (fun st0 o t => QC G (fun v u => v = none ∧ u = U2) #[] st0 o t) (XC G (fun _ _ => False)) (AA G) := by
    refine vx_runI (b := g0 G) (As := []) (cx_fix C) ok_L_init ⟨hB, rfl, cxw C _ mi_L_init⟩ ⟨PC1_blind, fun U hU hW => ?_⟩ rfl rfl hl.1 ?_ (lv_room (st_room (Nat.le_of_ble_eq_true rfl))) (cxd C (Y := YLw) (k := 2) rfl) ⟨by decide, by decide⟩
    · refine ⟨?_, ⟨by rw [hU]; exact hP, hD⟩, KS.warm hW (cxk C), ?_, by rw [hU]; exact Nat.le_trans (cxn C) hS.1, by rw [hU]; exact hsz⟩
      · rw [List.map_cons, cv_436]
        rfl
      · rw [hU]
        exact SX.moved hW.alike (SX.kept (cxs C) (cxn C) (fun a h1 h2 => hS.2.1 a h1 h2))
    · show [Value.ref 436, Value.ref 436].map (cv G) = [] ++ .ref (g0 G) :: [Value.ref 436].map (cv G)
      rw [List.map_cons, cv_436]
      rfl
  rcases hrun T hT X with ⟨v', st₀, t, T', Ls, h0, X', hLs, e1, e2, ⟨⟨v, u', hv, ⟨rfl, rfl⟩, hH'⟩, hF⟩, go⟩ | ⟨q, st₀, t, T', Ls, E, ce, h0, X', hLs, e1, e2, ⟨u', hq9, hH', hF⟩, hce, hcv, hcl, go⟩
  · cases hv
    obtain ⟨k1, k2, k3⟩ := vx_keep h0 e1 hS (fun q _ h => h) (fun q h => h) hLs hF
    have g2 : V G YLw 7 [(0, .ref 457)] [.ref 436] U2 2 607 Q QX := by
      refine v_astore_n (ls' := [(1, .ref 436), (0, .ref 457)]) (pc' := 8) 3 rfl rfl rfl (by decide) rfl ?_
      exact law_V hL hq rfl U2_R
    obtain ⟨t2, a1, b1⟩ := g2 p e s m args below meth c C T'.heap (locs ++ Ls) arr (by rw [e1]; exact hH') k3 hl (fun _ => by show s.heap.size + 2 = g0 G + (0 + 2); omega) T' rfl X'
    exact ⟨t2, go t2 a1, b1⟩
  · exact hq9.elim
end UU
