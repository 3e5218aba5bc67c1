/-- where a call has thrown a thing of class E -/
def VX (G : GT) (Y : MT) (pc : Nat) (ls : List (Nat × Value)) (st : List Value) (E : String) (u : MU) (c0 s0 : Nat) (Q : Option Value → MU → Prop) (QX : String → MU → Prop) : Prop :=
  ∀ (p : Program) (e : Env) (s : State) (m : MethodId) (args : Array Value) (below : List Frame) (meth : Method) (c : Code), CX G Y p s m args meth c → ∀ (H : Heap) (locs : List Loc) (arr : Array Slot), HS G u H → va_S (AA G) s.heap H locs → lv_has arr (yM Y) (lcv G ls) →
    ∀ (q : Addr) (ce : Cell), H[q]? = some ce → ce.vm = .none → s.vm.findClass E = some ce.cls → vx_W p (gl G) e (yR Y) s m args below meth c H locs c0 s0 (vx_MQ below (QC G Q) (XC G QX) args s (yR Y).cells (yR Y).slots (AA G)) (F0 m pc arr (st.map (cv G))) q
/-- what a call row needs of the point where it stands -/
def CT (G : GT) (Y : MT) (u : MU) (p : Program) (s : State) (m : MethodId) (args : Array Value) (meth : Method) (c : Code) (H : Heap) (locs : List Loc) : Prop :=
  CX G Y p s m args meth c ∧ HS G u H ∧ va_S (AA G) s.heap H locs ∧ (u.2.2.2 < 457 → H.size = g0 G + (u.2.2.2 + 2))
theorem CT.pc {G : GT} {Y : MT} {u : MU} {p : Program} {s : State} {m : MethodId} {args : Array Value} {meth : Method} {c : Code} {H : Heap} {locs : List Loc} (T : CT G Y u p s m args meth c H locs) (As : List Value) (U : State) (hU : U.heap = H) (hW : s.WarmedH U.vm) : PC G As u (As.map (cv G)).toArray U := by
  obtain ⟨C, hH, hS, hz⟩ := T
  refine ⟨rfl, by rw [hU]; exact hH, KS.warm hW (cxk C), ?_, by rw [hU]; exact Nat.le_trans (cxn C) hS.1, by rw [hU]; exact hz⟩
  rw [hU]
  exact SX.moved hW.alike (SX.kept (cxs C) (cxn C) (fun a h1 h2 => hS.2.1 a h1 h2))
section VC
variable {G : GT} {Y Y2 : MT} {pc pc' : Nat} {ls ls' : List (Nat × Value)} {st : List Value} {u : MU} {c0 s0 : Nat} {Q Q1 : Option Value → MU → Prop} {QX QX1 : String → MU → Prop}
theorem v_call {full : List Value} {mc ms : Nat} (hp : pc + 3 = pc')
    (hrun : ∀ (p : Program) (e : Env) (s : State) (m : MethodId) (args : Array Value) (below : List Frame) (meth : Method) (c : Code) (H : Heap) (locs : List Loc) (arr : Array Slot), CT G Y u p s m args meth c H locs → arr.size = yM Y → vx_Run p (gl G) e (yR Y) s m args below meth c H locs c0 s0 mc ms (F0 m pc arr (full.map (cv G))) (st.map (cv G)) (fun st0 o t => QC G Q1 #[] st0 o t) (XC G QX1) (AA G))
    (kx : ∀ E u', QX1 E u' → VX G Y pc ls st E u' (c0 + mc) (s0 + ms) Q QX)
    (kk : ∀ v u', Q1 v u' → (u'.2.2.2 < 457 → u'.2.2.2 = u.2.2.2 + mc) ∧ V G Y pc' ls (v.toList ++ st) u' (c0 + mc) (s0 + ms) Q QX) : V G Y pc ls full u c0 s0 Q QX := by
  subst hp
  intro p e s m args below meth c C H locs arr hH hS hl hz
  refine W.le (fun hle => ?_)
  have hsz : u.2.2.2 < 457 → H.size = g0 G + (u.2.2.2 + 2) := by
    intro h
    have h1 := hz h
    refine Nat.le_antisymm (by omega) ?_
    have hn : u.2.2.2 ≤ 455 := hH.2.elim id (fun q => absurd h (by omega))
    have hs9 : sc u.2.2.2 = u.2.2.2 + 2 := if_pos h
    have h3 := (hH.1 (u.2.2.2 + 1) _ (wl_at G u (by rw [hs9]; omega))).lt
    have h4 : g0 G + (u.2.2.2 + 1) < H.size := h3
    omega
  intro T hT X
  rcases hrun p e s m args below meth c H locs arr ⟨C, hH, hS, hsz⟩ hl.1 T hT X with ⟨v', st₀, t, T', L, h0, X', hL, e1, e2, ⟨⟨v, u', hv, hq, hH'⟩, hF⟩, go⟩ | ⟨q, st₀, t, T', L, E, ce, h0, X', hL, e1, e2, ⟨u', hq, hH', hF⟩, hce, hcv, hcl, go⟩
  · cases hv
    obtain ⟨k1, k2, k3⟩ := vx_keep h0 e1 hS (fun q _ h => h) (fun q h => h) hL hF
    obtain ⟨g1, g2⟩ := kk v u' hq
    have hz' : u'.2.2.2 < 457 → s.heap.size + (c0 + mc) = g0 G + (u'.2.2.2 + 2) := fun h => by
      have h5 := g1 h
      have h6 := hz (by omega)
      omega
    obtain ⟨t2, a1, b1⟩ := g2 p e s m args below meth c C T'.heap (locs ++ L) arr (by rw [e1]; exact hH') k3 hl hz' T' rfl X'
    refine ⟨t2, go t2 ?_, b1⟩
    have e9 : (v.map (cv G)).toList ++ st.map (cv G) = (v.toList ++ st).map (cv G) := by cases v <;> rfl
    show Steps p.tables e below (T'.setTop (F0 m (pc + 3) arr ((v.map (cv G)).toList ++ st.map (cv G)))) t2
    rw [e9]
    exact a1
  · obtain ⟨k1, k2, k3⟩ := vx_keep h0 e1 hS (fun q _ h => h) (fun q h => h) hL hF
    obtain ⟨t2, a1, b1⟩ := kx E u' hq p e s m args below meth c C T'.heap (locs ++ L) arr (by rw [e1]; exact hH') k3 hl q ce (by rw [e1]; exact hce) hcv hcl T' rfl X'
    exact ⟨t2, go.trans a1, b1⟩
/-- what is known of a method: its words, its parameters -/
def MF (Y : MT) (n : Nat) : Prop := yC Y ∈ GW ∧ Cond.initialized (yN Y).cls ∈ GW ∧ ((yN Y).cls ≠ "java/lang/invoke/MethodHandle" ∧ (yN Y).cls ≠ "java/lang/invoke/VarHandle") ∧ (parseMethodDescriptor (yN Y).desc).map (fun d => d.parameters.length) = some n
/-- the caller's room holds the callee's -/
def RM (Y Y2 : MT) : Bool := decide ((yR Y2).frames + 1 ≤ (yR Y).frames ∧ 8 + (yM Y2 + 11) + (yR Y2).locals ≤ (yR Y).locals)
theorem yW_pay {s : State} {args : Array Value} (hw : ∀ w ∈ GW, w.before args s = true) (h : yC Y2 ∈ GW) : ∀ w ∈ yW Y2, ∀ (a' : Array Value) (U : State), s.WarmedH U.vm → w.before a' U = true :=
  pay_in (big := GW) hw (gw_goodIn (fun w hw9 => (List.mem_cons.mp hw9).elim (fun e => by rw [e]; exact h) id))
theorem yC_nil (h : yH Y = []) : yC Y = .code (yN Y) (yB Y) (yM Y) (yT Y) := by simp [yC, h]
theorem mk_callB {p : Program} {s : State} {m : MethodId} {args : Array Value} {meth : Method} {c : Code} {idx n : Nat} (C : CX G Y p s m args meth c) (hF : MF Y2 n) (h0 : yH Y2 = []) (hR : RM Y Y2 = true) (hl : Cond.methodLink (yN Y).cls idx (yN Y2) ∈ GW) : CallB (yR Y) s args (yN Y).cls idx (yN Y2) (yB Y2) (yM Y2) (yT Y2) (yW Y2) (yR Y2) (yR Y2).cells (yR Y2).slots n := by
  obtain ⟨f1, f2, f3, f4⟩ := hF
  obtain ⟨r1, r2⟩ := of_decide_eq_true hR
  refine ⟨rfl, rfl, r1, r2, yW_pay (cxw C) f1, by rw [← yC_nil h0]; exact List.mem_cons_self, by rw [← yC_nil h0]; exact cxw C _ f1, cxw C _ f2, f3, fun sig h => ?_, cxw C _ hl⟩
  rw [h] at f4
  exact (Option.some.inj f4).symm
theorem mk_callN {p : Program} {s : State} {m : MethodId} {args : Array Value} {meth : Method} {c : Code} {idx n : Nat} {host : String} (C : CX G Y p s m args meth c) (hF : MF Y2 n) (h0 : yH Y2 = []) (hR : RM Y Y2 = true) (hl : ((yN Y).cls, idx, yN Y2, host) ∈ nsts) : va_CN (yR Y) s args (yN Y).cls idx (yN Y2) host (yB Y2) (yM Y2) (yT Y2) (yW Y2) (yR Y2) (yR Y2).cells (yR Y2).slots n := by
  obtain ⟨f1, f2, f3, f4⟩ := hF
  obtain ⟨r1, r2⟩ := of_decide_eq_true hR
  refine ⟨⟨rfl, rfl, r1, r2, yW_pay (cxw C) f1, by rw [← yC_nil h0]; exact List.mem_cons_self⟩, by rw [← yC_nil h0]; exact cxw C _ f1, cxw C _ f2, f3, fun sig h => ?_, va_Nw.use rfl ((cxk C).2.1 _ hl)⟩
  rw [h] at f4
  exact (Option.some.inj f4).symm
theorem cx_fix {p : Program} {s : State} {m : MethodId} {args : Array Value} {meth : Method} {c : Code} (C : CX G Y p s m args meth c) : CallFix p m c (yB Y) (yM Y) s args GW (yN Y).cls := ⟨cxx C, cxb C, cxm C, cxo C, cxw C⟩
theorem st_room {st : List Value} (h : (st.map fun v => v.category).sum ≤ 8) : ((st.map (cv G)).map fun v => v.category).sum ≤ 8 := by
  rw [List.map_map]
  have e : ((fun v : Value => v.category) ∘ cv G) = fun v => v.category := funext fun v => cv_cat G v
  rw [e]
  exact h
theorem v_recv {p : Program} {s : State} {m : MethodId} {args : Array Value} {meth : Method} {c : Code} {H : Heap} {locs : List Loc} {b ci : Nat} {C9 : String} {T8 : u_T} {N : Nat} (T : CT G Y u p s m args meth c H locs) (hb : LAY b = ci) (hx : ST b u.2.2.2) (hc : clz[ci]? = some (C9, T8, N)) : ∃ cell : Cell, H[g0 G + PO b]? = some cell ∧ cell.vm.isStatics = false ∧ s.vm.findClass C9 = some cell.cls := by
  obtain ⟨C, hH, hS, hz⟩ := T
  exact va_recv (cxk C).1 hH.1 hc (q0 := PO b) (by rw [wl_get G u hx, cel_obj hb (cl_20 hc)])
/-- a call of an object's method -/
theorem v_cV (k : Nat) {idx b n ci N : Nat} {T : u_T} {As : List Value} (hd : (yP Y)[k]? = some (pc, .invokevirtual idx, 3)) (hp : pc + 3 = pc') (hF : MF Y2 n) (h0 : yH Y2 = []) (hR : RM Y Y2 = true) (hl : Cond.methodLink (yN Y).cls idx (yN Y2) ∈ GW) (hin : Cond.instanceMethod (yN Y2) ∈ GW) (hse : Cond.selects (yN Y2).cls (yN Y2) (yN Y2) ∈ GW)
    (hcl : clz[ci]? = some ((yN Y2).cls, T, N)) (hb : LAY b = ci) (hx : ST b u.2.2.2) (hn : As.length = n) (hst : (st.map fun v => v.category).sum ≤ 8) (hc : c0 + (yR Y2).cells ≤ (yR Y).cells ∧ s0 + (yR Y2).slots ≤ (yR Y).slots)
    {c1 s1 : Nat} (e1 : c0 + (yR Y2).cells = c1) (e2 : s0 + (yR Y2).slots = s1) (hM : MW G Y2 (.ref b :: As) u Q1 QX1) (kx : ∀ E u', QX1 E u' → VX G Y pc ls st E u' c1 s1 Q QX)
    (kk : ∀ v u', Q1 v u' → (u'.2.2.2 < 457 → u'.2.2.2 = u.2.2.2 + (yR Y2).cells) ∧ V G Y pc' ls (v.toList ++ st) u' c1 s1 Q QX) : V G Y pc ls (As.reverse ++ .ref b :: st) u c0 s0 Q QX := by
  subst e1
  subst e2
  refine v_call hp (fun p e s m args below meth c H locs arr T9 hsz => ?_) kx kk
  have hcv : cv G (.ref b) = .ref (g0 G + PO b) := cv_ref T9.2.1 hx
  refine vx_runV (b := g0 G + PO b) (As := As.map (cv G)) (C := (yN Y2).cls) (cx_fix T9.1) hM ⟨mk_callB T9.1 hF h0 hR hl, cxw T9.1 _ hin, cxw T9.1 _ hse⟩ ⟨PC_blind G _ u, v_recv T9 hb hx hcl, fun U hU hW => ?_⟩ rfl (by rw [List.length_map]; exact hn) hsz ?_ (lv_room (st_room hst)) (cxd T9.1 hd) hc
  · have h := T9.pc (.ref b :: As) U hU hW
    rw [List.map_cons, hcv] at h
    exact h
  · show (As.reverse ++ .ref b :: st).map (cv G) = (As.map (cv G)).reverse ++ .ref (g0 G + PO b) :: st.map (cv G)
    rw [List.map_append, List.map_cons, hcv, List.map_reverse]
/-- a call of a nest mate's private method -/
theorem v_cNV (k : Nat) {idx b n ci N : Nat} {host : String} {T : u_T} {As : List Value} (hd : (yP Y)[k]? = some (pc, .invokevirtual idx, 3)) (hp : pc + 3 = pc') (hF : MF Y2 n) (h0 : yH Y2 = []) (hR : RM Y Y2 = true) (hl : ((yN Y).cls, idx, yN Y2, host) ∈ nsts) (hin : Cond.instanceMethod (yN Y2) ∈ GW) (hse : Cond.selects (yN Y2).cls (yN Y2) (yN Y2) ∈ GW)
    (hcl : clz[ci]? = some ((yN Y2).cls, T, N)) (hb : LAY b = ci) (hx : ST b u.2.2.2) (hn : As.length = n) (hst : (st.map fun v => v.category).sum ≤ 8) (hc : c0 + (yR Y2).cells ≤ (yR Y).cells ∧ s0 + (yR Y2).slots ≤ (yR Y).slots)
    {c1 s1 : Nat} (e1 : c0 + (yR Y2).cells = c1) (e2 : s0 + (yR Y2).slots = s1) (hM : MW G Y2 (.ref b :: As) u Q1 QX1) (kx : ∀ E u', QX1 E u' → VX G Y pc ls st E u' c1 s1 Q QX)
    (kk : ∀ v u', Q1 v u' → (u'.2.2.2 < 457 → u'.2.2.2 = u.2.2.2 + (yR Y2).cells) ∧ V G Y pc' ls (v.toList ++ st) u' c1 s1 Q QX) : V G Y pc ls (As.reverse ++ .ref b :: st) u c0 s0 Q QX := by
  subst e1
  subst e2
  refine v_call hp (fun p e s m args below meth c H locs arr T9 hsz => ?_) kx kk
  have hcv : cv G (.ref b) = .ref (g0 G + PO b) := cv_ref T9.2.1 hx
  refine vx_runVN (b := g0 G + PO b) (As := As.map (cv G)) (C := (yN Y2).cls) (cx_fix T9.1) hM ⟨mk_callN T9.1 hF h0 hR hl, cxw T9.1 _ hin, cxw T9.1 _ hse⟩ ⟨PC_blind G _ u, v_recv T9 hb hx hcl, fun U hU hW => ?_⟩ rfl (by rw [List.length_map]; exact hn) hsz ?_ (lv_room (st_room hst)) (cxd T9.1 hd) hc
  · have h := T9.pc (.ref b :: As) U hU hW
    rw [List.map_cons, hcv] at h
    exact h
  · show (As.reverse ++ .ref b :: st).map (cv G) = (As.map (cv G)).reverse ++ .ref (g0 G + PO b) :: st.map (cv G)
    rw [List.map_append, List.map_cons, hcv, List.map_reverse]
/-- a static call -/
theorem v_cS (k : Nat) {idx n : Nat} {As : List Value} (hd : (yP Y)[k]? = some (pc, .invokestatic idx, 3)) (hp : pc + 3 = pc') (hF : MF Y2 n) (h0 : yH Y2 = []) (hR : RM Y Y2 = true) (hl : Cond.methodLink (yN Y).cls idx (yN Y2) ∈ GW) (hsc : Cond.static (yN Y2) ∈ GW)
    (hn : As.length = n) (hst : (st.map fun v => v.category).sum ≤ 8) (hc : c0 + (yR Y2).cells ≤ (yR Y).cells ∧ s0 + (yR Y2).slots ≤ (yR Y).slots)
    {c1 s1 : Nat} (e1 : c0 + (yR Y2).cells = c1) (e2 : s0 + (yR Y2).slots = s1) (hM : MW G Y2 As u Q1 QX1) (kx : ∀ E u', QX1 E u' → VX G Y pc ls st E u' c1 s1 Q QX)
    (kk : ∀ v u', Q1 v u' → (u'.2.2.2 < 457 → u'.2.2.2 = u.2.2.2 + (yR Y2).cells) ∧ V G Y pc' ls (v.toList ++ st) u' c1 s1 Q QX) : V G Y pc ls (As.reverse ++ st) u c0 s0 Q QX := by
  subst e1
  subst e2
  refine v_call hp (fun p e s m args below meth c H locs arr T9 hsz => ?_) kx kk
  refine vx_runS (As := As.map (cv G)) (cx_fix T9.1) hM ⟨mk_callB T9.1 hF h0 hR hl, cxw T9.1 _ hsc⟩ ⟨PC_blind G _ u, fun U hU hW => T9.pc As U hU hW⟩ rfl (by rw [List.length_map]; exact hn) hsz ?_ (lv_room (st_room hst)) (cxd T9.1 hd) hc
  show (As.reverse ++ st).map (cv G) = (As.map (cv G)).reverse ++ st.map (cv G)
  rw [List.map_append, List.map_reverse]
/-- a static call of a nest mate's private method -/
theorem v_cNS (k : Nat) {idx n : Nat} {host : String} {As : List Value} (hd : (yP Y)[k]? = some (pc, .invokestatic idx, 3)) (hp : pc + 3 = pc') (hF : MF Y2 n) (h0 : yH Y2 = []) (hR : RM Y Y2 = true) (hl : ((yN Y).cls, idx, yN Y2, host) ∈ nsts) (hsc : Cond.static (yN Y2) ∈ GW)
    (hn : As.length = n) (hst : (st.map fun v => v.category).sum ≤ 8) (hc : c0 + (yR Y2).cells ≤ (yR Y).cells ∧ s0 + (yR Y2).slots ≤ (yR Y).slots)
    {c1 s1 : Nat} (e1 : c0 + (yR Y2).cells = c1) (e2 : s0 + (yR Y2).slots = s1) (hM : MW G Y2 As u Q1 QX1) (kx : ∀ E u', QX1 E u' → VX G Y pc ls st E u' c1 s1 Q QX)
    (kk : ∀ v u', Q1 v u' → (u'.2.2.2 < 457 → u'.2.2.2 = u.2.2.2 + (yR Y2).cells) ∧ V G Y pc' ls (v.toList ++ st) u' c1 s1 Q QX) : V G Y pc ls (As.reverse ++ st) u c0 s0 Q QX := by
  subst e1
  subst e2
  refine v_call hp (fun p e s m args below meth c H locs arr T9 hsz => ?_) kx kk
  refine vx_runSN (As := As.map (cv G)) (cx_fix T9.1) hM ⟨mk_callN T9.1 hF h0 hR hl, cxw T9.1 _ hsc, trivial⟩ ⟨PC_blind G _ u, fun U hU hW => T9.pc As U hU hW⟩ rfl (by rw [List.length_map]; exact hn) hsz ?_ (lv_room (st_room hst)) (cxd T9.1 hd) hc
  show (As.reverse ++ st).map (cv G) = (As.map (cv G)).reverse ++ st.map (cv G)
  rw [List.map_append, List.map_reverse]
/-- a constructor's call -/
theorem v_cI (k : Nat) {idx b n : Nat} {As : List Value} (hd : (yP Y)[k]? = some (pc, .invokespecial idx, 3)) (hp : pc + 3 = pc') (hF : MF Y2 n) (h0 : yH Y2 = []) (hR : RM Y Y2 = true) (hl : Cond.methodLink (yN Y).cls idx (yN Y2) ∈ GW) (hin : Cond.instanceMethod (yN Y2) ∈ GW) (hy : (yN Y2).name = "<init>") (hT : yT Y2 = none)
    (hx : ST b u.2.2.2) (hn : As.length = n) (hst : (st.map fun v => v.category).sum ≤ 8) (hc : c0 + (yR Y2).cells ≤ (yR Y).cells ∧ s0 + (yR Y2).slots ≤ (yR Y).slots)
    {c1 s1 : Nat} (e1 : c0 + (yR Y2).cells = c1) (e2 : s0 + (yR Y2).slots = s1) (hM : MW G Y2 (.ref b :: As) u Q1 QX1) (kx : ∀ E u', QX1 E u' → VX G Y pc ls st E u' c1 s1 Q QX)
    (kk : ∀ v u', Q1 v u' → (u'.2.2.2 < 457 → u'.2.2.2 = u.2.2.2 + (yR Y2).cells) ∧ V G Y pc' ls (v.toList ++ st) u' c1 s1 Q QX) : V G Y pc ls (As.reverse ++ .ref b :: st) u c0 s0 Q QX := by
  subst e1
  subst e2
  refine v_call hp (fun p e s m args below meth c H locs arr T9 hsz => ?_) kx kk
  have hcv : cv G (.ref b) = .ref (g0 G + PO b) := cv_ref T9.2.1 hx
  have hB := mk_callB T9.1 hF h0 hR hl
  rw [hT] at hB
  refine vx_runI (b := g0 G + PO b) (As := As.map (cv G)) (cx_fix T9.1) hM ⟨hB, hy, cxw T9.1 _ hin⟩ ⟨PC_blind G _ u, fun U hU hW => ?_⟩ rfl (by rw [List.length_map]; exact hn) hsz ?_ (lv_room (st_room hst)) (cxd T9.1 hd) hc
  · have h := T9.pc (.ref b :: As) U hU hW
    rw [List.map_cons, hcv] at h
    exact h
  · show (As.reverse ++ .ref b :: st).map (cv G) = (As.map (cv G)).reverse ++ .ref (g0 G + PO b) :: st.map (cv G)
    rw [List.map_append, List.map_cons, hcv, List.map_reverse]
/-- a nest mate's private constructor -/
theorem v_cNI (k : Nat) {idx b n : Nat} {host : String} {As : List Value} (hd : (yP Y)[k]? = some (pc, .invokespecial idx, 3)) (hp : pc + 3 = pc') (hF : MF Y2 n) (h0 : yH Y2 = []) (hR : RM Y Y2 = true) (hl : ((yN Y).cls, idx, yN Y2, host) ∈ nsts) (hin : Cond.instanceMethod (yN Y2) ∈ GW) (hy : (yN Y2).name = "<init>") (hT : yT Y2 = none)
    (hx : ST b u.2.2.2) (hn : As.length = n) (hst : (st.map fun v => v.category).sum ≤ 8) (hc : c0 + (yR Y2).cells ≤ (yR Y).cells ∧ s0 + (yR Y2).slots ≤ (yR Y).slots)
    {c1 s1 : Nat} (e1 : c0 + (yR Y2).cells = c1) (e2 : s0 + (yR Y2).slots = s1) (hM : MW G Y2 (.ref b :: As) u Q1 QX1) (kx : ∀ E u', QX1 E u' → VX G Y pc ls st E u' c1 s1 Q QX)
    (kk : ∀ v u', Q1 v u' → (u'.2.2.2 < 457 → u'.2.2.2 = u.2.2.2 + (yR Y2).cells) ∧ V G Y pc' ls (v.toList ++ st) u' c1 s1 Q QX) : V G Y pc ls (As.reverse ++ .ref b :: st) u c0 s0 Q QX := by
  subst e1
  subst e2
  refine v_call hp (fun p e s m args below meth c H locs arr T9 hsz => ?_) kx kk
  have hcv : cv G (.ref b) = .ref (g0 G + PO b) := cv_ref T9.2.1 hx
  have hB := mk_callN T9.1 hF h0 hR hl
  rw [hT] at hB
  refine vx_runIN (b := g0 G + PO b) (As := As.map (cv G)) (cx_fix T9.1) hM ⟨hB, hy, cxw T9.1 _ hin⟩ ⟨PC_blind G _ u, fun U hU hW => ?_⟩ rfl (by rw [List.length_map]; exact hn) hsz ?_ (lv_room (st_room hst)) (cxd T9.1 hd) hc
  · have h := T9.pc (.ref b :: As) U hU hW
    rw [List.map_cons, hcv] at h
    exact h
  · show (As.reverse ++ .ref b :: st).map (cv G) = (As.map (cv G)).reverse ++ .ref (g0 G + PO b) :: st.map (cv G)
    rw [List.map_append, List.map_cons, hcv, List.map_reverse]
/-- Object's own constructor -/
theorem v_obj (k : Nat) {idx b : Nat} (hd : (yP Y)[k]? = some (pc, .invokespecial idx, 3)) (hp : pc + 3 = pc') (hl : Cond.methodLink (yN Y).cls idx Lib.objectInit ∈ GW) (hin : Cond.instanceMethod Lib.objectInit ∈ GW) (hco : Cond.code Lib.objectInit ⟨#[0xb1]⟩ 1 none ∈ GW) (h1 : 1 ≤ (yR Y).frames) (h2 : (st.map fun v => v.category).sum + 12 ≤ (yR Y).locals) (kk : V G Y pc' ls st u c0 s0 Q QX) : V G Y pc ls (.ref b :: st) u c0 s0 Q QX := by
  subst hp
  intro p e s m args below meth c C H locs arr hH hS hl9 hz
  refine W.objInit (cxx C) (cxb C) (cxo C) (cxw C _ hl) (cxw C _ hin) (cxw C _ hco) rfl (by rw [cxm C]; exact hl9.1) rfl (cxd C hd) h1 ?_ (kk p e s m args below meth c C H locs arr hH hS hl9 hz)
  rw [List.map_map]
  have e9 : ((fun v : Value => v.category) ∘ cv G) = fun v => v.category := funext fun v => cv_cat G v
  rw [e9]
  show 2 * 0 + _ + 12 ≤ _
  omega
/-! answers -/
theorem v_iret (k : Nat) {x : Int32} (hd : (yP Y)[k]? = some (pc, .ireturn, 1)) (hT : yT Y = some .int) (hc : c0 ≤ (yR Y).cells) (hs : s0 ≤ (yR Y).slots) (hq : Q (some (.int x)) u) : V G Y pc ls [.int x] u c0 s0 Q QX := by
  intro p e s m args below meth c C H locs arr hH hS hl hz
  have hlk := cxl C
  refine vx_ret (W.widen hc hs ?_)
  exact W.iret (v := x) (cxx C) (cxb C) ((cxr C).trans hT) (fun t ht hW => ⟨⟨some (.int x), u, rfl, hq, by rw [ht]; exact hH⟩, hS.F ht⟩) hS.2.2 (cxd C hd)
theorem v_zret (k : Nat) {x : Int32} (hd : (yP Y)[k]? = some (pc, .ireturn, 1)) {ty : FieldType} (hT : yT Y = some ty) (hn : narrow ty (.int x) = .int x) (hc : c0 ≤ (yR Y).cells) (hs : s0 ≤ (yR Y).slots) (hq : Q (some (.int x)) u) : V G Y pc ls [.int x] u c0 s0 Q QX := by
  intro p e s m args below meth c C H locs arr hH hS hl hz
  have hlk := cxl C
  refine vx_ret (W.widen hc hs ?_)
  exact W.zret (v := x) (cxx C) (cxb C) ((cxr C).trans hT) hn (fun t ht hW => ⟨⟨some (.int x), u, rfl, hq, by rw [ht]; exact hH⟩, hS.F ht⟩) hS.2.2 (cxd C hd)
theorem v_bret (k : Nat) {x : Int32} (hd : (yP Y)[k]? = some (pc, .ireturn, 1)) (hT : yT Y = some .boolean) (hb : x = 0 ∨ x = 1) (hc : c0 ≤ (yR Y).cells) (hs : s0 ≤ (yR Y).slots) (hq : Q (some (.int x)) u) : V G Y pc ls [.int x] u c0 s0 Q QX :=
  v_zret k hd hT (by rcases hb with rfl | rfl <;> rfl) hc hs hq
theorem v_lret (k : Nat) {x : Int64} (hd : (yP Y)[k]? = some (pc, .lreturn, 1)) (hT : yT Y = some .long) (hc : c0 ≤ (yR Y).cells) (hs : s0 ≤ (yR Y).slots) (hq : Q (some (.long x)) u) : V G Y pc ls [.long x] u c0 s0 Q QX := by
  intro p e s m args below meth c C H locs arr hH hS hl hz
  have hlk := cxl C
  refine vx_ret (W.widen hc hs ?_)
  exact W.lret (v := x) (cxx C) (cxb C) ((cxr C).trans hT) (fun t ht hW => ⟨⟨some (.long x), u, rfl, hq, by rw [ht]; exact hH⟩, hS.F ht⟩) hS.2.2 (cxd C hd)
theorem v_dret (k : Nat) {x : UInt64} (hd : (yP Y)[k]? = some (pc, .dreturn, 1)) (hT : yT Y = some .double) (hc : c0 ≤ (yR Y).cells) (hs : s0 ≤ (yR Y).slots) (hq : Q (some (.double x)) u) : V G Y pc ls [.double x] u c0 s0 Q QX := by
  intro p e s m args below meth c C H locs arr hH hS hl hz
  have hlk := cxl C
  refine vx_ret (W.widen hc hs ?_)
  exact W.dret (v := x) (cxx C) (cxb C) ((cxr C).trans hT) (fun t ht hW => ⟨⟨some (.double x), u, rfl, hq, by rw [ht]; exact hH⟩, hS.F ht⟩) hS.2.2 (cxd C hd)
theorem v_fret (k : Nat) {x : UInt32} (hd : (yP Y)[k]? = some (pc, .freturn, 1)) (hT : yT Y = some .float) (hc : c0 ≤ (yR Y).cells) (hs : s0 ≤ (yR Y).slots) (hq : Q (some (.float x)) u) : V G Y pc ls [.float x] u c0 s0 Q QX := by
  intro p e s m args below meth c C H locs arr hH hS hl hz
  have hlk := cxl C
  refine vx_ret (W.widen hc hs ?_)
  exact W.fret (v := x) (cxx C) (cxb C) ((cxr C).trans hT) (fun t ht hW => ⟨⟨some (.float x), u, rfl, hq, by rw [ht]; exact hH⟩, hS.F ht⟩) hS.2.2 (cxd C hd)
theorem v_vret (k : Nat) (hd : (yP Y)[k]? = some (pc, .return_, 1)) (hT : yT Y = none) (hc : c0 ≤ (yR Y).cells) (hs : s0 ≤ (yR Y).slots) (hq : Q none u) : V G Y pc ls [] u c0 s0 Q QX := by
  intro p e s m args below meth c C H locs arr hH hS hl hz
  have hlk := cxl C
  refine vx_ret (W.widen hc hs ?_)
  exact W.vret (cxx C) (cxb C) ((cxr C).trans hT) (fun t ht hW => ⟨⟨none, u, rfl, hq, by rw [ht]; exact hH⟩, hS.F ht⟩) hS.2.2 (cxd C hd)
theorem v_aret (k : Nat) {a : Nat} {n9 : String} (hd : (yP Y)[k]? = some (pc, .areturn, 1)) (hT : yT Y = some (.object n9)) (hc : c0 ≤ (yR Y).cells) (hs : s0 ≤ (yR Y).slots) (hq : Q (some (.ref a)) u) : V G Y pc ls [.ref a] u c0 s0 Q QX := by
  intro p e s m args below meth c C H locs arr hH hS hl hz
  have hlk := cxl C
  refine vx_ret (W.widen hc hs ?_)
  exact W.aret (v := .ref (AD G a)) (cxx C) (cxb C) ((cxr C).trans hT) (Or.inl ⟨n9, rfl⟩) (Or.inr ⟨_, rfl⟩) (fun t ht hW => ⟨⟨some (.ref a), u, rfl, hq, by rw [ht]; exact hH⟩, hS.F ht⟩) hS.2.2 (cxd C hd)
/-- what is thrown leaves the method -/
theorem vx_leave {E : String} (h0 : yH Y = []) (hc : c0 ≤ (yR Y).cells) (hs : s0 ≤ (yR Y).slots) (hq : QX E u) : VX G Y pc ls st E u c0 s0 Q QX := by
  intro p e s m args below meth c C H locs arr hH hS hl q ce hce hcv hcl
  refine vx_out ?_ (cxl C) hce hcv hcl (fun t ht hal => ⟨u, hq, by rw [ht]; exact hH, hS.F ht⟩) hS.2.2 hc hs
  intro x hx
  rw [cxt C, h0] at hx
  exact absurd hx List.not_mem_nil
end VC
