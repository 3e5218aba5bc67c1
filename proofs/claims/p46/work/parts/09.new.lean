/-- all of a row anew -/
def clr {α : Type} (f : Nat → Nat → α) (k : Nat) (d : α) : Nat → Nat → α := fun a j => if a = k then d else f a j
theorem clr_s {α : Type} {f : Nat → Nat → α} {k j : Nat} {d : α} : clr f k d k j = d := by simp [clr]
theorem clr_n {α : Type} {f : Nat → Nat → α} {k a : Nat} {d : α} (h : a ≠ k) : clr f k d a = f a := by funext j; simp [clr, h]
theorem W.le {p : Program} {l : Launch} {e : Env} {R : Room} {s : State} {m : MethodId} {args : Array Value} {below : List Frame} {meth : Method} {c : Code} {H : Heap} {locs : List Loc} {cells slots : Nat} {Q : State → Prop} {g : JFrame} (k : H.size ≤ s.heap.size + cells → W p l e R s m args below meth c H locs cells slots Q g) : W p l e R s m args below meth c H locs cells slots Q g := by
  intro T hT X
  have h := X.heapSize
  rw [hT] at h
  exact k h T hT X
section VN
variable {G : GT} {Y : MT} {pc pc' : Nat} {ls ls' : List (Nat × Value)} {st : List Value} {u : MU} {c0 s0 : Nat} {Q : Option Value → MU → Prop} {QX : String → MU → Prop}
variable {I : Nat → Nat → Int32} {L : Nat → Nat → Int64} {R : Nat → Nat → Option Nat} {nx : Nat}
theorem nw_addr {G : GT} {u : MU} {q c0 : Nat} {e : va_E} {H1 : Heap} {s : State} (h4 : u.2.2.2 ≤ 454) (hP : va_P (gC G, gI G) clz (wl G u ++ [(q, e)]) H1) (hD : va_D (AA G) (wl G u ++ [(q, e)])) (hz : s.heap.size + c0 = g0 G + (u.2.2.2 + 2)) (hle : H1.size ≤ s.heap.size + (c0 + 1)) : q = g0 G + (u.2.2.2 + 2) := by
  have hsc : sc u.2.2.2 = u.2.2.2 + 2 := if_pos (by omega)
  have hlast : (wl G u ++ [(q, e)])[(wl G u).length]? = some (q, e) := by simp
  have h1 : q < H1.size := (hP _ _ hlast).lt
  have h2 : g0 G ≤ q := hD.2 _ _ hlast
  rcases Nat.lt_or_ge (q - g0 G) (sc u.2.2.2) with h | h
  · exfalso
    have h3 : (wl G u ++ [(q, e)])[q - g0 G]? = some (g0 G + (q - g0 G), cel G u (ID (q - g0 G))) := by
      rw [List.getElem?_append_left (by rw [wl_len]; exact h), wl_at G u h]
    have h4 := hD.1 _ _ _ _ h3 hlast (by show g0 G + (q - g0 G) = q; omega)
    rw [wl_len] at h4
    omega
  · omega
theorem wl_push {G : GT} {u u' : MU} {e : va_E} (h4 : u.2.2.2 ≤ 454) (hn : u'.2.2.2 = u.2.2.2 + 1) (ho : ∀ k, k ≠ ID (u.2.2.2 + 2) → cel G u' k = cel G u k) (he : cel G u' (ID (u.2.2.2 + 2)) = e) : wl G u ++ [(g0 G + (u.2.2.2 + 2), e)] = wl G u' := by
  have s1 : sc u.2.2.2 = u.2.2.2 + 2 := if_pos (by omega)
  have s2 : sc u'.2.2.2 = u.2.2.2 + 3 := by rw [hn]; exact if_pos (by omega)
  apply List.ext_getElem?
  intro i
  rcases Nat.lt_trichotomy i (u.2.2.2 + 2) with h | h | h
  · rw [List.getElem?_append_left (by rw [wl_len, s1]; exact h), wl_at G u (by rw [s1]; exact h), wl_at G u' (by rw [s2]; omega), ho _ (fun z => ?_)]
    have := congrArg PO z
    rw [po_id, po_id] at this
    omega
  · subst h
    rw [List.getElem?_append_right (by rw [wl_len, s1]; exact Nat.le_refl _), wl_len, s1, Nat.sub_self, wl_at G u' (by rw [s2]; omega), he]
    rfl
  · rw [List.getElem?_eq_none (by simp [wl_len, s1]; omega), List.getElem?_eq_none (by rw [wl_len, s2]; omega)]
theorem id_c {n : Nat} (h : n < 436) : ID (n + 2) = n := by unfold ID; rw [if_neg (by omega), if_pos (by omega)]; omega
theorem id_w {n : Nat} (h : 436 ≤ n) : ID (n + 2) = n + 2 := by unfold ID; rw [if_neg (by omega), if_neg (by omega)]
theorem po_c {n : Nat} (h : n < 436) : PO n = n + 2 := if_pos h
def nwu (I : Nat → Nat → Int32) (L : Nat → Nat → Int64) (R : Nat → Nat → Option Nat) (nx : Nat) : MU := (clr I nx 0, clr L nx 0, clr R nx none, nx + 1)
theorem nwu_cel {G : GT} {k : Nat} (h : k ≠ nx) : cel G (nwu I L R nx) k = cel G (I, L, R, nx) k := cel_same (clr_n h) (clr_n h) (clr_n h)
theorem v_new (k : Nat) {idx ci : Nat} {C9 : String} {T : u_T} {N : Nat} (hd : (yP Y)[k]? = some (pc, .new idx, 3)) (hp : pc + 3 = pc') (hcl : clz[ci]? = some (C9, T, N)) (hk : Cond.classLink (yN Y).cls idx C9 ∈ GW) (hin : Cond.instantiable C9 N ∈ GW) (hit : Cond.initialized C9 ∈ GW) (hlay : LAY nx = ci) (hx : nx < 436) (hc : c0 + 1 ≤ (yR Y).cells) (hs : s0 + N ≤ (yR Y).slots) (kk : V G Y pc' ls (.ref nx :: st) (nwu I L R nx) (c0 + 1) (s0 + N) Q QX) : V G Y pc ls st (I, L, R, nx) c0 s0 Q QX := by
  subst hp
  obtain ⟨ty0, k1, k2, k3, k4, k5, k6⟩ := cl_ok ci C9 T N hcl
  intro p e s m args below meth c C H locs arr hH hS hl hz
  have hdef : ∀ j, j < N → defaultValue (ty0 j) = vp_V (fsl G (nwu I L R nx) nx ci) j := by
    intro j hj
    have h1 : (fsl G (nwu I L R nx) nx ci)[j]? = some (fvl G (nwu I L R nx) nx j (FTY ci j)) := fsl_get (by rw [k2]; exact hj)
    have h2 := k5 j hj
    show _ = (fsl G (nwu I L R nx) nx ci).getD j .null
    rw [List.getD_eq_getElem?_getD, h1]
    show _ = fvl G (nwu I L R nx) nx j (FTY ci j)
    generalize FTY ci j = t at h2 ⊢
    match t, h2 with
    | 0, h2 => rw [okty0 h2]; simp [fvl, nwu, clr_s]; rfl
    | 1, h2 => rw [okty1 h2]; simp [fvl, nwu, clr_s]; rfl
    | 2, h2 => rw [okty2 h2]; simp [fvl, nwu, clr_s]; rfl
    | n + 3, h2 => rw [(okty3 (ty := ty0 j) h2).1]; simp [fvl, nwu, clr_s, va_rf]
  refine va_new (cxx C) (cxb C) (cxw C) (cl_in hcl) ty0 k3 (cxo C) (cxw C _ hk) (cxw C _ hin) (cxw C _ hit) (cxk C).1 hH.1 (wl_D G _) hS (fun q hq => Nat.le_trans (cxn C) hq) hcl hdef hc hs (cxd C hd) (fun q H1 hP hD hS1 => ?_)
  refine W.le (fun hle => ?_)
  have hq := nw_addr (show nx ≤ 454 by omega) hP hD (hz (show nx < 457 by omega)) hle
  rw [hq, wl_push (u' := nwu I L R nx) (show nx ≤ 454 by omega) rfl (fun b hb => nwu_cel (fun z => hb (by rw [z]; exact (id_c hx).symm))) (by show cel G (nwu I L R nx) (ID (nx + 2)) = _; rw [id_c hx]; exact cel_obj hlay k6)] at hP
  have k9 := kk p e s m args below meth c C H1 locs arr ⟨hP, Or.inl (show nx + 1 ≤ 455 by omega)⟩ hS1 hl (fun _ => by show s.heap.size + (c0 + 1) = g0 G + ((nx + 1) + 2); have h9 : s.heap.size + c0 = g0 G + (nx + 2) := hz (show nx < 457 by omega); omega)
  have hc2 : cv G (.ref nx) = .ref q := by rw [hq]; simp [cv, AD_in G (show nx < 457 by omega), po_c hx]
  rw [show ((Value.ref nx :: st).map (cv G)) = .ref q :: st.map (cv G) by simp [hc2]] at k9
  exact k9
theorem k_same {G : GT} {s : State} {cA : ClassId} {t : Nat} (hK : va_K (gC G, gI G) clz (tysG G) s) (ht : t < 8) (h : va_RA s cA (aty t)) : cA = gA G t := by
  have h2 := (hK.2 t _ (tys_get G ht)).2
  match t, ht, h, h2 with
  | 0, _, h, h2 => exact Option.some.inj (h.symm.trans h2)
  | 1, _, h, h2 => exact Option.some.inj (h.symm.trans h2)
  | 2, _, h, h2 => exact Option.some.inj (h.symm.trans h2)
  | 3, _, h, h2 => exact Option.some.inj (h.symm.trans h2)
  | 4, _, h, h2 =>
    obtain ⟨_, _, _, _, _, h3⟩ := h
    obtain ⟨_, _, _, _, _, h4⟩ := h2
    exact Option.some.inj (h3.symm.trans h4)
  | 5, _, h, h2 =>
    obtain ⟨_, _, _, _, _, h3⟩ := h
    obtain ⟨_, _, _, _, _, h4⟩ := h2
    exact Option.some.inj (h3.symm.trans h4)
  | 6, _, h, h2 => exact Option.some.inj (h.symm.trans h2)
  | 7, _, h, h2 => exact Option.some.inj (h.symm.trans h2)
theorem k_last {G : GT} {s : State} {cA : ClassId} {t : Nat} (hK : va_K (gC G, gI G) clz (tysG G ++ [(cA, aty t)]) s) (ht : t < 8) : cA = gA G t := by
  have h1 : (tysG G ++ [(cA, aty t)])[8]? = some (cA, aty t) := by simp [tysG]
  exact k_same (hK.sub (tys' := tysG G) [0, 1, 2, 3, 4, 5, 6, 7] (by simp [tysG, List.range, List.range.loop])) ht (hK.2 8 _ h1).2
/-- new int[n], long[n], byte[n], boolean[n] -/
theorem v_newa (k : Nat) {at9 : ArrayType} {t N : Nat} {n : Int32} (hd : (yP Y)[k]? = some (pc, .newarray at9, 2)) (hp : pc + 2 = pc') (ht : t < 4) (hat : newarray.typeOf at9 = aty t) (har : Cond.arrayClass (newarray.typeOf at9) ∈ GW) (hn : n = nI N) (hN : N ≤ 2410) (hlay : LAY nx = 20 + t) (hlen : LEN nx = N) (hx : nx < 436) (hc : c0 + 1 ≤ (yR Y).cells) (hs : s0 + N ≤ (yR Y).slots) (kk : V G Y pc' ls (.ref nx :: st) (nwu I L R nx) (c0 + 1) (s0 + N) Q QX) : V G Y pc ls (.int n :: st) (I, L, R, nx) c0 s0 Q QX := by
  subst hp
  subst hn
  intro p e s m args below meth c C H locs arr hH hS hl hz
  have hcell : ∀ cA : ClassId, vp_cell cA (N, dta G (nwu I L R nx) nx t) = arrV cA N (fun _ => defaultValue (aty t)) := by
    intro cA
    match t, ht with
    | 0, _ => simp only [dta, vp_cell_i, nwu]; congr 1; funext j; simp [clr_s, aty]; rfl
    | 1, _ => simp only [dta, vp_cell_l, nwu]; congr 1; funext j; simp [clr_s, aty]; rfl
    | 2, _ => simp only [dta, vp_cell_i, nwu]; congr 1; funext j; simp [clr_s, aty]; rfl
    | 3, _ => simp only [dta, vp_cell_i, nwu]; congr 1; funext j; simp [clr_s, aty]; rfl
  have hb9 : N * componentBytes (aty t) ≤ 536870912 := by
    have : componentBytes (aty t) ≤ 8 := by match t, ht with | 0, _ => decide | 1, _ => decide | 2, _ => decide | 3, _ => decide
    calc N * componentBytes (aty t) ≤ 2410 * 8 := Nat.mul_le_mul hN this
      _ ≤ 536870912 := by decide
  refine va_newa (cxx C) (cxb C) (cxw C _ har) hat (cxk C).1 hH.1 (wl_D G _) hS (fun q hq => Nat.le_trans (cxn C) hq) hcell (nI_pos (by omega)) (nI_clamp (by omega)) hb9 hc hs (cxd C hd) (fun q cA H1 hK2 hP hD hS1 => ?_)
  refine W.le (fun hle => ?_)
  have hq := nw_addr (show nx ≤ 454 by omega) hP hD (hz (show nx < 457 by omega)) hle
  have hcA := k_last hK2 (Nat.lt_trans ht (by decide))
  have hce : cel G (nwu I L R nx) nx = .inl (cA, N, dta G (nwu I L R nx) nx t) := by rw [cel_arr hlay, hlen, hcA]
  rw [hq, wl_push (u' := nwu I L R nx) (show nx ≤ 454 by omega) rfl (fun b hb => nwu_cel (fun z => hb (by rw [z]; exact (id_c hx).symm))) (by show cel G (nwu I L R nx) (ID (nx + 2)) = _; rw [id_c hx]; exact hce)] at hP
  have k9 := kk p e s m args below meth c C H1 locs arr ⟨hP, Or.inl (show nx + 1 ≤ 455 by omega)⟩ hS1 hl (fun _ => by show s.heap.size + (c0 + 1) = g0 G + ((nx + 1) + 2); have h9 : s.heap.size + c0 = g0 G + (nx + 2) := hz (show nx < 457 by omega); omega)
  have hc2 : cv G (.ref nx) = .ref q := by rw [hq]; simp [cv, AD_in G (show nx < 457 by omega), po_c hx]
  rw [show ((Value.ref nx :: st).map (cv G)) = .ref q :: st.map (cv G) by simp [hc2]] at k9
  exact k9
/-- a row that the law makes, behind the class's cells -/
def nwv (I : Nat → Nat → Int32) (L : Nat → Nat → Int64) (R : Nat → Nat → Option Nat) (nx : Nat) : MU := (clr I (nx + 2) 0, clr L (nx + 2) 0, clr R (nx + 2) none, nx + 1)
theorem nwv_cel {G : GT} {k : Nat} (h : k ≠ nx + 2) : cel G (nwv I L R nx) k = cel G (I, L, R, nx) k := cel_same (clr_n h) (clr_n h) (clr_n h)
theorem v_newa7 (k : Nat) {N : Nat} {n : Int32} (hd : (yP Y)[k]? = some (pc, .newarray .int, 2)) (hp : pc + 2 = pc') (har : Cond.arrayClass .int ∈ GW) (hn : n = nI N) (hN : N ≤ 2410) (hlay : LAY (nx + 2) = 27) (hlen : LEN (nx + 2) = N) (h1 : 436 ≤ nx) (h2 : nx ≤ 454) (hc : c0 + 1 ≤ (yR Y).cells) (hs : s0 + N ≤ (yR Y).slots) (kk : V G Y pc' ls (.ref (nx + 2) :: st) (nwv I L R nx) (c0 + 1) (s0 + N) Q QX) : V G Y pc ls (.int n :: st) (I, L, R, nx) c0 s0 Q QX := by
  subst hp
  subst hn
  intro p e s m args below meth c C H locs arr hH hS hl hz
  have hcell : ∀ cA : ClassId, vp_cell cA (N, dta G (nwv I L R nx) (nx + 2) 7) = arrV cA N (fun _ => defaultValue .int) := by
    intro cA
    simp only [dta, vp_cell_i, nwv]; congr 1; funext j; simp [clr_s]; rfl
  have hb9 : N * componentBytes .int ≤ 536870912 := by
    calc N * componentBytes .int ≤ 2410 * 8 := Nat.mul_le_mul hN (by decide)
      _ ≤ 536870912 := by decide
  refine va_newa (atype := .int) (cxx C) (cxb C) (cxw C _ har) rfl (cxk C).1 hH.1 (wl_D G _) hS (fun q hq => Nat.le_trans (cxn C) hq) hcell (nI_pos (by omega)) (nI_clamp (by omega)) hb9 hc hs (cxd C hd) (fun q cA H1 hK2 hP hD hS1 => ?_)
  refine W.le (fun hle => ?_)
  have hq := nw_addr (show nx ≤ 454 by omega) hP hD (hz (show nx < 457 by omega)) hle
  have hcA := k_last (t := 7) hK2 (by decide)
  have hce : cel G (nwv I L R nx) (nx + 2) = .inl (cA, N, dta G (nwv I L R nx) (nx + 2) 7) := by rw [cel_arr (t := 7) hlay, hlen, hcA]
  rw [hq, wl_push (u' := nwv I L R nx) (show nx ≤ 454 by omega) rfl (fun b hb => nwv_cel (fun z => hb (by rw [z]; exact (id_w h1).symm))) (by show cel G (nwv I L R nx) (ID (nx + 2)) = _; rw [id_w h1]; exact hce)] at hP
  have k9 := kk p e s m args below meth c C H1 locs arr ⟨hP, Or.inl (show nx + 1 ≤ 455 by omega)⟩ hS1 hl (fun _ => by show s.heap.size + (c0 + 1) = g0 G + ((nx + 1) + 2); have h9 : s.heap.size + c0 = g0 G + (nx + 2) := hz (show nx < 457 by omega); omega)
  have hpo : PO (nx + 2) = nx + 2 := by unfold PO; rw [if_neg (by omega), if_neg (by omega)]
  have hc2 : cv G (.ref (nx + 2)) = .ref q := by rw [hq]; simp [cv, AD_in G (show nx + 2 < 457 by omega), hpo]
  rw [show ((Value.ref (nx + 2) :: st).map (cv G)) = .ref q :: st.map (cv G) by simp [hc2]] at k9
  exact k9
/-- what stands beside the law's and the class's cells is let go -/
theorem HS.forget {G : GT} {H : Heap} {n : Nat} (h : HS G (I, L, R, n) H) (h1 : 436 ≤ n) : HS G (I, L, R, 457) H := by
  refine ⟨fun k q hk => ?_, Or.inr rfl⟩
  obtain ⟨hlt, rfl⟩ := wl_getI hk
  have hlt : k < 438 := hlt
  have h2 : (wl G (I, L, R, n))[k]? = some (g0 G + k, cel G (I, L, R, n) (ID k)) := wl_at G _ (by show k < sc n; unfold sc; split <;> omega)
  exact h.1 k _ h2
theorem v_forget {n : Nat} (h1 : 436 ≤ n) (kk : V G Y pc ls st (I, L, R, 457) c0 s0 Q QX) : V G Y pc ls st (I, L, R, n) c0 s0 Q QX :=
  fun p e s m args below meth c C H locs arr hH hS hl _ => kk p e s m args below meth c C H locs arr (hH.forget h1) hS hl (fun q => absurd q (Nat.lt_irrefl _))
/-- new State[n], new Dispute[n] -/
theorem v_newq (k : Nat) {idx t N : Nat} {C9 : String} {n : Int32} (hd : (yP Y)[k]? = some (pc, .anewarray idx, 3)) (hp : pc + 3 = pc') (ht : (t = 4 ∧ C9 = "GlitchCourt$State") ∨ (t = 5 ∧ C9 = "GlitchCourt$Dispute")) (hk : Cond.classLink (yN Y).cls idx C9 ∈ GW) (hn : n = nI N) (hN : N ≤ 2410) (hlay : LAY nx = 20 + t) (hlen : LEN nx = N) (hx : nx < 436) (hc : c0 + 1 ≤ (yR Y).cells) (hs : s0 + N ≤ (yR Y).slots) (kk : V G Y pc' ls (.ref nx :: st) (nwu I L R nx) (c0 + 1) (s0 + N) Q QX) : V G Y pc ls (.int n :: st) (I, L, R, nx) c0 s0 Q QX := by
  subst hp
  subst hn
  intro p e s m args below meth c C H locs arr hH hS hl hz
  have hov : va_AO C9 s := by
    rcases ht with ⟨-, rfl⟩ | ⟨-, rfl⟩
    · exact (cxk C).2.2.2.2.1
    · exact (cxk C).2.2.2.2.2.1
  have haty : aty t = .object C9 := by rcases ht with ⟨rfl, rfl⟩ | ⟨rfl, rfl⟩ <;> rfl
  have ht7 : t < 8 := by rcases ht with ⟨rfl, -⟩ | ⟨rfl, -⟩ <;> decide
  have hdt : dta G (nwu I L R nx) nx t = .inr (.inr (.inr (.inr (fun _ => none)))) := by
    rcases ht with ⟨rfl, -⟩ | ⟨rfl, -⟩ <;> simp [dta, nwu, clr_s]
  refine va_newq (cxx C) (cxb C) (cxo C) (cxw C _ hk) hov (cxk C).1 hH.1 (wl_D G _) hS (fun q hq => Nat.le_trans (cxn C) hq) (nI_pos (by omega)) (nI_clamp (by omega)) (by omega) hc hs (cxd C hd) (fun q cA H1 hK2 hP hD hS1 => ?_)
  refine W.le (fun hle => ?_)
  have hq := nw_addr (show nx ≤ 454 by omega) hP hD (hz (show nx < 457 by omega)) hle
  rw [← haty] at hK2
  have hcA := k_last hK2 ht7
  have hce : cel G (nwu I L R nx) nx = .inl (cA, N, .inr (.inr (.inr (.inr (fun _ => none))))) := by rw [cel_arr hlay, hlen, hcA, hdt]
  rw [hq, wl_push (u' := nwu I L R nx) (show nx ≤ 454 by omega) rfl (fun b hb => nwu_cel (fun z => hb (by rw [z]; exact (id_c hx).symm))) (by show cel G (nwu I L R nx) (ID (nx + 2)) = _; rw [id_c hx]; exact hce)] at hP
  have k9 := kk p e s m args below meth c C H1 locs arr ⟨hP, Or.inl (show nx + 1 ≤ 455 by omega)⟩ hS1 hl (fun _ => by show s.heap.size + (c0 + 1) = g0 G + ((nx + 1) + 2); have h9 : s.heap.size + c0 = g0 G + (nx + 2) := hz (show nx < 457 by omega); omega)
  have hc2 : cv G (.ref nx) = .ref q := by rw [hq]; simp [cv, AD_in G (show nx < 457 by omega), po_c hx]
  rw [show ((Value.ref nx :: st).map (cv G)) = .ref q :: st.map (cv G) by simp [hc2]] at k9
  exact k9
end VN
