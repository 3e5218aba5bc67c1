section VMM
variable {G : GT} {Y Y2 : MT} {pc pc' : Nat} {ls ls' : List (Nat × Value)} {st : List Value} {u : MU} {c0 s0 : Nat} {Q Q1 : Option Value → MU → Prop} {QX QX1 : String → MU → Prop}
variable {I : Nat → Nat → Int32} {L : Nat → Nat → Int64} {R : Nat → Nat → Option Nat} {nx : Nat}
/-- the world behind new int[3][16] -/
def mnu (I : Nat → Nat → Int32) (L : Nat → Nat → Int64) (R : Nat → Nat → Option Nat) (nx : Nat) : MU :=
  (fun a j => if nx ≤ a ∧ a < nx + 4 then 0 else I a j, fun a j => if nx ≤ a ∧ a < nx + 4 then 0 else L a j, fun a j => if a = nx then (if j < 3 then some (nx + 1 + j) else none) else if nx ≤ a ∧ a < nx + 4 then none else R a j, nx + 4)
theorem mnu_old {k : Nat} (h : k < nx ∨ nx + 4 ≤ k) : cel G (mnu I L R nx) k = cel G (I, L, R, nx) k := by
  have h1 : ¬ (nx ≤ k ∧ k < nx + 4) := by omega
  have h2 : ¬ k = nx := by omega
  exact cel_same (by funext j; simp [mnu, h1]) (by funext j; simp [mnu, h1]) (by funext j; simp [mnu, h1, h2])
theorem v_mna (k : Nat) {idx : Nat} (hd : (yP Y)[k]? = some (pc, .multianewarray idx 2, 4)) (hp : pc + 4 = pc') (hk : Cond.classLink (yN Y).cls idx "[[I" ∈ GW) (har : Cond.arrayClass .int ∈ GW) (hl0 : LAY nx = 26) (hl1 : LAY (nx + 1) = 20) (hl2 : LAY (nx + 2) = 20) (hl3 : LAY (nx + 3) = 20) (hn0 : LEN nx = 3) (hn1 : LEN (nx + 1) = 16) (hn2 : LEN (nx + 2) = 16) (hn3 : LEN (nx + 3) = 16)
    (hx : nx + 4 ≤ 436) (hc : c0 + 4 ≤ (yR Y).cells) (hs : s0 + 51 ≤ (yR Y).slots) (kk : V G Y pc' ls (.ref nx :: st) (mnu I L R nx) (c0 + 4) (s0 + 51) Q QX) : V G Y pc ls (.int 16 :: .int 3 :: st) (I, L, R, nx) c0 s0 Q QX := by
  subst hp
  intro p e s m args below meth c C H locs arr hH hS hl hz
  refine W.le (fun hle => ?_)
  have hz1 : s.heap.size + c0 = g0 G + (nx + 2) := hz (by show nx < 457; omega)
  have hs9 : sc nx = nx + 2 := if_pos (by omega)
  have hsz : H.size = g0 G + (nx + 2) := by
    refine Nat.le_antisymm (by omega) ?_
    have h3 := (hH.1 (nx + 1) _ (wl_at G (I, L, R, nx) (by show nx + 1 < sc nx; omega))).lt
    have h4 : g0 G + (nx + 1) < H.size := h3
    omega
  have hcy : s.vm.findClass (FieldType.array .int).toString = some (gA G 0) := ((cxk C).1.2 0 _ (tys_get G (by decide))).2
  intro T hT X
  obtain ⟨vm₁, cA, comp, -, fA, fC, hO, -, X', step⟩ := X.multianewarray2F (cxx C) (cxo C) (cxw C _ hk) (va_AOA.use (cxk C).2.2.2.2.2.2.1) (cxw C _ har) (g := F0 m pc arr (.int 16 :: .int 3 :: st.map (cv G))) rfl (by rw [cxb C]; exact cxd C hd) rfl (by decide) (by decide) (by decide) (by decide) (by decide) rfl rfl (n := 3) (k := 16) (by show c0 + 4 ≤ _; exact hc) (by show s0 + 51 ≤ _; exact hs)
  have ec : gA G 0 = comp := Option.some.inj (hcy.symm.trans fC)
  subst ec
  have eA : cA = gA G 6 := Option.some.inj (fA.symm.trans ((cxk C).1.2 6 _ (tys_get G (by decide))).2)
  subst eA
  have hN3 : (3 : Int32).toNatClampNeg = 3 := by decide
  have hN16 : (16 : Int32).toNatClampNeg = 16 := by decide
  rw [hN3, hN16] at X' step
  generalize hF : Jvm.Free.Multi.fill (T.setVm vm₁) (gA G 6) (gA G 0) 3 16 (defaultValue .int) 3 = F at X' step
  have hTh : (T.setVm vm₁).heap = H := hT
  obtain ⟨f1, f2, -, -⟩ := Jvm.Free.Multi.fill_facts (T.setVm vm₁) (gA G 6) (gA G 0) 3 16 (defaultValue .int) 3
  rw [hF, hTh] at f1 f2
  have hold : ∀ x : Nat, x < H.size → F.heap[x]? = H[x]? := fun x hx9 => by
    have := Jvm.Free.Multi.fill_old (T.setVm vm₁) (gA G 6) (gA G 0) 3 16 (defaultValue .int) (a := x) (by rw [hTh]; exact hx9) 3
    rw [hF, hTh] at this
    exact this
  have hrow : ∀ j : Nat, j < 3 → F.heap[H.size + 1 + j]? = some (vp_cell (gA G 0) (16, .inl (fun _ => 0))) := fun j hj => by
    have h9 := Jvm.Free.Multi.fill_inner (T.setVm vm₁) (gA G 6) (gA G 0) 3 16 (defaultValue .int) 3 j hj
    rw [hF, hTh] at h9
    rw [h9, vp_cell_i]
    exact congrArg some (arrV_new (gA G 0) 16 (defaultValue .int))
  have hout : F.heap[H.size]? = some (vp_cell (gA G 6) (3, .inr (.inr (.inr (.inr (fun i => if i < 3 then some (H.size + 1 + i) else none)))))) := by
    rw [f2, vp_cell_q]
    exact congrArg some (vr_outer (gA G 6) 3 H.size 3)
  have hP' : va_P (gC G, gI G) clz (wl G (mnu I L R nx)) F.heap := by
    intro k9 q9 hk9
    obtain ⟨hlt, rfl⟩ := wl_getI hk9
    have hlt : k9 < sc (nx + 4) := hlt
    rw [show sc (nx + 4) = nx + 6 from if_pos (by omega)] at hlt
    rcases Nat.lt_or_ge k9 (nx + 2) with h | h
    · have hne : ID k9 < nx ∨ nx + 4 ≤ ID k9 := by
        unfold ID
        split
        · omega
        · rw [if_pos (by omega)]; omega
      rw [mnu_old hne]
      have h8 := hH.1 k9 _ (wl_at G (I, L, R, nx) (by show k9 < sc nx; omega))
      refine h8.kept (hold _ ?_)
      exact h8.lt
    · have hid : ID k9 = k9 - 2 := by unfold ID; rw [if_neg (by omega), if_pos (by omega)]
      rw [hid]
      rcases Nat.eq_or_lt_of_le h with h | h
      · subst h
        rw [show nx + 2 - 2 = nx by omega, cel_arr (t := 6) hl0]
        show F.heap[g0 G + (nx + 2)]? = some (vp_cell (gA G 6) (LEN nx, dta G (mnu I L R nx) nx 6))
        rw [← hsz, hout, hn0]
        congr 2
        simp only [dta, mnu]
        congr 5
        funext j
        by_cases hj : j < 3
        · simp only [hj, if_true, Option.map_some]
          rw [AD_in G (by omega), hsz, po_c (by omega)]
          congr 1
          omega
        · simp [hj]
      · have hm : ∀ j, j < 3 → k9 - 2 = nx + 1 + j → LAY (k9 - 2) = 20 → LEN (k9 - 2) = 16 → va_at (gC G, gI G) clz (g0 G + k9, cel G (mnu I L R nx) (k9 - 2)) F.heap := by
          intro j hj e h1 h2
          rw [cel_arr (t := 0) h1]
          show F.heap[g0 G + k9]? = some (vp_cell (gA G 0) (LEN (k9 - 2), dta G (mnu I L R nx) (k9 - 2) 0))
          rw [show g0 G + k9 = H.size + 1 + j by omega, hrow j hj, h2]
          congr 2
          simp only [dta, mnu]
          congr 2
          funext i
          rw [if_pos (by omega)]
        rcases (show k9 - 2 = nx + 1 ∨ k9 - 2 = nx + 2 ∨ k9 - 2 = nx + 3 by omega) with e | e | e
        · exact hm 0 (by decide) (by omega) (by rw [e]; exact hl1) (by rw [e]; exact hn1)
        · exact hm 1 (by decide) (by omega) (by rw [e]; exact hl2) (by rw [e]; exact hn2)
        · exact hm 2 (by decide) (by omega) (by rw [e]; exact hl3) (by rw [e]; exact hn3)
  have hS' : va_S (AA G) s.heap F.heap locs := ⟨by rw [f1]; have := hS.1; omega, fun x h1 h2 => (hold x (Nat.lt_of_lt_of_le h1 hS.1)).trans (hS.2.1 x h1 h2), hS.2.2⟩
  obtain ⟨t, a1, b1⟩ := kk p e s m args below meth c C F.heap locs arr ⟨hP', Or.inl (show nx + 4 ≤ 455 by omega)⟩ hS' hl (fun _ => by show s.heap.size + (c0 + 4) = g0 G + ((nx + 4) + 2); omega) F rfl X'
  refine ⟨t, step t ?_, b1⟩
  have e1 : T.heap.size = g0 G + (nx + 2) := by rw [hT]; exact hsz
  rw [e1]
  have hc2 : cv G (.ref nx) = .ref (g0 G + (nx + 2)) := by simp [cv, AD_in G (show nx < 457 by omega), po_c (show nx < 436 by omega)]
  rw [show ((Value.ref nx :: st).map (cv G)) = .ref (g0 G + (nx + 2)) :: st.map (cv G) by simp [hc2]] at a1
  exact a1
end VMM
