def FL (own : String) (idx ci j ty : Nat) (fin : Bool) : Prop := ∃ (C : String) (T : u_T) (N : Nat), clz[ci]? = some (C, T, N) ∧ j < N ∧ Cond.fieldLink own idx (T j).1 (T j).2.1 (T j).2.2.1 ∈ GW ∧ FTY ci j = ty ∧ (T j).2.2.2 = fin
section VF
variable {G : GT} {Y : MT} {pc pc' : Nat} {ls ls' : List (Nat × Value)} {st : List Value} {u : MU} {c0 s0 : Nat} {Q : Option Value → MU → Prop} {QX : String → MU → Prop}
variable {I : Nat → Nat → Int32} {L : Nat → Nat → Int64} {R : Nat → Nat → Option Nat} {nx : Nat}
theorem cl_nf {ci : Nat} {C : String} {T : u_T} {N : Nat} (h : clz[ci]? = some (C, T, N)) : NF ci = N := (cl_ok ci C T N h).choose_spec.2.1
theorem cl_20 {ci : Nat} {C : String} {T : u_T} {N : Nat} (h : clz[ci]? = some (C, T, N)) : ci < 20 := (cl_ok ci C T N h).choose_spec.2.2.2.2.2
theorem v_get {v : Value} (k : Nat) {idx a ci j ty : Nat} {fin : Bool} (hd : (yP Y)[k]? = some (pc, .getfield idx, 3)) (hp : pc + 3 = pc') (hf : FL (yN Y).cls idx ci j ty fin) (ha : LAY a = ci) (hx : ST a u.2.2.2) (hv : cv G v = fvl G u a j ty) (kk : V G Y pc' ls (v :: st) u c0 s0 Q QX) : V G Y pc ls (.ref a :: st) u c0 s0 Q QX := by
  subst hp
  obtain ⟨C9, T, N, h1, h2, h3, h4, h5⟩ := hf
  intro p e s m args below meth c C H locs arr hH hS hl hz
  have h457 : a < 457 := st_r hx hH.2
  have hc2 : cv G (.ref a) = .ref (g0 G + PO a) := by simp [cv, AD_in G h457]
  show W _ _ _ _ _ _ _ _ _ _ _ _ _ _ _ (F0 m pc arr (cv G (.ref a) :: st.map (cv G)))
  rw [hc2]
  have he : (wl G u)[PO a]? = some (g0 G + PO a, .inr (ci, fsl G u a ci)) := by rw [wl_get G u hx, cel_obj ha (cl_20 h1)]
  have hg : (fsl G u a ci)[j]? = some (cv G v) := by rw [fsl_get (by rw [cl_nf h1]; exact h2), h4, hv]
  exact va_get (cxx C) (cxb C) (cxw C) (cl_in h1) (cxo C) (cxk C).1 hH.1 (PO a) he h1 j h2 (cxw C _ h3) (fun _ h9 => h9) hg (cxd C hd) (kk p e s m args below meth c C H locs arr hH hS hl hz)
theorem v_getI (k : Nat) {idx a ci j : Nat} {fin : Bool} (hd : (yP Y)[k]? = some (pc, .getfield idx, 3)) (hp : pc + 3 = pc') (hf : FL (yN Y).cls idx ci j 0 fin) (ha : LAY a = ci) (hx : ST a nx) (kk : V G Y pc' ls (.int (I a j) :: st) (I, L, R, nx) c0 s0 Q QX) : V G Y pc ls (.ref a :: st) (I, L, R, nx) c0 s0 Q QX :=
  v_get (v := .int (I a j)) k hd hp hf ha hx rfl kk
theorem v_getZ (k : Nat) {idx a ci j : Nat} {fin : Bool} (hd : (yP Y)[k]? = some (pc, .getfield idx, 3)) (hp : pc + 3 = pc') (hf : FL (yN Y).cls idx ci j 2 fin) (ha : LAY a = ci) (hx : ST a nx) (kk : V G Y pc' ls (.int (I a j) :: st) (I, L, R, nx) c0 s0 Q QX) : V G Y pc ls (.ref a :: st) (I, L, R, nx) c0 s0 Q QX :=
  v_get (v := .int (I a j)) k hd hp hf ha hx rfl kk
theorem v_getL (k : Nat) {idx a ci j : Nat} {fin : Bool} (hd : (yP Y)[k]? = some (pc, .getfield idx, 3)) (hp : pc + 3 = pc') (hf : FL (yN Y).cls idx ci j 1 fin) (ha : LAY a = ci) (hx : ST a nx) (kk : V G Y pc' ls (.long (L a j) :: st) (I, L, R, nx) c0 s0 Q QX) : V G Y pc ls (.ref a :: st) (I, L, R, nx) c0 s0 Q QX :=
  v_get (v := .long (L a j)) k hd hp hf ha hx rfl kk
theorem v_getR (k : Nat) {idx a ci j t : Nat} {fin : Bool} (hd : (yP Y)[k]? = some (pc, .getfield idx, 3)) (hp : pc + 3 = pc') (hf : FL (yN Y).cls idx ci j 3 fin) (ha : LAY a = ci) (hx : ST a nx) (hr : R a j = some t) (kk : V G Y pc' ls (.ref t :: st) (I, L, R, nx) c0 s0 Q QX) : V G Y pc ls (.ref a :: st) (I, L, R, nx) c0 s0 Q QX :=
  v_get (v := .ref t) k hd hp hf ha hx (by simp [fvl, hr, cv, va_rf]) kk
/-- a field is written -/
theorem v_put0 {v : Value} {u' : MU} (k : Nat) {idx a ci j ty : Nat} {fin : Bool} (hd : (yP Y)[k]? = some (pc, .putfield idx, 3)) (hp : pc + 3 = pc') (hf : FL (yN Y).cls idx ci j ty fin) (hfin : fin = true → (yN Y).name = "<init>" ∧ ∀ C9 T9 N9, clz[ci]? = some (C9, T9, N9) → (T9 j).1 = (yN Y).cls) (ha : LAY a = ci) (hx : ST a u.2.2.2)
    (hnx : u'.2.2.2 = u.2.2.2) (hv : fvl G u' a j ty = cv G v) (ho : ∀ i t, i ≠ j → fvl G u' a i t = fvl G u a i t) (ho2 : ∀ b, b ≠ a → cel G u' b = cel G u b) (hty : ∀ t0 : FieldType, okty ty t0 = true → narrow t0 (cv G v) = cv G v ∧ fits t0 (cv G v) = true) (kk : V G Y pc' ls st u' c0 s0 Q QX) : V G Y pc ls (v :: .ref a :: st) u c0 s0 Q QX := by
  subst hp
  obtain ⟨C9, T, N, h1, h2, h3, h4, h5⟩ := hf
  intro p e s m args below meth c C H locs arr hH hS hl hz
  have h457 : a < 457 := st_r hx hH.2
  have hc2 : cv G (.ref a) = .ref (g0 G + PO a) := by simp [cv, AD_in G h457]
  show W _ _ _ _ _ _ _ _ _ _ _ _ _ _ _ (F0 m pc arr (cv G v :: cv G (.ref a) :: st.map (cv G)))
  rw [hc2]
  have he : (wl G u)[PO a]? = some (g0 G + PO a, .inr (ci, fsl G u a ci)) := by rw [wl_get G u hx, cel_obj ha (cl_20 h1)]
  obtain ⟨ty0, k1, k2, k3, k4, k5, k6⟩ := cl_ok ci C9 T N h1
  obtain ⟨t1, t2⟩ := hty (ty0 j) (by rw [← h4]; exact k5 j h2)
  have hlen : j < (fsl G u a ci).length := by rw [fsl_len, k2]; exact h2
  have hset : (wl G u).set (PO a) (g0 G + PO a, .inr (ci, (fsl G u a ci).set j (cv G v))) = wl G u' := by
    have e1 : (fsl G u a ci).set j (cv G v) = fsl G u' a ci := fsl_set (by rw [h4]; exact hv) (fun i hi => ho i _ hi)
    rw [e1, ← cel_obj ha (cl_20 h1)]
    exact wl_set G hnx ho2
  cases fin with
  | false =>
    refine va_put (cxx C) (cxb C) (cxw C) (cl_in h1) ty0 k3 k4 (cxo C) (cxk C).1 hH.1 (wl_D G u) hS (PO a) he h1 j h2 (cxw C _ h3) (fun _ h9 => h9) h5 (k3 j h2) t1 t2 hlen (cxd C hd) (fun H1 locs1 hP hD hS1 => ?_)
    rw [hset] at hP
    exact kk p e s m args below meth c C H1 locs1 arr ⟨hP, by rw [hnx]; exact hH.2⟩ hS1 hl (fun q => by rw [hnx]; exact hz (by rw [← hnx]; exact q))
  | true =>
    refine va_putF (cxx C) (cxb C) (cxw C) (cl_in h1) ty0 k3 k4 (cxo C) (cxk C).1 hH.1 (wl_D G u) hS (PO a) he h1 j h2 (cxw C _ h3) (fun _ h9 => h9) h5 ((cxi C).trans (hfin rfl).1) ((hfin rfl).2 _ _ _ h1) (k3 j h2) t1 t2 hlen (cxd C hd) (fun H1 locs1 hP hD hS1 => ?_)
    rw [hset] at hP
    exact kk p e s m args below meth c C H1 locs1 arr ⟨hP, by rw [hnx]; exact hH.2⟩ hS1 hl (fun q => by rw [hnx]; exact hz (by rw [← hnx]; exact q))
theorem up2_row {α : Type} {f : Nat → Nat → α} {k j b : Nat} {x : α} (h : b ≠ k) : up2 f k j x b = f b := funext fun i => up2_n (Or.inl h)
theorem v_putI {x : Int32} (k : Nat) {idx a ci j : Nat} {fin : Bool} (hd : (yP Y)[k]? = some (pc, .putfield idx, 3)) (hp : pc + 3 = pc') (hf : FL (yN Y).cls idx ci j 0 fin) (hfin : fin = true → (yN Y).name = "<init>" ∧ ∀ C9 T9 N9, clz[ci]? = some (C9, T9, N9) → (T9 j).1 = (yN Y).cls) (ha : LAY a = ci) (hx : ST a nx) (kk : V G Y pc' ls st (up2 I a j x, L, R, nx) c0 s0 Q QX) : V G Y pc ls (.int x :: .ref a :: st) (I, L, R, nx) c0 s0 Q QX := by
  refine v_put0 (v := .int x) (u' := (up2 I a j x, L, R, nx)) k hd hp hf hfin ha hx rfl (by simp [fvl, up2_s, cv]) (fun i t hi => ?_) (fun b hb => cel_same (up2_row hb) rfl rfl) (fun t0 h => by rw [okty0 h]; exact ⟨rfl, rfl⟩) kk
  simp [fvl, up2_n (Or.inr hi)]
theorem v_putZ {x : Int32} (k : Nat) {idx a ci j : Nat} {fin : Bool} (hd : (yP Y)[k]? = some (pc, .putfield idx, 3)) (hp : pc + 3 = pc') (hf : FL (yN Y).cls idx ci j 2 fin) (hfin : fin = true → (yN Y).name = "<init>" ∧ ∀ C9 T9 N9, clz[ci]? = some (C9, T9, N9) → (T9 j).1 = (yN Y).cls) (ha : LAY a = ci) (hx : ST a nx) (hb : x = 0 ∨ x = 1) (kk : V G Y pc' ls st (up2 I a j x, L, R, nx) c0 s0 Q QX) : V G Y pc ls (.int x :: .ref a :: st) (I, L, R, nx) c0 s0 Q QX := by
  refine v_put0 (v := .int x) (u' := (up2 I a j x, L, R, nx)) k hd hp hf hfin ha hx rfl (by simp [fvl, up2_s, cv]) (fun i t hi => ?_) (fun b hb => cel_same (up2_row hb) rfl rfl) (fun t0 h => by rw [okty2 h]; rcases hb with rfl | rfl <;> exact ⟨rfl, rfl⟩) kk
  simp [fvl, up2_n (Or.inr hi)]
theorem v_putL {x : Int64} (k : Nat) {idx a ci j : Nat} {fin : Bool} (hd : (yP Y)[k]? = some (pc, .putfield idx, 3)) (hp : pc + 3 = pc') (hf : FL (yN Y).cls idx ci j 1 fin) (hfin : fin = true → (yN Y).name = "<init>" ∧ ∀ C9 T9 N9, clz[ci]? = some (C9, T9, N9) → (T9 j).1 = (yN Y).cls) (ha : LAY a = ci) (hx : ST a nx) (kk : V G Y pc' ls st (I, up2 L a j x, R, nx) c0 s0 Q QX) : V G Y pc ls (.long x :: .ref a :: st) (I, L, R, nx) c0 s0 Q QX := by
  refine v_put0 (v := .long x) (u' := (I, up2 L a j x, R, nx)) k hd hp hf hfin ha hx rfl (by simp [fvl, up2_s, cv]) (fun i t hi => ?_) (fun b hb => cel_same rfl (up2_row hb) rfl) (fun t0 h => by rw [okty1 h]; exact ⟨rfl, rfl⟩) kk
  simp [fvl, up2_n (Or.inr hi)]
theorem v_putR {x : Nat} (k : Nat) {idx a ci j : Nat} {fin : Bool} (hd : (yP Y)[k]? = some (pc, .putfield idx, 3)) (hp : pc + 3 = pc') (hf : FL (yN Y).cls idx ci j 3 fin) (hfin : fin = true → (yN Y).name = "<init>" ∧ ∀ C9 T9 N9, clz[ci]? = some (C9, T9, N9) → (T9 j).1 = (yN Y).cls) (ha : LAY a = ci) (hx : ST a nx) (kk : V G Y pc' ls st (I, L, up2 R a j (some x), nx) c0 s0 Q QX) : V G Y pc ls (.ref x :: .ref a :: st) (I, L, R, nx) c0 s0 Q QX := by
  refine v_put0 (v := .ref x) (u' := (I, L, up2 R a j (some x), nx)) k hd hp hf hfin ha hx rfl (by simp [fvl, up2_s, cv, va_rf]) (fun i t hi => ?_) (fun b hb => cel_same rfl rfl (up2_row hb)) (fun t0 h => (okty3 h).2 (some (AD G x))) kk
  simp [fvl, up2_n (Or.inr hi)]
end VF
