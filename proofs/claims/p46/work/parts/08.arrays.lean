section VA
variable {G : GT} {Y : MT} {pc pc' : Nat} {ls ls' : List (Nat × Value)} {st : List Value} {u : MU} {c0 s0 : Nat} {Q : Option Value → MU → Prop} {QX : String → MU → Prop}
variable {I : Nat → Nat → Int32} {L : Nat → Nat → Int64} {R : Nat → Nat → Option Nat} {nx : Nat}
theorem tys_get (G : GT) {t : Nat} (h : t < 8) : (tysG G)[t]? = some (gA G t, aty t) := by simp [tysG, List.getElem?_map, List.getElem?_range h]
theorem HS.same {G : GT} {u u' : MU} {H1 : Heap} (h : HS G u H1 ∨ NK u.2.2.2) (hn : u'.2.2.2 = u.2.2.2) (hP : va_P (gC G, gI G) clz (wl G u') H1) : HS G u' H1 := ⟨hP, by rw [hn]; exact h.elim (fun q => q.2) id⟩
theorem cv_ref {G : GT} {u : MU} {H : Heap} (hH : HS G u H) {a : Nat} (hx : ST a u.2.2.2) : cv G (.ref a) = .ref (g0 G + PO a) := by simp [cv, AD_in G (st_r hx hH.2)]
theorem wl_arr {G : GT} {u : MU} {a t : Nat} (hx : ST a u.2.2.2) (ha : LAY a = 20 + t) : (wl G u)[PO a]? = some (g0 G + PO a, .inl (gA G t, LEN a, dta G u a t)) := by rw [wl_get G u hx, cel_arr ha]

theorem v_iald (k : Nat) {i : Int32} {a n : Nat} (hd : (yP Y)[k]? = some (pc, .iaload, 1)) (hp : pc + 1 = pc') (ha : LAY a = 20) (hn : LEN a = n) (hx : ST a nx) (hi : vp_in i n) {j : Nat} (hj : i.toNatClampNeg = j) (kk : V G Y pc' ls (.int (I a j) :: st) (I, L, R, nx) c0 s0 Q QX) : V G Y pc ls (.int i :: .ref a :: st) (I, L, R, nx) c0 s0 Q QX := by
  subst hj
  subst hp
  subst hn
  intro p e s m args below meth c C H locs arr hH hS hl hz
  show W _ _ _ _ _ _ _ _ _ _ _ _ _ _ _ (F0 m pc arr (.int i :: cv G (.ref a) :: st.map (cv G)))
  rw [cv_ref hH hx]
  exact va_iald (cxx C) (cxb C) (cxk C).1 hH.1 (PO a) 0 (wl_arr hx (t := 0) ha) (tys_get G (by decide)) hi (cxd C hd) (kk p e s m args below meth c C H locs arr hH hS hl hz)

theorem v_lald (k : Nat) {i : Int32} {a n : Nat} (hd : (yP Y)[k]? = some (pc, .laload, 1)) (hp : pc + 1 = pc') (ha : LAY a = 21) (hn : LEN a = n) (hx : ST a nx) (hi : vp_in i n) {j : Nat} (hj : i.toNatClampNeg = j) (kk : V G Y pc' ls (.long (L a j) :: st) (I, L, R, nx) c0 s0 Q QX) : V G Y pc ls (.int i :: .ref a :: st) (I, L, R, nx) c0 s0 Q QX := by
  subst hj
  subst hp
  subst hn
  intro p e s m args below meth c C H locs arr hH hS hl hz
  show W _ _ _ _ _ _ _ _ _ _ _ _ _ _ _ (F0 m pc arr (.int i :: cv G (.ref a) :: st.map (cv G)))
  rw [cv_ref hH hx]
  exact va_lald (cxx C) (cxb C) (cxk C).1 hH.1 (PO a) 1 (wl_arr hx (t := 1) ha) (tys_get G (by decide)) hi (cxd C hd) (kk p e s m args below meth c C H locs arr hH hS hl hz)

theorem v_bald (k : Nat) {i : Int32} {a n : Nat} (hd : (yP Y)[k]? = some (pc, .baload, 1)) (hp : pc + 1 = pc') (ha : LAY a = 22) (hn : LEN a = n) (hx : ST a nx) (hi : vp_in i n) {j : Nat} (hj : i.toNatClampNeg = j) (kk : V G Y pc' ls (.int (I a j) :: st) (I, L, R, nx) c0 s0 Q QX) : V G Y pc ls (.int i :: .ref a :: st) (I, L, R, nx) c0 s0 Q QX := by
  subst hj
  subst hp
  subst hn
  intro p e s m args below meth c C H locs arr hH hS hl hz
  show W _ _ _ _ _ _ _ _ _ _ _ _ _ _ _ (F0 m pc arr (.int i :: cv G (.ref a) :: st.map (cv G)))
  rw [cv_ref hH hx]
  exact va_bald (cxx C) (cxb C) (cxk C).1 hH.1 (PO a) 2 (wl_arr hx (t := 2) ha) (tys_get G (by decide)) hi (cxd C hd) (kk p e s m args below meth c C H locs arr hH hS hl hz)

theorem v_zald (k : Nat) {i : Int32} {a n : Nat} (hd : (yP Y)[k]? = some (pc, .baload, 1)) (hp : pc + 1 = pc') (ha : LAY a = 23) (hn : LEN a = n) (hx : ST a nx) (hi : vp_in i n) {j : Nat} (hj : i.toNatClampNeg = j) (kk : V G Y pc' ls (.int (I a j) :: st) (I, L, R, nx) c0 s0 Q QX) : V G Y pc ls (.int i :: .ref a :: st) (I, L, R, nx) c0 s0 Q QX := by
  subst hj
  subst hp
  subst hn
  intro p e s m args below meth c C H locs arr hH hS hl hz
  show W _ _ _ _ _ _ _ _ _ _ _ _ _ _ _ (F0 m pc arr (.int i :: cv G (.ref a) :: st.map (cv G)))
  rw [cv_ref hH hx]
  exact va_zald (cxx C) (cxb C) (cxk C).1 hH.1 (PO a) 3 (wl_arr hx (t := 3) ha) (tys_get G (by decide)) hi (cxd C hd) (kk p e s m args below meth c C H locs arr hH hS hl hz)

theorem v_aald4 (k : Nat) {i : Int32} {a n r : Nat} (hd : (yP Y)[k]? = some (pc, .aaload, 1)) (hp : pc + 1 = pc') (ha : LAY a = 24) (hn : LEN a = n) (hx : ST a nx) (hi : vp_in i n) {j : Nat} (hj : i.toNatClampNeg = j) (hr : R a j = some r) (kk : V G Y pc' ls (.ref r :: st) (I, L, R, nx) c0 s0 Q QX) : V G Y pc ls (.int i :: .ref a :: st) (I, L, R, nx) c0 s0 Q QX := by
  subst hj
  subst hp
  subst hn
  intro p e s m args below meth c C H locs arr hH hS hl hz
  show W _ _ _ _ _ _ _ _ _ _ _ _ _ _ _ (F0 m pc arr (.int i :: cv G (.ref a) :: st.map (cv G)))
  rw [cv_ref hH hx]
  have k2 := kk p e s m args below meth c C H locs arr hH hS hl hz
  refine va_aldq (cxx C) (cxb C) (cxk C).1 hH.1 (PO a) 4 (f := fun j => (R a j).map (AD G)) (wl_arr hx (t := 4) ha) (tys_get G (by decide)) hi (cxd C hd) ?_
  simp only [hr]
  exact k2

theorem v_aald5 (k : Nat) {i : Int32} {a n r : Nat} (hd : (yP Y)[k]? = some (pc, .aaload, 1)) (hp : pc + 1 = pc') (ha : LAY a = 25) (hn : LEN a = n) (hx : ST a nx) (hi : vp_in i n) {j : Nat} (hj : i.toNatClampNeg = j) (hr : R a j = some r) (kk : V G Y pc' ls (.ref r :: st) (I, L, R, nx) c0 s0 Q QX) : V G Y pc ls (.int i :: .ref a :: st) (I, L, R, nx) c0 s0 Q QX := by
  subst hj
  subst hp
  subst hn
  intro p e s m args below meth c C H locs arr hH hS hl hz
  show W _ _ _ _ _ _ _ _ _ _ _ _ _ _ _ (F0 m pc arr (.int i :: cv G (.ref a) :: st.map (cv G)))
  rw [cv_ref hH hx]
  have k2 := kk p e s m args below meth c C H locs arr hH hS hl hz
  refine va_aldq (cxx C) (cxb C) (cxk C).1 hH.1 (PO a) 5 (f := fun j => (R a j).map (AD G)) (wl_arr hx (t := 5) ha) (tys_get G (by decide)) hi (cxd C hd) ?_
  simp only [hr]
  exact k2

theorem v_aald6 (k : Nat) {i : Int32} {a n r : Nat} (hd : (yP Y)[k]? = some (pc, .aaload, 1)) (hp : pc + 1 = pc') (ha : LAY a = 26) (hn : LEN a = n) (hx : ST a nx) (hi : vp_in i n) {j : Nat} (hj : i.toNatClampNeg = j) (hr : R a j = some r) (kk : V G Y pc' ls (.ref r :: st) (I, L, R, nx) c0 s0 Q QX) : V G Y pc ls (.int i :: .ref a :: st) (I, L, R, nx) c0 s0 Q QX := by
  subst hj
  subst hp
  subst hn
  intro p e s m args below meth c C H locs arr hH hS hl hz
  show W _ _ _ _ _ _ _ _ _ _ _ _ _ _ _ (F0 m pc arr (.int i :: cv G (.ref a) :: st.map (cv G)))
  rw [cv_ref hH hx]
  have k2 := kk p e s m args below meth c C H locs arr hH hS hl hz
  have hlt : i.toNatClampNeg < LEN a := Nat.not_le.mp fun q => hi (Or.inr q)
  have hc := hH.1 (PO a) _ (wl_arr hx (t := 6) ha)
  refine W.aald (v := va_rf ((R a i.toNatClampNeg).map (AD G))) (ty := .array .int) (cxx C) (cxb C) hc (((cxk C).1.2 6 _ (tys_get G (by decide))).1 (LEN a) (fun j => va_rf ((R a j).map (AD G)))) rfl (fun q => by cases q) (by show ¬ (i < 0 ∨ (arrV _ _ _).slots.size ≤ _); rw [arrV_size]; exact hi) (by show (arrV _ _ _).slots[_]? = _; rw [arrV_read _ _ hlt]) rfl rfl (cxd C hd) ?_
  rw [hr]
  exact k2
theorem vp_lit {i : Int32} {n : Nat} (h : decide (¬ (i < 0 ∨ n ≤ i.toNatClampNeg)) = true) : vp_in i n := show ¬ (i < 0 ∨ n ≤ i.toNatClampNeg) from of_decide_eq_true h
theorem up2_self {α : Type} (f : Nat → Nat → α) (k j : Nat) (x : α) : up2 f k j x k = fun i => if i = j then x else f k i := by
  funext i
  simp [up2]

theorem v_iast (k : Nat) {i : Int32} {x : Int32} {a n : Nat} (hd : (yP Y)[k]? = some (pc, .iastore, 1)) (hp : pc + 1 = pc') (ha : LAY a = 20) (hn : LEN a = n) (hx : ST a nx) (hi : vp_in i n) {j : Nat} (hj : i.toNatClampNeg = j) (kk : V G Y pc' ls st (up2 I a j x, L, R, nx) c0 s0 Q QX) : V G Y pc ls (.int x :: .int i :: .ref a :: st) (I, L, R, nx) c0 s0 Q QX := by
  subst hj
  subst hp
  subst hn
  intro p e s m args below meth c C H locs arr hH hS hl hz
  show W _ _ _ _ _ _ _ _ _ _ _ _ _ _ _ (F0 m pc arr (.int x :: .int i :: cv G (.ref a) :: st.map (cv G)))
  rw [cv_ref hH hx]
  have hset : ∀ d, d = dta G (up2 I a i.toNatClampNeg x, L, R, nx) a 0 → (wl G (I, L, R, nx)).set (PO a) (g0 G + PO a, .inl (gA G 0, LEN a, d)) = wl G (up2 I a i.toNatClampNeg x, L, R, nx) := by
    intro d hd9
    rw [hd9, ← cel_arr ha]
    exact wl_set G rfl (fun b hb => cel_same (up2_row hb) rfl rfl)
  refine va_iast (cxx C) (cxb C) (cxk C).1 hH.1 (wl_D G _) hS (PO a) 0 (wl_arr hx (t := 0) ha) (tys_get G (by decide)) hi (cxd C hd) (fun H1 locs1 hP hD hS1 => ?_)
  rw [hset _ (by simp only [dta, up2_self]; rfl)] at hP
  exact kk p e s m args below meth c C H1 locs1 arr ⟨hP, hH.2⟩ hS1 hl hz

theorem v_last (k : Nat) {i : Int32} {x : Int64} {a n : Nat} (hd : (yP Y)[k]? = some (pc, .lastore, 1)) (hp : pc + 1 = pc') (ha : LAY a = 21) (hn : LEN a = n) (hx : ST a nx) (hi : vp_in i n) {j : Nat} (hj : i.toNatClampNeg = j) (kk : V G Y pc' ls st (I, up2 L a j x, R, nx) c0 s0 Q QX) : V G Y pc ls (.long x :: .int i :: .ref a :: st) (I, L, R, nx) c0 s0 Q QX := by
  subst hj
  subst hp
  subst hn
  intro p e s m args below meth c C H locs arr hH hS hl hz
  show W _ _ _ _ _ _ _ _ _ _ _ _ _ _ _ (F0 m pc arr (.long x :: .int i :: cv G (.ref a) :: st.map (cv G)))
  rw [cv_ref hH hx]
  have hset : ∀ d, d = dta G (I, up2 L a i.toNatClampNeg x, R, nx) a 1 → (wl G (I, L, R, nx)).set (PO a) (g0 G + PO a, .inl (gA G 1, LEN a, d)) = wl G (I, up2 L a i.toNatClampNeg x, R, nx) := by
    intro d hd9
    rw [hd9, ← cel_arr ha]
    exact wl_set G rfl (fun b hb => cel_same rfl (up2_row hb) rfl)
  refine va_last (cxx C) (cxb C) (cxk C).1 hH.1 (wl_D G _) hS (PO a) 1 (wl_arr hx (t := 1) ha) (tys_get G (by decide)) hi (cxd C hd) (fun H1 locs1 hP hD hS1 => ?_)
  rw [hset _ (by simp only [dta, up2_self]; rfl)] at hP
  exact kk p e s m args below meth c C H1 locs1 arr ⟨hP, hH.2⟩ hS1 hl hz

theorem v_bast (k : Nat) {i : Int32} {x : Int32} {a n : Nat} (hd : (yP Y)[k]? = some (pc, .bastore, 1)) (hp : pc + 1 = pc') (ha : LAY a = 22) (hn : LEN a = n) (hx : ST a nx) (hi : vp_in i n) {j : Nat} (hj : i.toNatClampNeg = j) (kk : V G Y pc' ls st (up2 I a j x.toInt8.toInt32, L, R, nx) c0 s0 Q QX) : V G Y pc ls (.int x :: .int i :: .ref a :: st) (I, L, R, nx) c0 s0 Q QX := by
  subst hj
  subst hp
  subst hn
  intro p e s m args below meth c C H locs arr hH hS hl hz
  show W _ _ _ _ _ _ _ _ _ _ _ _ _ _ _ (F0 m pc arr (.int x :: .int i :: cv G (.ref a) :: st.map (cv G)))
  rw [cv_ref hH hx]
  have hset : ∀ d, d = dta G (up2 I a i.toNatClampNeg x.toInt8.toInt32, L, R, nx) a 2 → (wl G (I, L, R, nx)).set (PO a) (g0 G + PO a, .inl (gA G 2, LEN a, d)) = wl G (up2 I a i.toNatClampNeg x.toInt8.toInt32, L, R, nx) := by
    intro d hd9
    rw [hd9, ← cel_arr ha]
    exact wl_set G rfl (fun b hb => cel_same (up2_row hb) rfl rfl)
  refine va_bast (cxx C) (cxb C) (cxk C).1 hH.1 (wl_D G _) hS (PO a) 2 (wl_arr hx (t := 2) ha) (tys_get G (by decide)) hi (cxd C hd) (fun H1 locs1 hP hD hS1 => ?_)
  rw [hset _ (by simp only [dta, up2_self]; rfl)] at hP
  exact kk p e s m args below meth c C H1 locs1 arr ⟨hP, hH.2⟩ hS1 hl hz

theorem v_zast (k : Nat) {i : Int32} {x : Int32} {a n : Nat} (hd : (yP Y)[k]? = some (pc, .bastore, 1)) (hp : pc + 1 = pc') (ha : LAY a = 23) (hn : LEN a = n) (hx : ST a nx) (hi : vp_in i n) {j : Nat} (hj : i.toNatClampNeg = j) (kk : V G Y pc' ls st (up2 I a j (x &&& 1), L, R, nx) c0 s0 Q QX) : V G Y pc ls (.int x :: .int i :: .ref a :: st) (I, L, R, nx) c0 s0 Q QX := by
  subst hj
  subst hp
  subst hn
  intro p e s m args below meth c C H locs arr hH hS hl hz
  show W _ _ _ _ _ _ _ _ _ _ _ _ _ _ _ (F0 m pc arr (.int x :: .int i :: cv G (.ref a) :: st.map (cv G)))
  rw [cv_ref hH hx]
  have hset : ∀ d, d = dta G (up2 I a i.toNatClampNeg (x &&& 1), L, R, nx) a 3 → (wl G (I, L, R, nx)).set (PO a) (g0 G + PO a, .inl (gA G 3, LEN a, d)) = wl G (up2 I a i.toNatClampNeg (x &&& 1), L, R, nx) := by
    intro d hd9
    rw [hd9, ← cel_arr ha]
    exact wl_set G rfl (fun b hb => cel_same (up2_row hb) rfl rfl)
  refine va_zast (cxx C) (cxb C) (cxk C).1 hH.1 (wl_D G _) hS (PO a) 3 (wl_arr hx (t := 3) ha) (tys_get G (by decide)) hi (cxd C hd) (fun H1 locs1 hP hD hS1 => ?_)
  rw [hset _ (by simp only [dta, up2_self]; rfl)] at hP
  exact kk p e s m args below meth c C H1 locs1 arr ⟨hP, hH.2⟩ hS1 hl hz

theorem v_iald7 (k : Nat) {i : Int32} {a n : Nat} (hd : (yP Y)[k]? = some (pc, .iaload, 1)) (hp : pc + 1 = pc') (ha : LAY a = 27) (hn : LEN a = n) (hx : ST a nx) (hi : vp_in i n) {j : Nat} (hj : i.toNatClampNeg = j) (kk : V G Y pc' ls (.int (I a j) :: st) (I, L, R, nx) c0 s0 Q QX) : V G Y pc ls (.int i :: .ref a :: st) (I, L, R, nx) c0 s0 Q QX := by
  subst hj
  subst hp
  subst hn
  intro p e s m args below meth c C H locs arr hH hS hl hz
  show W _ _ _ _ _ _ _ _ _ _ _ _ _ _ _ (F0 m pc arr (.int i :: cv G (.ref a) :: st.map (cv G)))
  rw [cv_ref hH hx]
  exact va_iald (cxx C) (cxb C) (cxk C).1 hH.1 (PO a) 7 (wl_arr hx (t := 7) ha) (tys_get G (by decide)) hi (cxd C hd) (kk p e s m args below meth c C H locs arr hH hS hl hz)
theorem v_iast7 (k : Nat) {i : Int32} {x : Int32} {a n : Nat} (hd : (yP Y)[k]? = some (pc, .iastore, 1)) (hp : pc + 1 = pc') (ha : LAY a = 27) (hn : LEN a = n) (hx : ST a nx) (hi : vp_in i n) {j : Nat} (hj : i.toNatClampNeg = j) (kk : V G Y pc' ls st (up2 I a j x, L, R, nx) c0 s0 Q QX) : V G Y pc ls (.int x :: .int i :: .ref a :: st) (I, L, R, nx) c0 s0 Q QX := by
  subst hj
  subst hp
  subst hn
  intro p e s m args below meth c C H locs arr hH hS hl hz
  show W _ _ _ _ _ _ _ _ _ _ _ _ _ _ _ (F0 m pc arr (.int x :: .int i :: cv G (.ref a) :: st.map (cv G)))
  rw [cv_ref hH hx]
  have hset : ∀ d, d = dta G (up2 I a i.toNatClampNeg x, L, R, nx) a 7 → (wl G (I, L, R, nx)).set (PO a) (g0 G + PO a, .inl (gA G 7, LEN a, d)) = wl G (up2 I a i.toNatClampNeg x, L, R, nx) := by
    intro d hd9
    rw [hd9, ← cel_arr ha]
    exact wl_set G rfl (fun b hb => cel_same (up2_row hb) rfl rfl)
  refine va_iast (cxx C) (cxb C) (cxk C).1 hH.1 (wl_D G _) hS (PO a) 7 (wl_arr hx (t := 7) ha) (tys_get G (by decide)) hi (cxd C hd) (fun H1 locs1 hP hD hS1 => ?_)
  rw [hset _ (by simp only [dta, up2_self]; rfl)] at hP
  exact kk p e s m args below meth c C H1 locs1 arr ⟨hP, hH.2⟩ hS1 hl hz
end VA
