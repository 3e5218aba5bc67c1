section VM
variable {G : GT} {Y Y2 : MT} {pc pc' : Nat} {ls ls' : List (Nat × Value)} {st : List Value} {u : MU} {c0 s0 : Nat} {Q Q1 : Option Value → MU → Prop} {QX QX1 : String → MU → Prop}
variable {I : Nat → Nat → Int32} {L : Nat → Nat → Int64} {R : Nat → Nat → Option Nat} {nx : Nat}
/-! throw new E("text") -/
def throwW (own : String) (ic : Nat) (E : String) : List Cond := vx_atS own ic E ["java/lang/RuntimeException", "java/lang/Exception"]
def TF (own : String) (ik ic : Nat) (E : String) : Prop := Cond.classLink own ik E ∈ GW ∧ Cond.initialized E ∈ GW ∧ Bundle.fit E = true ∧ (∀ w ∈ throwW own ic E, w ∈ GW ∨ w ∈ csts.map (fun q => Cond.castable q.1 q.2) ∨ w ∈ dcls.map Cond.declares) ∧ (∀ w ∈ Cond.classLink own ik E :: Cond.initialized E :: throwW own ic E, vx_ot w = true)
theorem tf_words {p : Program} {s : State} {m : MethodId} {args : Array Value} {meth : Method} {c : Code} (C : CX G Y p s m args meth c) {own E : String} {ik ic : Nat} (h : TF own ik ic E) : ∀ w ∈ throwW own ic E, w.before args s = true := by
  intro w hw
  rcases h.2.2.2.1 w hw with h1 | h1 | h1
  · exact cxw C w h1
  · obtain ⟨q, hq, rfl⟩ := List.mem_map.mp h1
    exact va_Nw.use rfl ((cxk C).2.2.1 q hq)
  · obtain ⟨q, hq, rfl⟩ := List.mem_map.mp h1
    exact va_Nw.use rfl ((cxk C).2.2.2.1 q hq)
theorem names_fit : ∀ n ∈ ["java/lang/RuntimeException", "java/lang/Exception"], Bundle.fit n = true := by decide +kernel
theorem HS.grow {H H1 : Heap} (h : HS G u H) (hq : ∀ q : Nat, q < H.size → H1[q]? = H[q]?) : HS G u H1 := ⟨h.1.kept (fun k x hx => hq x.1 ((h.1 k x hx).lt)), h.2⟩
theorem v_throw (k0 k3 k4 k6 k9 : Nat) {ik is ic pl : Nat} {E tx : String} (hd0 : (yP Y)[k0]? = some (pc, .new ik, 3)) (hd3 : (yP Y)[k3]? = some (pc + 3, .dup, 1)) (hd4 : (yP Y)[k4]? = some (pc + 4, .ldc is, 2)) (hd6 : (yP Y)[k6]? = some (pc + 6, .invokespecial ic, 3)) (hd9 : (yP Y)[k9]? = some (pc + 9, .athrow, 1))
    (hT : TF (yN Y).cls ik ic E) (hs : ((yN Y).cls, is, tx, pl) ∈ strs) (h0 : yH Y = []) (hf : 5 < (yR Y).frames) (hlo : (st.map fun v => v.category).sum + 82 ≤ (yR Y).locals) (hc : c0 + 1 ≤ (yR Y).cells) (hs6 : s0 + 6 ≤ (yR Y).slots) (hq : QX E u) : V G Y pc ls st u c0 s0 Q QX := by
  intro p e s m args below meth c C H locs arr hH hS hl hz
  have hK := cxk C
  refine vx_throwS (text := tx) (sa := gs G pl) (names := ["java/lang/RuntimeException", "java/lang/Exception"]) (A := AA G) (cxx C) (cxb C) hK.2.2.2.2.2.2.2.2.2 (cxo C) hT.2.2.1 names_fit (cxw C _ hT.1) (cxw C _ hT.2.1) (hK.2.2.2.2.2.2.2.1 _ hs) (tf_words C hT) hT.2.2.2.2 (cxs C).2.2.1 (cxs C).2.2.2.1 hS (by rw [cxm C]; exact hl.1) (cxd C hd0) (cxd C hd3) (cxd C hd4) (cxd C hd6) (cxd C hd9) ?_ hf ?_ hc hs6 (cxl C) ?_ hS.2.2 hc hs6
  · intro x hx
    rw [cxt C, h0] at hx
    exact absurd hx List.not_mem_nil
  · rw [List.map_map]
    have e9 : ((fun v : Value => v.category) ∘ cv G) = fun v => v.category := funext fun v => cv_cat G v
    rw [e9]
    exact hlo
  · intro t hal hle hq9
    exact ⟨u, hq, hH.grow hq9, Nat.le_trans hS.1 hle, fun q h1 h2 => (hq9 q (Nat.lt_of_lt_of_le h1 hS.1)).trans (hS.2.1 q h1 h2)⟩
theorem v_throwW (k0 k3 k4 k7 k10 : Nat) {ik is ic pl : Nat} {E tx : String} (hd0 : (yP Y)[k0]? = some (pc, .new ik, 3)) (hd3 : (yP Y)[k3]? = some (pc + 3, .dup, 1)) (hd4 : (yP Y)[k4]? = some (pc + 4, .ldc_w is, 3)) (hd7 : (yP Y)[k7]? = some (pc + 7, .invokespecial ic, 3)) (hd10 : (yP Y)[k10]? = some (pc + 10, .athrow, 1))
    (hT : TF (yN Y).cls ik ic E) (hs : ((yN Y).cls, is, tx, pl) ∈ strs) (h0 : yH Y = []) (hf : 5 < (yR Y).frames) (hlo : (st.map fun v => v.category).sum + 82 ≤ (yR Y).locals) (hc : c0 + 1 ≤ (yR Y).cells) (hs6 : s0 + 6 ≤ (yR Y).slots) (hq : QX E u) : V G Y pc ls st u c0 s0 Q QX := by
  intro p e s m args below meth c C H locs arr hH hS hl hz
  have hK := cxk C
  refine vx_throwSW (text := tx) (sa := gs G pl) (names := ["java/lang/RuntimeException", "java/lang/Exception"]) (A := AA G) (cxx C) (cxb C) hK.2.2.2.2.2.2.2.2.2 (cxo C) hT.2.2.1 names_fit (cxw C _ hT.1) (cxw C _ hT.2.1) (hK.2.2.2.2.2.2.2.1 _ hs) (tf_words C hT) hT.2.2.2.2 (cxs C).2.2.1 (cxs C).2.2.2.1 hS (by rw [cxm C]; exact hl.1) (cxd C hd0) (cxd C hd3) (cxd C hd4) (cxd C hd7) (cxd C hd10) ?_ hf ?_ hc hs6 (cxl C) ?_ hS.2.2 hc hs6
  · intro x hx
    rw [cxt C, h0] at hx
    exact absurd hx List.not_mem_nil
  · rw [List.map_map]
    have e9 : ((fun v : Value => v.category) ∘ cv G) = fun v => v.category := funext fun v => cv_cat G v
    rw [e9]
    exact hlo
  · intro t hal hle hq9
    exact ⟨u, hq, hH.grow hq9, Nat.le_trans hS.1 hle, fun q h1 h2 => (hq9 q (Nat.lt_of_lt_of_le h1 hS.1)).trans (hS.2.1 q h1 h2)⟩
def throwX (own : String) (ic : Nat) : List Cond := tx_at own ic "java/util/NoSuchElementException" 13 prog_29_method_4_code ["java/lang/RuntimeException", "java/lang/Exception"]
def TFX (own : String) (ik ic : Nat) : Prop := Cond.classLink own ik "java/util/NoSuchElementException" ∈ GW ∧ Cond.initialized "java/util/NoSuchElementException" ∈ GW ∧ (∀ w ∈ throwX own ic, w ∈ GW ∨ w ∈ csts.map (fun q => Cond.castable q.1 q.2) ∨ w ∈ dcls.map Cond.declares) ∧ (∀ w ∈ Cond.classLink own ik "java/util/NoSuchElementException" :: Cond.initialized "java/util/NoSuchElementException" :: throwX own ic, vx_ot w = true)
theorem nse_fit : Bundle.fit "java/util/NoSuchElementException" = true := by decide +kernel
theorem nse_0 : decode prog_29_method_4_code 0 = .ok (.aload_n 0, 1) := by decide +kernel
theorem nse_1 : decode prog_29_method_4_code 1 = .ok (.aload_n 1, 1) := by decide +kernel
theorem nse_2 : decode prog_29_method_4_code 2 = .ok (.invokespecial 13, 3) := by decide +kernel
theorem nse_5 : decode prog_29_method_4_code 5 = .ok (.return_, 1) := by decide +kernel
theorem v_throwX (k0 k3 k4 k7 k10 : Nat) {ik is ic pl w : Nat} {tx : String} (hd0 : (yP Y)[k0]? = some (pc, .new ik, 3)) (hd3 : (yP Y)[k3]? = some (pc + 3, .dup, 1)) (hd4 : ((yP Y)[k4]? = some (pc + 4, .ldc is, 2) ∧ w = 6) ∨ ((yP Y)[k4]? = some (pc + 4, .ldc_w is, 3) ∧ w = 7)) (hd7 : (yP Y)[k7]? = some (pc + w, .invokespecial ic, 3)) (hd10 : (yP Y)[k10]? = some (pc + w + 3, .athrow, 1))
    (hT : TFX (yN Y).cls ik ic) (hs : ((yN Y).cls, is, tx, pl) ∈ strs) (h0 : yH Y = []) (hf : 5 < (yR Y).frames) (hlo : (st.map fun v => v.category).sum + 82 ≤ (yR Y).locals) (hc : c0 + 1 ≤ (yR Y).cells) (hs6 : s0 + 6 ≤ (yR Y).slots) (hq : QX "java/util/NoSuchElementException" u) : V G Y pc ls st u c0 s0 Q QX := by
  intro p e s m args below meth c C H locs arr hH hS hl hz
  have hK := cxk C
  have hat : ∀ w ∈ throwX (yN Y).cls ic, w.before args s = true := by
    intro w9 hw
    rcases hT.2.2.1 w9 hw with h1 | h1 | h1
    · exact cxw C w9 h1
    · obtain ⟨q, hq, rfl⟩ := List.mem_map.mp h1
      exact va_Nw.use rfl ((cxk C).2.2.1 q hq)
    · obtain ⟨q, hq, rfl⟩ := List.mem_map.mp h1
      exact va_Nw.use rfl ((cxk C).2.2.2.1 q hq)
  refine tx_throw (text := tx) (sa := gs G pl) (names := ["java/lang/RuntimeException", "java/lang/Exception"]) (A := AA G) (w := w) (cxx C) (cxb C) hK.2.2.2.2.2.2.2.2.2 nse_0 nse_1 nse_2 nse_5 (cxo C) nse_fit names_fit (cxw C _ hT.1) (cxw C _ hT.2.1) (hK.2.2.2.2.2.2.2.1 _ hs) hat hT.2.2.2 (cxs C).2.2.1 (cxs C).2.2.2.1 hS (by rw [cxm C]; exact hl.1) (cxd C hd0) (cxd C hd3) (hd4.imp (fun q => ⟨cxd C q.1, q.2⟩) (fun q => ⟨cxd C q.1, q.2⟩)) (cxd C hd7) (cxd C hd10) ?_ hf ?_ hc hs6 (cxl C) ?_ hS.2.2 hc hs6
  · intro x hx
    rw [cxt C, h0] at hx
    exact absurd hx List.not_mem_nil
  · rw [List.map_map]
    have e9 : ((fun v : Value => v.category) ∘ cv G) = fun v => v.category := funext fun v => cv_cat G v
    rw [e9]
    exact hlo
  · intro t hal hle hq9
    exact ⟨u, hq, hH.grow hq9, Nat.le_trans hS.1 hle, fun q h1 h2 => (hq9 q (Nat.lt_of_lt_of_le h1 hS.1)).trans (hS.2.1 q h1 h2)⟩
/-! a text constant; its id is 458 + its place -/
theorem v_ldcS (k : Nat) {is pl : Nat} {tx : String} (hd : (yP Y)[k]? = some (pc, .ldc is, 2)) (hp : pc + 2 = pc') (hs : ((yN Y).cls, is, tx, pl) ∈ strs) (kk : V G Y pc' ls (.ref (458 + pl) :: st) u c0 s0 Q QX) : V G Y pc ls st u c0 s0 Q QX := by
  subst hp
  intro p e s m args below meth c C H locs arr hH hS hl hz
  have k2 := kk p e s m args below meth c C H locs arr hH hS hl hz
  have hcv : cv G (.ref (458 + pl)) = .ref (gs G pl) := by
    simp only [cv, AD]
    rw [if_neg (by omega), if_neg (by omega), Nat.add_sub_cancel_left]
  rw [List.map_cons, hcv] at k2
  exact va_ldcS (cxx C) (cxb C) (cxo C) ((cxk C).2.2.2.2.2.2.2.1 _ hs) (cxd C hd) k2
/-! System.arraycopy -/
def cpy {α : Type} (f : Nat → Nat → α) (a b sp dp n : Nat) : Nat → Nat → α := fun k j => if k = b then (if dp ≤ j ∧ j < dp + n then f a (sp + (j - dp)) else f b j) else f k j
theorem cpy_row {α : Type} {f : Nat → Nat → α} {a b sp dp n k : Nat} (h : k ≠ b) : cpy f a b sp dp n k = f k := by funext j; simp [cpy, h]
theorem cpy_own {α : Type} {f : Nat → Nat → α} {a b sp dp n : Nat} : cpy f a b sp dp n b = va_cpy (f a) (f b) sp dp n := by funext j; simp [cpy, va_cpy]
def CPF (own : String) (idx : Nat) : Prop := Cond.methodLink own idx arraycopyName ∈ GW ∧ Cond.native arraycopyName ∈ GW ∧ Cond.static arraycopyName ∈ GW ∧ Cond.initialized "java/lang/System" ∈ GW
theorem v_copyi (k : Nat) {idx a b n0 n1 : Nat} {sp dp n : Int32} (hd : (yP Y)[k]? = some (pc, .invokestatic idx, 3)) (hp : pc + 3 = pc') (hF : CPF (yN Y).cls idx) (ha : LAY a = 20) (hb : LAY b = 20) (hla : LEN a = n0) (hlb : LEN b = n1) (hxa : ST a nx) (hxb : ST b nx) (h1 : ¬ sp < 0) (h2 : ¬ dp < 0) (h3 : ¬ n < 0) (h4 : sp.toNatClampNeg + n.toNatClampNeg ≤ n0) (h5 : dp.toNatClampNeg + n.toNatClampNeg ≤ n1)
    (hf : 1 ≤ (yR Y).frames) (hlo : (st.map fun v => v.category).sum + (nativeFrameWords "java/lang/System" "arraycopy" 5 + 11) ≤ (yR Y).locals) (kk : V G Y pc' ls st (cpy I a b sp.toNatClampNeg dp.toNatClampNeg n.toNatClampNeg, L, R, nx) c0 s0 Q QX) : V G Y pc ls (.int n :: .int dp :: .ref b :: .int sp :: .ref a :: st) (I, L, R, nx) c0 s0 Q QX := by
  subst hp
  subst hla
  subst hlb
  intro p e s m args below meth c C H locs arr hH hS hl hz
  show W _ _ _ _ _ _ _ _ _ _ _ _ _ _ _ (F0 m pc arr (.int n :: .int dp :: cv G (.ref b) :: .int sp :: cv G (.ref a) :: st.map (cv G)))
  rw [cv_ref hH hxa, cv_ref hH hxb]
  have hset : (wl G (I, L, R, nx)).set (PO b) (g0 G + PO b, .inl (gA G 0, LEN b, .inl (va_cpy (I a) (I b) sp.toNatClampNeg dp.toNatClampNeg n.toNatClampNeg))) = wl G (cpy I a b sp.toNatClampNeg dp.toNatClampNeg n.toNatClampNeg, L, R, nx) := by
    have e9 : cel G (cpy I a b sp.toNatClampNeg dp.toNatClampNeg n.toNatClampNeg, L, R, nx) b = .inl (gA G 0, LEN b, .inl (va_cpy (I a) (I b) sp.toNatClampNeg dp.toNatClampNeg n.toNatClampNeg)) := by
      rw [cel_arr (t := 0) hb]
      simp only [dta, cpy_own]
    rw [← e9]
    exact wl_set G rfl (fun b9 hb9 => cel_same (cpy_row hb9) rfl rfl)
  refine va_copyi (cxx C) (cxb C) (by rw [cxm C]; exact hl.1.symm) (cxo C) (cxw C _ hF.1) (cxw C _ hF.2.1) (cxw C _ hF.2.2.1) (cxw C _ hF.2.2.2) (cxk C).1 hH.1 (wl_D G _) hS (PO a) (PO b) 0 0 (wl_arr hxa (t := 0) ha) (wl_arr hxb (t := 0) hb) (tys_get G (by decide)) (tys_get G (by decide)) rfl h1 h2 h3 h4 h5 (fun i hi => rfl) hf ?_ (cxd C hd) (fun H1 locs1 hP hD hS1 => ?_)
  · rw [List.map_map]
    have e9 : ((fun v : Value => v.category) ∘ cv G) = fun v => v.category := funext fun v => cv_cat G v
    rw [e9]
    exact hlo
  · have hP := (show va_P (gC G, gI G) clz ((wl G (I, L, R, nx)).set (PO b) (g0 G + PO b, .inl (gA G 0, LEN b, .inl (va_cpy (I a) (I b) sp.toNatClampNeg dp.toNatClampNeg n.toNatClampNeg)))) H1 from hP)
    rw [hset] at hP
    exact kk p e s m args below meth c C H1 locs1 arr ⟨hP, hH.2⟩ hS1 hl hz
theorem v_copyl (k : Nat) {idx a b n0 n1 : Nat} {sp dp n : Int32} (hd : (yP Y)[k]? = some (pc, .invokestatic idx, 3)) (hp : pc + 3 = pc') (hF : CPF (yN Y).cls idx) (ha : LAY a = 21) (hb : LAY b = 21) (hla : LEN a = n0) (hlb : LEN b = n1) (hxa : ST a nx) (hxb : ST b nx) (h1 : ¬ sp < 0) (h2 : ¬ dp < 0) (h3 : ¬ n < 0) (h4 : sp.toNatClampNeg + n.toNatClampNeg ≤ n0) (h5 : dp.toNatClampNeg + n.toNatClampNeg ≤ n1)
    (hf : 1 ≤ (yR Y).frames) (hlo : (st.map fun v => v.category).sum + (nativeFrameWords "java/lang/System" "arraycopy" 5 + 11) ≤ (yR Y).locals) (kk : V G Y pc' ls st (I, cpy L a b sp.toNatClampNeg dp.toNatClampNeg n.toNatClampNeg, R, nx) c0 s0 Q QX) : V G Y pc ls (.int n :: .int dp :: .ref b :: .int sp :: .ref a :: st) (I, L, R, nx) c0 s0 Q QX := by
  subst hp
  subst hla
  subst hlb
  intro p e s m args below meth c C H locs arr hH hS hl hz
  show W _ _ _ _ _ _ _ _ _ _ _ _ _ _ _ (F0 m pc arr (.int n :: .int dp :: cv G (.ref b) :: .int sp :: cv G (.ref a) :: st.map (cv G)))
  rw [cv_ref hH hxa, cv_ref hH hxb]
  have hset : (wl G (I, L, R, nx)).set (PO b) (g0 G + PO b, .inl (gA G 1, LEN b, .inr (.inl (va_cpy (L a) (L b) sp.toNatClampNeg dp.toNatClampNeg n.toNatClampNeg)))) = wl G (I, cpy L a b sp.toNatClampNeg dp.toNatClampNeg n.toNatClampNeg, R, nx) := by
    have e9 : cel G (I, cpy L a b sp.toNatClampNeg dp.toNatClampNeg n.toNatClampNeg, R, nx) b = .inl (gA G 1, LEN b, .inr (.inl (va_cpy (L a) (L b) sp.toNatClampNeg dp.toNatClampNeg n.toNatClampNeg))) := by
      rw [cel_arr (t := 1) hb]
      simp only [dta, cpy_own]
    rw [← e9]
    exact wl_set G rfl (fun b9 hb9 => cel_same rfl (cpy_row hb9) rfl)
  refine va_copyl (cxx C) (cxb C) (by rw [cxm C]; exact hl.1.symm) (cxo C) (cxw C _ hF.1) (cxw C _ hF.2.1) (cxw C _ hF.2.2.1) (cxw C _ hF.2.2.2) (cxk C).1 hH.1 (wl_D G _) hS (PO a) (PO b) 1 1 (wl_arr hxa (t := 1) ha) (wl_arr hxb (t := 1) hb) (tys_get G (by decide)) (tys_get G (by decide)) rfl h1 h2 h3 h4 h5 (fun i hi => rfl) hf ?_ (cxd C hd) (fun H1 locs1 hP hD hS1 => ?_)
  · rw [List.map_map]
    have e9 : ((fun v : Value => v.category) ∘ cv G) = fun v => v.category := funext fun v => cv_cat G v
    rw [e9]
    exact hlo
  · have hP := (show va_P (gC G, gI G) clz ((wl G (I, L, R, nx)).set (PO b) (g0 G + PO b, .inl (gA G 1, LEN b, .inr (.inl (va_cpy (L a) (L b) sp.toNatClampNeg dp.toNatClampNeg n.toNatClampNeg))))) H1 from hP)
    rw [hset] at hP
    exact kk p e s m args below meth c C H1 locs1 arr ⟨hP, hH.2⟩ hS1 hl hz
/-! array lengths -/
theorem v_alen (k : Nat) {a t n : Nat} (hd : (yP Y)[k]? = some (pc, .arraylength, 1)) (hp : pc + 1 = pc') (ha : LAY a = 20 + t) (ht : t < 8) (hn : LEN a = n) (hx : ST a u.2.2.2) (kk : V G Y pc' ls (.int (nI n) :: st) u c0 s0 Q QX) : V G Y pc ls (.ref a :: st) u c0 s0 Q QX := by
  subst hp
  subst hn
  intro p e s m args below meth c C H locs arr hH hS hl hz
  show W _ _ _ _ _ _ _ _ _ _ _ _ _ _ _ (F0 m pc arr (cv G (.ref a) :: st.map (cv G)))
  rw [cv_ref hH hx]
  exact va_alen (cxx C) (cxb C) (cxk C).1 hH.1 (PO a) t (wl_arr hx ha) (tys_get G ht) rfl (cxd C hd) (kk p e s m args below meth c C H locs arr hH hS hl hz)
/-! the script: id 457 -/
theorem AD_scr : AD G 457 = gb G := by simp [AD]
theorem v_slen (k : Nat) (hd : (yP Y)[k]? = some (pc, .arraylength, 1)) (hp : pc + 1 = pc') (kk : V G Y pc' ls (.int (nI (gL G)) :: st) u c0 s0 Q QX) : V G Y pc ls (.ref 457 :: st) u c0 s0 Q QX := by
  subst hp
  intro p e s m args below meth c C H locs arr hH hS hl hz
  show W _ _ _ _ _ _ _ _ _ _ _ _ _ _ _ (F0 m pc arr (.ref (AD G 457) :: st.map (cv G)))
  rw [AD_scr]
  have hX := cxs C
  exact va_slen (cxx C) (cxb C) hX.1 (Nat.lt_of_lt_of_le hX.2.1 (cxn C)) (Nat.not_le.mpr hX.2.1) hS (cxd C hd) (kk p e s m args below meth c C H locs arr hH hS hl hz)
theorem v_sld (k : Nat) {i : Int32} (hd : (yP Y)[k]? = some (pc, .iaload, 1)) (hp : pc + 1 = pc') (hi : vp_in i (gL G)) (kk : V G Y pc' ls (.int (gx G i.toNatClampNeg) :: st) u c0 s0 Q QX) : V G Y pc ls (.int i :: .ref 457 :: st) u c0 s0 Q QX := by
  subst hp
  intro p e s m args below meth c C H locs arr hH hS hl hz
  show W _ _ _ _ _ _ _ _ _ _ _ _ _ _ _ (F0 m pc arr (.int i :: .ref (AD G 457) :: st.map (cv G)))
  rw [AD_scr]
  have hX := cxs C
  exact va_sld (cxx C) (cxb C) hX.1 (Nat.lt_of_lt_of_le hX.2.1 (cxn C)) (Nat.not_le.mpr hX.2.1) hS hi (cxd C hd) (kk p e s m args below meth c C H locs arr hH hS hl hz)
end VM
