/-! THE REGION WORLD: ids 0 .. NC-1 are the cells that the law makes, in the order in which they are made; a world is what they hold -/
def NC : Nat := 457
def clz : List vw_C := [(RX0, TX0, 7), (RX2, TX2, 9), (RX3, TX3, 8), (RX4, TX4, 5), (RX5, TX5, 7), (RX6, TX6, 9), (RX7, TX7, 8), (RX8, TX8, 10), (RXL, TXL, 7)]
/-- the fields' kinds: 0 int, 1 long, 2 boolean, 3 a reference -/
def ftab : List (List Nat) := [[3, 3, 3, 3, 3, 3, 3], [3, 3, 3, 3, 0, 0, 0, 0, 0], [0, 0, 0, 0, 0, 2, 0, 0], [3, 3, 2, 0, 0], [3, 3, 3, 0, 0, 0, 0], [3, 3, 3, 3, 3, 3, 3, 0, 0], [3, 0, 0, 0, 0, 0, 0, 0], [3, 3, 3, 3, 3, 3, 3, 0, 0, 0], [3, 0, 0, 0, 0, 0, 0]]
def FTY (c j : Nat) : Nat := (ftab.getD c []).getD j 0
def NF (c : Nat) : Nat := (ftab.getD c []).length
/-- the cells' kinds: below 20 a class of clz; 20 int[], 21 long[], 22 byte[], 23 boolean[], 24 State[], 25 Dispute[], 26 int[][]; with the length -/
def stLay : List (Nat × Nat) := [(5, 9), (26, 3), (20, 16), (20, 16), (20, 16), (21, 4), (21, 16), (21, 16), (21, 16), (20, 3), (25, 20)] ++ List.replicate 20 (2, 8)
def bnLay : List (Nat × Nat) := [(0, 7), (1, 9), (20, 16), (20, 16), (20, 16), (20, 16)] ++ stLay ++ [(21, 16), (21, 16), (21, 16), (21, 16), (20, 16)]
def lay : List (Nat × Nat) := [(7, 10), (3, 5), (24, 10)] ++ stLay ++ (List.replicate 10 stLay).flatten ++ [(6, 8), (22, 0), (4, 7), (23, 6), (20, 6), (20, 6), (22, 600), (22, 61)] ++ bnLay ++ bnLay ++
  [(8, 7), (20, 600)] ++ List.replicate 19 (27, 5)
theorem lay_len : lay.length = 457 := by decide +kernel
def LAY (k : Nat) : Nat := (lay.getD k (99, 0)).1
def LEN (k : Nat) : Nat := (lay.getD k (99, 0)).2
/-- launch, class numbers, slots, array classes, first address, outer addresses, script: address, length, ints -/
abbrev GT : Type := Launch × (Nat → ClassId) × (Nat → Nat → Nat) × (Nat → ClassId) × Nat × (Nat → Nat) × Nat × Nat × (Nat → Int32)
def gl (G : GT) : Launch := G.1
def gC (G : GT) : Nat → ClassId := G.2.1
def gI (G : GT) : Nat → Nat → Nat := G.2.2.1
def gA (G : GT) : Nat → ClassId := G.2.2.2.1
def g0 (G : GT) : Nat := G.2.2.2.2.1
def gs (G : GT) : Nat → Nat := G.2.2.2.2.2.1
def gb (G : GT) : Nat := G.2.2.2.2.2.2.1
def gL (G : GT) : Nat := G.2.2.2.2.2.2.2.1
def gx (G : GT) : Nat → Int32 := G.2.2.2.2.2.2.2.2
/-- the law's two cells (436 itself, 437 its text) stand ahead of the class's 436; 438 .. 456 are the rows that it makes to feed them; place of an id, id of a place -/
def PO (k : Nat) : Nat := if k < 436 then k + 2 else if k < 438 then k - 436 else k
def ID (i : Nat) : Nat := if i < 2 then i + 436 else if i < 438 then i - 2 else i
theorem po_id (i : Nat) : PO (ID i) = i := by unfold PO ID; split <;> (try split) <;> (try split) <;> (try split) <;> omega
theorem id_po (k : Nat) : ID (PO k) = k := by unfold PO ID; split <;> (try split) <;> (try split) <;> (try split) <;> omega
/-- how many cells stand: nx + 2 as long as none is unknown; 457: the law's and the class's, and what else there may be isn't known -/
def sc (n : Nat) : Nat := if n < 457 then n + 2 else 438
def ST (k n : Nat) : Prop := PO k < sc n
def NK (n : Nat) : Prop := n ≤ 455 ∨ n = 457
theorem st_r {k n : Nat} (h : ST k n) (hn : NK n) : k < 457 := by
  unfold NK at hn
  unfold ST PO sc at h
  split at h <;> split at h <;> (try split at h) <;> omega
theorem st_c {k n : Nat} (h : k < n) (hn : n ≤ 436) : ST k n := by
  unfold ST PO sc
  rw [if_pos (by omega), if_pos (by omega)]
  omega
theorem st_a {k : Nat} (h : k < 438) : ST k 457 := by
  unfold ST PO sc
  split <;> (try split) <;> (try split) <;> omega
/-- the address of an id: of the region; 457 the script; 458 + i, 558 + i text i and its bytes -/
def AD (G : GT) (k : Nat) : Nat := if k < 457 then g0 G + PO k else if k = 457 then gb G else gs G (k - 458)
def cv (G : GT) : Value → Value
  | .ref k => .ref (AD G k)
  | v => v
def AA (G : GT) : Nat → Prop := fun q => g0 G ≤ q
/-- what the region holds: ints, longs, references; how many cells stand -/
abbrev MU : Type := (Nat → Nat → Int32) × (Nat → Nat → Int64) × (Nat → Nat → Option Nat) × Nat
def fvl (G : GT) (u : MU) (k j : Nat) (t : Nat) : Value := match t with
  | 0 => .int (u.1 k j)
  | 1 => .long (u.2.1 k j)
  | 2 => .int (u.1 k j)
  | _ => va_rf ((u.2.2.1 k j).map (AD G))
def dta (G : GT) (u : MU) (k : Nat) (t : Nat) : (Nat → Int32) ⊕ (Nat → Int64) ⊕ (Nat → UInt32) ⊕ (Nat → UInt64) ⊕ (Nat → Option Nat) := match t with
  | 0 => .inl (u.1 k)
  | 1 => .inr (.inl (u.2.1 k))
  | 2 => .inl (u.1 k)
  | 3 => .inl (u.1 k)
  | 7 => .inl (u.1 k)
  | _ => .inr (.inr (.inr (.inr (fun j => (u.2.2.1 k j).map (AD G)))))
def fsl (G : GT) (u : MU) (k c : Nat) : List Value := (List.range (NF c)).map (fun j => fvl G u k j (FTY c j))
def cel (G : GT) (u : MU) (k : Nat) : va_E := if LAY k < 20 then .inr (LAY k, fsl G u k (LAY k)) else .inl (gA G (LAY k - 20), LEN k, dta G u k (LAY k - 20))
def wl (G : GT) (u : MU) : va_W := (List.range (sc u.2.2.2)).map (fun i => (g0 G + i, cel G u (ID i)))
def aty : Nat → FieldType
  | 0 => .int
  | 1 => .long
  | 2 => .byte
  | 3 => .boolean
  | 4 => .object "GlitchCourt$State"
  | 5 => .object "GlitchCourt$Dispute"
  | 7 => .int
  | _ => .array .int
def tysG (G : GT) : List (ClassId × FieldType) := (List.range 8).map (fun t => (gA G t, aty t))
theorem AD_in (G : GT) {k : Nat} (h : k < 457) : AD G k = g0 G + PO k := by simp [AD, h]
theorem wl_len (G : GT) (u : MU) : (wl G u).length = sc u.2.2.2 := by simp [wl]
theorem wl_at (G : GT) (u : MU) {i : Nat} (h : i < sc u.2.2.2) : (wl G u)[i]? = some (g0 G + i, cel G u (ID i)) := by
  simp [wl, List.getElem?_map, List.getElem?_range h]
theorem wl_get (G : GT) (u : MU) {k : Nat} (h : ST k u.2.2.2) : (wl G u)[PO k]? = some (g0 G + PO k, cel G u k) := by
  rw [wl_at G u h, id_po]
theorem wl_getI {G : GT} {u : MU} {k : Nat} {q : Nat × va_E} (h : (wl G u)[k]? = some q) : k < sc u.2.2.2 ∧ q = (g0 G + k, cel G u (ID k)) := by
  have hk : k < (wl G u).length := (List.getElem?_eq_some_iff.mp h).1
  rw [wl_len] at hk
  rw [wl_at G u hk] at h
  exact ⟨hk, (Option.some.inj h).symm⟩
theorem wl_D (G : GT) (u : MU) : va_D (AA G) (wl G u) := by
  refine ⟨fun i j p q hi hj e => ?_, fun k q hk => ?_⟩
  · obtain ⟨-, rfl⟩ := wl_getI hi
    obtain ⟨-, rfl⟩ := wl_getI hj
    exact Nat.add_left_cancel e
  · obtain ⟨-, rfl⟩ := wl_getI hk
    exact Nat.le_add_right _ _
theorem wl_set (G : GT) {u u' : MU} {k : Nat} (hn : u'.2.2.2 = u.2.2.2) (ho : ∀ j, j ≠ k → cel G u' j = cel G u j) : (wl G u).set (PO k) (g0 G + PO k, cel G u' k) = wl G u' := by
  apply List.ext_getElem?
  intro i
  by_cases hi : i < sc u.2.2.2
  · rw [wl_at G u' (by rw [hn]; exact hi)]
    by_cases e : i = PO k
    · subst e
      rw [List.getElem?_set_self (by rw [wl_len]; exact hi), id_po]
    · rw [List.getElem?_set_ne (fun h => e h.symm), wl_at G u hi, ho (ID i) (fun z => e (by rw [← z, po_id]))]
  · rw [List.getElem?_eq_none (by rw [List.length_set, wl_len]; omega), List.getElem?_eq_none (by rw [wl_len, hn]; omega)]
theorem cel_obj {G : GT} {u : MU} {k c : Nat} (h : LAY k = c) (hc : c < 20) : cel G u k = .inr (c, fsl G u k c) := by
  subst h; simp [cel, hc]
theorem cel_arr {G : GT} {u : MU} {k t : Nat} (h : LAY k = 20 + t) : cel G u k = .inl (gA G t, LEN k, dta G u k t) := by
  have h1 : ¬ LAY k < 20 := by omega
  simp [cel, h1, h]
theorem fsl_get {G : GT} {u : MU} {k c j : Nat} (hj : j < NF c) : (fsl G u k c)[j]? = some (fvl G u k j (FTY c j)) := by
  simp [fsl, List.getElem?_map, List.getElem?_range hj]
theorem fsl_len {G : GT} {u : MU} {k c : Nat} : (fsl G u k c).length = NF c := by simp [fsl]
/-- one place changed -/
def up2 {α : Type} (f : Nat → Nat → α) (k j : Nat) (x : α) : Nat → Nat → α := fun a i => if a = k ∧ i = j then x else f a i
theorem up2_s {α : Type} {f : Nat → Nat → α} {k j : Nat} {x : α} : up2 f k j x k j = x := by simp [up2]
theorem up2_n {α : Type} {f : Nat → Nat → α} {k j a i : Nat} {x : α} (h : a ≠ k ∨ i ≠ j) : up2 f k j x a i = f a i := by
  unfold up2
  rw [if_neg]
  rintro ⟨h1, h2⟩
  rcases h with h | h
  · exact h h1
  · exact h h2
theorem fsl_set {G : GT} {u u' : MU} {k c j : Nat} {v : Value} (hv : fvl G u' k j (FTY c j) = v) (ho : ∀ i, i ≠ j → fvl G u' k i (FTY c i) = fvl G u k i (FTY c i)) : (fsl G u k c).set j v = fsl G u' k c := by
  apply List.ext_getElem?
  intro i
  by_cases hi : i < NF c
  · rw [fsl_get hi]
    by_cases e : i = j
    · subst e
      rw [List.getElem?_set_self (by rw [fsl_len]; exact hi), hv]
    · rw [List.getElem?_set_ne (fun h => e h.symm), fsl_get hi, ho i e]
  · rw [List.getElem?_eq_none (by rw [List.length_set, fsl_len]; omega), List.getElem?_eq_none (by rw [fsl_len]; omega)]
theorem cel_same {G : GT} {u u' : MU} {k : Nat} (h1 : u'.1 k = u.1 k) (h2 : u'.2.1 k = u.2.1 k) (h3 : u'.2.2.1 k = u.2.2.1 k) : cel G u' k = cel G u k := by
  have e : ∀ j t, fvl G u' k j t = fvl G u k j t := by
    intro j t
    unfold fvl
    rw [h1, h2, h3]
  have e2 : ∀ t, dta G u' k t = dta G u k t := by
    intro t
    unfold dta
    rw [h1, h2, h3]
  unfold cel fsl
  simp only [e, e2]
/-! words -/
def GW : List Cond := lw_tbl.filter goodWord
theorem gw_in {w : Cond} (k : Nat) (h : lw_tbl[k]? = some w) (hg : goodWord w = true) : w ∈ GW := List.mem_filter.mpr ⟨List.mem_of_getElem? h, hg⟩
theorem gw_good {w : Cond} (h : w ∈ GW) : goodWord w = true := (List.mem_filter.mp h).2
theorem gw_goodIn {ws : List Cond} (h : ∀ w ∈ ws, w ∈ GW) : GoodIn GW ws := fun w hw => ⟨h w hw, good_of_word (gw_good (h w hw))⟩
