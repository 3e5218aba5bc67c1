section VT
variable {G : GT} {Y Y2 : MT} {pc pc' : Nat} {ls ls' : List (Nat × Value)} {st : List Value} {u : MU} {c0 s0 : Nat} {Q Q1 : Option Value → MU → Prop} {QX QX1 : String → MU → Prop}
theorem i32_of {x : Int32} {a : Int} (h : x.toInt = a) : x = Int32.ofInt a := by rw [← h]; exact (Int32.ofInt_toInt x).symm
theorem v_ts (k : Nat) {dflt lo hi : Int} {offs : Array Int} {len : Nat} {x clo chi : Int32} {dt : Nat} (n : Nat) (tg : List Nat) (hd : (yP Y)[k]? = some (pc, .tableswitch dflt lo hi offs, len)) (hn : lo + n = hi + 1) (hclo : clo.toInt = lo) (hchi : chi.toInt = hi)
    (ht : (List.range n).all (fun j => match offs[j]?, tg[j]? with | some o, some t => decide ((pc : Int) + o = (t : Int)) | _, _ => false) = true) (hdt : (pc : Int) + dflt = (dt : Int))
    (kin : ∀ j t : Nat, tg[j]? = some t → j < n → x = Int32.ofInt (lo + j) → V G Y t ls st u c0 s0 Q QX) (kout : (x < clo ∨ chi < x) → V G Y dt ls st u c0 s0 Q QX) : V G Y pc ls (.int x :: st) u c0 s0 Q QX := by
  by_cases h : x.toInt < lo ∨ hi < x.toInt
  · refine v_tsOut k hd h hdt (kout ?_)
    rcases h with h | h
    · exact Or.inl (Int32.lt_iff_toInt_lt.mpr (by rw [hclo]; exact h))
    · exact Or.inr (Int32.lt_iff_toInt_lt.mpr (by rw [hchi]; exact h))
  · have h1 : ¬ x.toInt < lo := fun q => h (Or.inl q)
    have h2 : ¬ hi < x.toInt := fun q => h (Or.inr q)
    have hj : (x.toInt - lo).toNat < n := by omega
    have h3 := List.all_eq_true.mp ht _ (List.mem_range.mpr hj)
    cases ho : offs[(x.toInt - lo).toNat]? with
    | none => simp [ho] at h3
    | some o =>
      cases hg : tg[(x.toInt - lo).toNat]? with
      | none => simp [ho, hg] at h3
      | some t =>
        simp only [ho, hg] at h3
        exact v_tsIn k hd h1 h2 ho (of_decide_eq_true h3) (kin _ t hg hj (i32_of (by omega)))
theorem v_lk2 (k : Nat) {dflt a1 a2 o1 o2 : Int} {len : Nat} {x c1 c2 : Int32} {dt t1 t2 : Nat} (hd : (yP Y)[k]? = some (pc, .lookupswitch dflt #[(a1, o1), (a2, o2)], len)) (hc1 : c1.toInt = a1) (hc2 : c2.toInt = a2) (hs : a1 < a2) (ht1 : (pc : Int) + o1 = (t1 : Int)) (ht2 : (pc : Int) + o2 = (t2 : Int)) (hdt : (pc : Int) + dflt = (dt : Int))
    (k1 : x = c1 → V G Y t1 ls st u c0 s0 Q QX) (k2 : x = c2 → V G Y t2 ls st u c0 s0 Q QX) (k3 : ¬ x = c1 → ¬ x = c2 → V G Y dt ls st u c0 s0 Q QX) : V G Y pc ls (.int x :: st) u c0 s0 Q QX := by
  intro p e s m args below meth c C H locs arr hH hS hl hz
  have hp : ((#[(a1, o1), (a2, o2)] : Array (Int × Int)).toList.zip ((#[(a1, o1), (a2, o2)] : Array (Int × Int)).toList.drop 1)).all (fun (a, next) => a.1 < next.1) = true := by simp [hs]
  by_cases h1 : x = c1
  · refine lv_lookup (cxx C) (cxb C) (cxd C hd) hp ?_ ht1 (k1 h1 p e s m args below meth c C H locs arr hH hS hl hz)
    rw [Op.lookupswitch.offset_cons, if_pos]
    rw [h1, hc1]
  · by_cases h2 : x = c2
    · refine lv_lookup (cxx C) (cxb C) (cxd C hd) hp ?_ ht2 (k2 h2 p e s m args below meth c C H locs arr hH hS hl hz)
      rw [lv_osw h1 hc1, Op.lookupswitch.offset_cons, if_pos]
      rw [h2, hc2]
    · refine lv_lookup (cxx C) (cxb C) (cxd C hd) hp ?_ hdt (k3 h1 h2 p e s m args below meth c C H locs arr hH hS hl hz)
      rw [lv_osw h1 hc1, lv_osw h2 hc2]
      rfl
theorem nm_int {P : Int32 → Prop} {e : Int32} (h : ∀ x, x = e → P x) : P e := h e rfl
end VT
/-! THE REGION: who stands where -/
def stL : List Nat := [3, 34, 65, 96, 127, 158, 189, 220, 251, 282, 313, 358, 400]
def bnOK (b : Nat) : Prop := b = 352 ∨ b = 394
def ckOK (c : Nat) : Prop := c = 353 ∨ c = 395
def stOK (a : Nat) : Prop := a ∈ stL
def txOK (t : Nat) : Prop := t = 345 ∨ t = 350
/-- the references that stand once all is made -/
def RS (k j : Nat) : Option Nat := match LAY k with
  | 0 => (match j with | 0 => some (k + 1) | 1 => some (k + 6) | 2 => some (k + 37) | 3 => some (k + 38) | 4 => some (k + 39) | 5 => some (k + 40) | 6 => some (k + 41) | _ => none)
  | 1 => if j < 4 then some (k + 1 + j) else none
  | 3 => (match j with | 0 => some 2 | 1 => some 3 | _ => none)
  | 4 => if j < 3 then some (347 + j) else none
  | 5 => (match j with | 0 => some (k + 1) | 1 => some (k + 5) | 2 => some (k + 6) | 3 => some (k + 7) | 4 => some (k + 8) | 5 => some (k + 9) | 6 => some (k + 10) | _ => none)
  | 8 => (match j with | 0 => some 437 | _ => none)
  | 24 => if j < 10 then some (34 + 31 * j) else none
  | 25 => if j < 20 then some (k + 1 + j) else none
  | 26 => if j < 3 then some (k + 1 + j) else none
  | _ => none
def RT (b d t : Nat) : Nat → Nat → Option Nat := fun k j => match k with
  | 0 => (match j with | 0 => some 1 | 1 => some 344 | 2 => some 346 | 3 => some 350 | 4 => some 351 | 5 => some b | 6 => some d | _ => none)
  | 344 => (match j with | 0 => some t | _ => none)
  | n => RS n j
theorem lay_457 {k c : Nat} (h : LAY k = c) (hc : c ≠ 99) : k < 457 := by
  rcases Nat.lt_or_ge k 457 with q | q
  · exact q
  · exfalso
    apply hc
    rw [← h]
    simp [LAY, List.getD_eq_getElem?_getD, List.getElem?_eq_none (show lay.length ≤ k by rw [lay_len]; exact q)]
theorem lay_w : ∀ k, k < 457 → 438 ≤ k → LAY k = 27 := by
  intro k h1 h2
  have h : ∀ j, j < 19 → LAY (438 + j) = 27 := by decide +kernel
  have := h (k - 438) (by omega)
  rwa [show 438 + (k - 438) = k by omega] at this
theorem lay_lt {k c : Nat} (h : LAY k = c) (hc : c ≠ 99 ∧ c ≠ 27) : ST k 457 := by
  refine st_a ?_
  have h1 := lay_457 h hc.1
  rcases Nat.lt_or_ge k 438 with q | q
  · exact q
  · exact absurd ((lay_w k h1 q).symm.trans h).symm hc.2
theorem lay_n {k c n : Nat} (h : LAY k = c) (hc : c ≠ 99 ∧ c ≠ 27) (hn : 436 ≤ n) : ST k n := by
  have h1 : PO k < 438 := lay_lt h hc
  show PO k < sc n
  unfold sc
  split <;> omega
def bnE : List Nat := [352, 394]
def ckE : List Nat := [353, 395]
def stE : List Nat := stL
def txE : List Nat := [345, 350]
theorem bn_mem {a : Nat} (h : bnOK a) : a ∈ bnE := by rcases h with rfl | rfl <;> decide
theorem ck_mem {a : Nat} (h : ckOK a) : a ∈ ckE := by rcases h with rfl | rfl <;> decide
theorem st_mem {a : Nat} (h : stOK a) : a ∈ stE := h
theorem tx_mem {a : Nat} (h : txOK a) : a ∈ txE := by rcases h with rfl | rfl <;> decide
theorem bn0l {a : Nat} (h : bnOK a) : LAY (a) = 0 := (show ∀ x ∈ bnE, LAY (x + 0) = 0 by decide +kernel) a (bn_mem h)
theorem bn0n {a : Nat} (h : bnOK a) : LEN (a) = 7 := (show ∀ x ∈ bnE, LEN (x + 0) = 7 by decide +kernel) a (bn_mem h)
theorem bn1l {a : Nat} (h : bnOK a) : LAY (a + 1) = 1 := (show ∀ x ∈ bnE, LAY (x + 1) = 1 by decide +kernel) a (bn_mem h)
theorem bn1n {a : Nat} (h : bnOK a) : LEN (a + 1) = 9 := (show ∀ x ∈ bnE, LEN (x + 1) = 9 by decide +kernel) a (bn_mem h)
theorem bn2l {a : Nat} (h : bnOK a) : LAY (a + 2) = 20 := (show ∀ x ∈ bnE, LAY (x + 2) = 20 by decide +kernel) a (bn_mem h)
theorem bn2n {a : Nat} (h : bnOK a) : LEN (a + 2) = 16 := (show ∀ x ∈ bnE, LEN (x + 2) = 16 by decide +kernel) a (bn_mem h)
theorem bn3l {a : Nat} (h : bnOK a) : LAY (a + 3) = 20 := (show ∀ x ∈ bnE, LAY (x + 3) = 20 by decide +kernel) a (bn_mem h)
theorem bn3n {a : Nat} (h : bnOK a) : LEN (a + 3) = 16 := (show ∀ x ∈ bnE, LEN (x + 3) = 16 by decide +kernel) a (bn_mem h)
theorem bn4l {a : Nat} (h : bnOK a) : LAY (a + 4) = 20 := (show ∀ x ∈ bnE, LAY (x + 4) = 20 by decide +kernel) a (bn_mem h)
theorem bn4n {a : Nat} (h : bnOK a) : LEN (a + 4) = 16 := (show ∀ x ∈ bnE, LEN (x + 4) = 16 by decide +kernel) a (bn_mem h)
theorem bn5l {a : Nat} (h : bnOK a) : LAY (a + 5) = 20 := (show ∀ x ∈ bnE, LAY (x + 5) = 20 by decide +kernel) a (bn_mem h)
theorem bn5n {a : Nat} (h : bnOK a) : LEN (a + 5) = 16 := (show ∀ x ∈ bnE, LEN (x + 5) = 16 by decide +kernel) a (bn_mem h)
theorem bn6l {a : Nat} (h : bnOK a) : LAY (a + 6) = 5 := (show ∀ x ∈ bnE, LAY (x + 6) = 5 by decide +kernel) a (bn_mem h)
theorem bn6n {a : Nat} (h : bnOK a) : LEN (a + 6) = 9 := (show ∀ x ∈ bnE, LEN (x + 6) = 9 by decide +kernel) a (bn_mem h)
theorem bn7l {a : Nat} (h : bnOK a) : LAY (a + 7) = 26 := (show ∀ x ∈ bnE, LAY (x + 7) = 26 by decide +kernel) a (bn_mem h)
theorem bn7n {a : Nat} (h : bnOK a) : LEN (a + 7) = 3 := (show ∀ x ∈ bnE, LEN (x + 7) = 3 by decide +kernel) a (bn_mem h)
theorem bn8l {a : Nat} (h : bnOK a) : LAY (a + 8) = 20 := (show ∀ x ∈ bnE, LAY (x + 8) = 20 by decide +kernel) a (bn_mem h)
theorem bn8n {a : Nat} (h : bnOK a) : LEN (a + 8) = 16 := (show ∀ x ∈ bnE, LEN (x + 8) = 16 by decide +kernel) a (bn_mem h)
theorem bn9l {a : Nat} (h : bnOK a) : LAY (a + 9) = 20 := (show ∀ x ∈ bnE, LAY (x + 9) = 20 by decide +kernel) a (bn_mem h)
theorem bn9n {a : Nat} (h : bnOK a) : LEN (a + 9) = 16 := (show ∀ x ∈ bnE, LEN (x + 9) = 16 by decide +kernel) a (bn_mem h)
theorem bn10l {a : Nat} (h : bnOK a) : LAY (a + 10) = 20 := (show ∀ x ∈ bnE, LAY (x + 10) = 20 by decide +kernel) a (bn_mem h)
theorem bn10n {a : Nat} (h : bnOK a) : LEN (a + 10) = 16 := (show ∀ x ∈ bnE, LEN (x + 10) = 16 by decide +kernel) a (bn_mem h)
theorem bn11l {a : Nat} (h : bnOK a) : LAY (a + 11) = 21 := (show ∀ x ∈ bnE, LAY (x + 11) = 21 by decide +kernel) a (bn_mem h)
theorem bn11n {a : Nat} (h : bnOK a) : LEN (a + 11) = 4 := (show ∀ x ∈ bnE, LEN (x + 11) = 4 by decide +kernel) a (bn_mem h)
theorem bn12l {a : Nat} (h : bnOK a) : LAY (a + 12) = 21 := (show ∀ x ∈ bnE, LAY (x + 12) = 21 by decide +kernel) a (bn_mem h)
theorem bn12n {a : Nat} (h : bnOK a) : LEN (a + 12) = 16 := (show ∀ x ∈ bnE, LEN (x + 12) = 16 by decide +kernel) a (bn_mem h)
theorem bn13l {a : Nat} (h : bnOK a) : LAY (a + 13) = 21 := (show ∀ x ∈ bnE, LAY (x + 13) = 21 by decide +kernel) a (bn_mem h)
theorem bn13n {a : Nat} (h : bnOK a) : LEN (a + 13) = 16 := (show ∀ x ∈ bnE, LEN (x + 13) = 16 by decide +kernel) a (bn_mem h)
theorem bn14l {a : Nat} (h : bnOK a) : LAY (a + 14) = 21 := (show ∀ x ∈ bnE, LAY (x + 14) = 21 by decide +kernel) a (bn_mem h)
theorem bn14n {a : Nat} (h : bnOK a) : LEN (a + 14) = 16 := (show ∀ x ∈ bnE, LEN (x + 14) = 16 by decide +kernel) a (bn_mem h)
theorem bn15l {a : Nat} (h : bnOK a) : LAY (a + 15) = 20 := (show ∀ x ∈ bnE, LAY (x + 15) = 20 by decide +kernel) a (bn_mem h)
theorem bn15n {a : Nat} (h : bnOK a) : LEN (a + 15) = 3 := (show ∀ x ∈ bnE, LEN (x + 15) = 3 by decide +kernel) a (bn_mem h)
theorem bn16l {a : Nat} (h : bnOK a) : LAY (a + 16) = 25 := (show ∀ x ∈ bnE, LAY (x + 16) = 25 by decide +kernel) a (bn_mem h)
theorem bn16n {a : Nat} (h : bnOK a) : LEN (a + 16) = 20 := (show ∀ x ∈ bnE, LEN (x + 16) = 20 by decide +kernel) a (bn_mem h)
theorem bn37l {a : Nat} (h : bnOK a) : LAY (a + 37) = 21 := (show ∀ x ∈ bnE, LAY (x + 37) = 21 by decide +kernel) a (bn_mem h)
theorem bn37n {a : Nat} (h : bnOK a) : LEN (a + 37) = 16 := (show ∀ x ∈ bnE, LEN (x + 37) = 16 by decide +kernel) a (bn_mem h)
theorem bn38l {a : Nat} (h : bnOK a) : LAY (a + 38) = 21 := (show ∀ x ∈ bnE, LAY (x + 38) = 21 by decide +kernel) a (bn_mem h)
theorem bn38n {a : Nat} (h : bnOK a) : LEN (a + 38) = 16 := (show ∀ x ∈ bnE, LEN (x + 38) = 16 by decide +kernel) a (bn_mem h)
theorem bn39l {a : Nat} (h : bnOK a) : LAY (a + 39) = 21 := (show ∀ x ∈ bnE, LAY (x + 39) = 21 by decide +kernel) a (bn_mem h)
theorem bn39n {a : Nat} (h : bnOK a) : LEN (a + 39) = 16 := (show ∀ x ∈ bnE, LEN (x + 39) = 16 by decide +kernel) a (bn_mem h)
theorem bn40l {a : Nat} (h : bnOK a) : LAY (a + 40) = 21 := (show ∀ x ∈ bnE, LAY (x + 40) = 21 by decide +kernel) a (bn_mem h)
theorem bn40n {a : Nat} (h : bnOK a) : LEN (a + 40) = 16 := (show ∀ x ∈ bnE, LEN (x + 40) = 16 by decide +kernel) a (bn_mem h)
theorem bn41l {a : Nat} (h : bnOK a) : LAY (a + 41) = 20 := (show ∀ x ∈ bnE, LAY (x + 41) = 20 by decide +kernel) a (bn_mem h)
theorem bn41n {a : Nat} (h : bnOK a) : LEN (a + 41) = 16 := (show ∀ x ∈ bnE, LEN (x + 41) = 16 by decide +kernel) a (bn_mem h)
theorem ck0l {a : Nat} (h : ckOK a) : LAY (a) = 1 := (show ∀ x ∈ ckE, LAY (x + 0) = 1 by decide +kernel) a (ck_mem h)
theorem ck0n {a : Nat} (h : ckOK a) : LEN (a) = 9 := (show ∀ x ∈ ckE, LEN (x + 0) = 9 by decide +kernel) a (ck_mem h)
theorem ck1l {a : Nat} (h : ckOK a) : LAY (a + 1) = 20 := (show ∀ x ∈ ckE, LAY (x + 1) = 20 by decide +kernel) a (ck_mem h)
theorem ck1n {a : Nat} (h : ckOK a) : LEN (a + 1) = 16 := (show ∀ x ∈ ckE, LEN (x + 1) = 16 by decide +kernel) a (ck_mem h)
theorem ck2l {a : Nat} (h : ckOK a) : LAY (a + 2) = 20 := (show ∀ x ∈ ckE, LAY (x + 2) = 20 by decide +kernel) a (ck_mem h)
theorem ck2n {a : Nat} (h : ckOK a) : LEN (a + 2) = 16 := (show ∀ x ∈ ckE, LEN (x + 2) = 16 by decide +kernel) a (ck_mem h)
theorem ck3l {a : Nat} (h : ckOK a) : LAY (a + 3) = 20 := (show ∀ x ∈ ckE, LAY (x + 3) = 20 by decide +kernel) a (ck_mem h)
theorem ck3n {a : Nat} (h : ckOK a) : LEN (a + 3) = 16 := (show ∀ x ∈ ckE, LEN (x + 3) = 16 by decide +kernel) a (ck_mem h)
theorem ck4l {a : Nat} (h : ckOK a) : LAY (a + 4) = 20 := (show ∀ x ∈ ckE, LAY (x + 4) = 20 by decide +kernel) a (ck_mem h)
theorem ck4n {a : Nat} (h : ckOK a) : LEN (a + 4) = 16 := (show ∀ x ∈ ckE, LEN (x + 4) = 16 by decide +kernel) a (ck_mem h)
theorem st0l {a : Nat} (h : stOK a) : LAY (a) = 5 := (show ∀ x ∈ stE, LAY (x + 0) = 5 by decide +kernel) a (st_mem h)
theorem st0n {a : Nat} (h : stOK a) : LEN (a) = 9 := (show ∀ x ∈ stE, LEN (x + 0) = 9 by decide +kernel) a (st_mem h)
theorem st1l {a : Nat} (h : stOK a) : LAY (a + 1) = 26 := (show ∀ x ∈ stE, LAY (x + 1) = 26 by decide +kernel) a (st_mem h)
theorem st1n {a : Nat} (h : stOK a) : LEN (a + 1) = 3 := (show ∀ x ∈ stE, LEN (x + 1) = 3 by decide +kernel) a (st_mem h)
theorem st2l {a : Nat} (h : stOK a) : LAY (a + 2) = 20 := (show ∀ x ∈ stE, LAY (x + 2) = 20 by decide +kernel) a (st_mem h)
theorem st2n {a : Nat} (h : stOK a) : LEN (a + 2) = 16 := (show ∀ x ∈ stE, LEN (x + 2) = 16 by decide +kernel) a (st_mem h)
theorem st3l {a : Nat} (h : stOK a) : LAY (a + 3) = 20 := (show ∀ x ∈ stE, LAY (x + 3) = 20 by decide +kernel) a (st_mem h)
theorem st3n {a : Nat} (h : stOK a) : LEN (a + 3) = 16 := (show ∀ x ∈ stE, LEN (x + 3) = 16 by decide +kernel) a (st_mem h)
theorem st4l {a : Nat} (h : stOK a) : LAY (a + 4) = 20 := (show ∀ x ∈ stE, LAY (x + 4) = 20 by decide +kernel) a (st_mem h)
theorem st4n {a : Nat} (h : stOK a) : LEN (a + 4) = 16 := (show ∀ x ∈ stE, LEN (x + 4) = 16 by decide +kernel) a (st_mem h)
theorem st5l {a : Nat} (h : stOK a) : LAY (a + 5) = 21 := (show ∀ x ∈ stE, LAY (x + 5) = 21 by decide +kernel) a (st_mem h)
theorem st5n {a : Nat} (h : stOK a) : LEN (a + 5) = 4 := (show ∀ x ∈ stE, LEN (x + 5) = 4 by decide +kernel) a (st_mem h)
theorem st6l {a : Nat} (h : stOK a) : LAY (a + 6) = 21 := (show ∀ x ∈ stE, LAY (x + 6) = 21 by decide +kernel) a (st_mem h)
theorem st6n {a : Nat} (h : stOK a) : LEN (a + 6) = 16 := (show ∀ x ∈ stE, LEN (x + 6) = 16 by decide +kernel) a (st_mem h)
theorem st7l {a : Nat} (h : stOK a) : LAY (a + 7) = 21 := (show ∀ x ∈ stE, LAY (x + 7) = 21 by decide +kernel) a (st_mem h)
theorem st7n {a : Nat} (h : stOK a) : LEN (a + 7) = 16 := (show ∀ x ∈ stE, LEN (x + 7) = 16 by decide +kernel) a (st_mem h)
theorem st8l {a : Nat} (h : stOK a) : LAY (a + 8) = 21 := (show ∀ x ∈ stE, LAY (x + 8) = 21 by decide +kernel) a (st_mem h)
theorem st8n {a : Nat} (h : stOK a) : LEN (a + 8) = 16 := (show ∀ x ∈ stE, LEN (x + 8) = 16 by decide +kernel) a (st_mem h)
theorem st9l {a : Nat} (h : stOK a) : LAY (a + 9) = 20 := (show ∀ x ∈ stE, LAY (x + 9) = 20 by decide +kernel) a (st_mem h)
theorem st9n {a : Nat} (h : stOK a) : LEN (a + 9) = 3 := (show ∀ x ∈ stE, LEN (x + 9) = 3 by decide +kernel) a (st_mem h)
theorem st10l {a : Nat} (h : stOK a) : LAY (a + 10) = 25 := (show ∀ x ∈ stE, LAY (x + 10) = 25 by decide +kernel) a (st_mem h)
theorem st10n {a : Nat} (h : stOK a) : LEN (a + 10) = 20 := (show ∀ x ∈ stE, LEN (x + 10) = 20 by decide +kernel) a (st_mem h)
theorem tx0l {a : Nat} (h : txOK a) : LAY a = 22 := by rcases h with rfl | rfl <;> decide +kernel
theorem tx0n {a : Nat} (h : txOK a) : LEN a = LEN a := rfl
theorem bn_ck {a : Nat} (h : bnOK a) : ckOK (a + 1) := by rcases h with rfl | rfl; exact Or.inl rfl; exact Or.inr rfl
theorem bn_st {a : Nat} (h : bnOK a) : stOK (a + 6) := by rcases h with rfl | rfl <;> (show _ ∈ stL; decide)
theorem st_disl {a : Nat} (h : stOK a) {i : Nat} (hi : i < 20) : LAY (a + 11 + i) = 2 := (show ∀ x ∈ stE, ∀ j, j < 20 → LAY (x + 11 + j) = 2 by decide +kernel) a h i hi
theorem st_rowl {a : Nat} (h : stOK a) {i : Nat} (hi : i < 3) : LAY (a + 2 + i) = 20 := (show ∀ x ∈ stE, ∀ j, j < 3 → LAY (x + 2 + j) = 20 by decide +kernel) a h i hi
theorem st_rown {a : Nat} (h : stOK a) {i : Nat} (hi : i < 3) : LEN (a + 2 + i) = 16 := (show ∀ x ∈ stE, ∀ j, j < 3 → LEN (x + 2 + j) = 16 by decide +kernel) a h i hi
theorem hs_row {i : Nat} (hi : i < 10) : stOK (34 + 31 * i) := (show ∀ j, j < 10 → 34 + 31 * j ∈ stL by decide +kernel) i hi
theorem st_lt {a : Nat} (h : stOK a) : a + 31 ≤ 457 := (show ∀ x ∈ stE, x + 31 ≤ 457 by decide +kernel) a h
theorem st_3 : stOK 3 := (by decide : 3 ∈ stL)
theorem st_34 : stOK 34 := (by decide : 34 ∈ stL)
theorem st_65 : stOK 65 := (by decide : 65 ∈ stL)
theorem st_96 : stOK 96 := (by decide : 96 ∈ stL)
theorem st_127 : stOK 127 := (by decide : 127 ∈ stL)
theorem st_158 : stOK 158 := (by decide : 158 ∈ stL)
theorem st_189 : stOK 189 := (by decide : 189 ∈ stL)
theorem st_220 : stOK 220 := (by decide : 220 ∈ stL)
theorem st_251 : stOK 251 := (by decide : 251 ∈ stL)
theorem st_282 : stOK 282 := (by decide : 282 ∈ stL)
theorem st_313 : stOK 313 := (by decide : 313 ∈ stL)
theorem st_358 : stOK 358 := (by decide : 358 ∈ stL)
theorem st_400 : stOK 400 := (by decide : 400 ∈ stL)
theorem vp_nat {i : Int32} {n : Nat} (h : vp_in i n) : i.toNatClampNeg < n := Nat.not_le.mp fun q => h (Or.inr q)
section RTL
variable {b d t : Nat}
theorem rt_rs {a j : Nat} {v : Option Nat} (h : a ≠ 0 ∧ a ≠ 344 ∧ RS a j = v) : RT b d t a j = v := by
  obtain ⟨h1, h2, h3⟩ := h
  unfold RT
  split
  · exact absurd rfl h1
  · exact absurd rfl h2
  · exact h3
theorem rt_bn_0 {a : Nat} (h : bnOK a) : RT b d t a 0 = some (a + 1) := (show ∀ x ∈ bnE, x ≠ 0 ∧ x ≠ 344 ∧ RS x 0 = some (x + 1) by decide +kernel) a (bn_mem h) |> rt_rs
theorem rt_bn_1 {a : Nat} (h : bnOK a) : RT b d t a 1 = some (a + 6) := (show ∀ x ∈ bnE, x ≠ 0 ∧ x ≠ 344 ∧ RS x 1 = some (x + 6) by decide +kernel) a (bn_mem h) |> rt_rs
theorem rt_bn_2 {a : Nat} (h : bnOK a) : RT b d t a 2 = some (a + 37) := (show ∀ x ∈ bnE, x ≠ 0 ∧ x ≠ 344 ∧ RS x 2 = some (x + 37) by decide +kernel) a (bn_mem h) |> rt_rs
theorem rt_bn_3 {a : Nat} (h : bnOK a) : RT b d t a 3 = some (a + 38) := (show ∀ x ∈ bnE, x ≠ 0 ∧ x ≠ 344 ∧ RS x 3 = some (x + 38) by decide +kernel) a (bn_mem h) |> rt_rs
theorem rt_bn_4 {a : Nat} (h : bnOK a) : RT b d t a 4 = some (a + 39) := (show ∀ x ∈ bnE, x ≠ 0 ∧ x ≠ 344 ∧ RS x 4 = some (x + 39) by decide +kernel) a (bn_mem h) |> rt_rs
theorem rt_bn_5 {a : Nat} (h : bnOK a) : RT b d t a 5 = some (a + 40) := (show ∀ x ∈ bnE, x ≠ 0 ∧ x ≠ 344 ∧ RS x 5 = some (x + 40) by decide +kernel) a (bn_mem h) |> rt_rs
theorem rt_bn_6 {a : Nat} (h : bnOK a) : RT b d t a 6 = some (a + 41) := (show ∀ x ∈ bnE, x ≠ 0 ∧ x ≠ 344 ∧ RS x 6 = some (x + 41) by decide +kernel) a (bn_mem h) |> rt_rs
theorem rt_ck_0 {a : Nat} (h : ckOK a) : RT b d t a 0 = some (a + 1) := (show ∀ x ∈ ckE, x ≠ 0 ∧ x ≠ 344 ∧ RS x 0 = some (x + 1) by decide +kernel) a (ck_mem h) |> rt_rs
theorem rt_ck_1 {a : Nat} (h : ckOK a) : RT b d t a 1 = some (a + 2) := (show ∀ x ∈ ckE, x ≠ 0 ∧ x ≠ 344 ∧ RS x 1 = some (x + 2) by decide +kernel) a (ck_mem h) |> rt_rs
theorem rt_ck_2 {a : Nat} (h : ckOK a) : RT b d t a 2 = some (a + 3) := (show ∀ x ∈ ckE, x ≠ 0 ∧ x ≠ 344 ∧ RS x 2 = some (x + 3) by decide +kernel) a (ck_mem h) |> rt_rs
theorem rt_ck_3 {a : Nat} (h : ckOK a) : RT b d t a 3 = some (a + 4) := (show ∀ x ∈ ckE, x ≠ 0 ∧ x ≠ 344 ∧ RS x 3 = some (x + 4) by decide +kernel) a (ck_mem h) |> rt_rs
theorem rt_st_0 {a : Nat} (h : stOK a) : RT b d t a 0 = some (a + 1) := (show ∀ x ∈ stE, x ≠ 0 ∧ x ≠ 344 ∧ RS x 0 = some (x + 1) by decide +kernel) a (st_mem h) |> rt_rs
theorem rt_st_1 {a : Nat} (h : stOK a) : RT b d t a 1 = some (a + 5) := (show ∀ x ∈ stE, x ≠ 0 ∧ x ≠ 344 ∧ RS x 1 = some (x + 5) by decide +kernel) a (st_mem h) |> rt_rs
theorem rt_st_2 {a : Nat} (h : stOK a) : RT b d t a 2 = some (a + 6) := (show ∀ x ∈ stE, x ≠ 0 ∧ x ≠ 344 ∧ RS x 2 = some (x + 6) by decide +kernel) a (st_mem h) |> rt_rs
theorem rt_st_3 {a : Nat} (h : stOK a) : RT b d t a 3 = some (a + 7) := (show ∀ x ∈ stE, x ≠ 0 ∧ x ≠ 344 ∧ RS x 3 = some (x + 7) by decide +kernel) a (st_mem h) |> rt_rs
theorem rt_st_4 {a : Nat} (h : stOK a) : RT b d t a 4 = some (a + 8) := (show ∀ x ∈ stE, x ≠ 0 ∧ x ≠ 344 ∧ RS x 4 = some (x + 8) by decide +kernel) a (st_mem h) |> rt_rs
theorem rt_st_5 {a : Nat} (h : stOK a) : RT b d t a 5 = some (a + 9) := (show ∀ x ∈ stE, x ≠ 0 ∧ x ≠ 344 ∧ RS x 5 = some (x + 9) by decide +kernel) a (st_mem h) |> rt_rs
theorem rt_st_6 {a : Nat} (h : stOK a) : RT b d t a 6 = some (a + 10) := (show ∀ x ∈ stE, x ≠ 0 ∧ x ≠ 344 ∧ RS x 6 = some (x + 10) by decide +kernel) a (st_mem h) |> rt_rs
theorem rt_dis {a : Nat} (h : stOK a) {i : Nat} (hi : i < 20) : RT b d t (a + 10) i = some (a + 11 + i) := (show ∀ x ∈ stE, ∀ j, j < 20 → x + 10 ≠ 0 ∧ x + 10 ≠ 344 ∧ RS (x + 10) j = some (x + 11 + j) by decide +kernel) a h i hi |> rt_rs
theorem rt_row {a : Nat} (h : stOK a) {i : Nat} (hi : i < 3) : RT b d t (a + 1) i = some (a + 2 + i) := (show ∀ x ∈ stE, ∀ j, j < 3 → x + 1 ≠ 0 ∧ x + 1 ≠ 344 ∧ RS (x + 1) j = some (x + 2 + j) by decide +kernel) a h i hi |> rt_rs
theorem rt_hs {i : Nat} (hi : i < 10) : RT b d t 2 i = some (34 + 31 * i) := (show ∀ j, j < 10 → RS 2 j = some (34 + 31 * j) by decide +kernel) i hi
theorem rt_0_0 : RT b d t 0 0 = some 1 := rfl
theorem rt_0_1 : RT b d t 0 1 = some 344 := rfl
theorem rt_0_2 : RT b d t 0 2 = some 346 := rfl
theorem rt_0_3 : RT b d t 0 3 = some 350 := rfl
theorem rt_0_4 : RT b d t 0 4 = some 351 := rfl
theorem rt_0_5 : RT b d t 0 5 = some b := rfl
theorem rt_0_6 : RT b d t 0 6 = some d := rfl
theorem rt_344_0 : RT b d t 344 0 = some t := rfl
theorem rt_1_0 : RT b d t 1 0 = some 2 := (by decide +kernel : RS 1 0 = some 2)
theorem rt_1_1 : RT b d t 1 1 = some 3 := (by decide +kernel : RS 1 1 = some 3)
theorem rt_346_0 : RT b d t 346 0 = some 347 := (by decide +kernel : RS 346 0 = some 347)
theorem rt_346_1 : RT b d t 346 1 = some 348 := (by decide +kernel : RS 346 1 = some 348)
theorem rt_436_0 : RT b d t 436 0 = some 437 := (by decide +kernel : RS 436 0 = some 437)
theorem rt_346_2 : RT b d t 346 2 = some 349 := (by decide +kernel : RS 346 2 = some 349)
end RTL
theorem ly_0 : LAY 0 = 7 := by decide +kernel
theorem ln_0 : LEN 0 = 10 := by decide +kernel
theorem ly_1 : LAY 1 = 3 := by decide +kernel
theorem ln_1 : LEN 1 = 5 := by decide +kernel
theorem ly_2 : LAY 2 = 24 := by decide +kernel
theorem ln_2 : LEN 2 = 10 := by decide +kernel
theorem ly_3 : LAY 3 = 5 := by decide +kernel
theorem ln_3 : LEN 3 = 9 := by decide +kernel
theorem ly_344 : LAY 344 = 6 := by decide +kernel
theorem ln_344 : LEN 344 = 8 := by decide +kernel
theorem ly_346 : LAY 346 = 4 := by decide +kernel
theorem ln_346 : LEN 346 = 7 := by decide +kernel
theorem ly_347 : LAY 347 = 23 := by decide +kernel
theorem ln_347 : LEN 347 = 6 := by decide +kernel
theorem ly_348 : LAY 348 = 20 := by decide +kernel
theorem ln_348 : LEN 348 = 6 := by decide +kernel
theorem ly_349 : LAY 349 = 20 := by decide +kernel
theorem ln_349 : LEN 349 = 6 := by decide +kernel
theorem ly_350 : LAY 350 = 22 := by decide +kernel
theorem ln_350 : LEN 350 = 600 := by decide +kernel
theorem ly_351 : LAY 351 = 22 := by decide +kernel
theorem ln_351 : LEN 351 = 61 := by decide +kernel
theorem ly_436 : LAY 436 = 8 := by decide +kernel
theorem ln_436 : LEN 436 = 7 := by decide +kernel
theorem ly_437 : LAY 437 = 20 := by decide +kernel
theorem ln_437 : LEN 437 = 600 := by decide +kernel
