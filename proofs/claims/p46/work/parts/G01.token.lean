/-! the law's text: its tokens -/
section GT1
theorem runT_is {P : Nat → Bool} {ln : Nat} : ∀ (n p e : Nat), e - p = n → p ≤ e → e ≤ ln → (∀ i, p ≤ i → i < e → P i = true) → (e = ln ∨ P e = false) → runT P ln p = e
  | 0, p, e, hn, h1, h2, h3, h4 => by
    have : p = e := by omega
    subst this
    rcases h4 with q | q
    · exact runT_e (by omega)
    · exact runT_0 q
  | n + 1, p, e, hn, h1, h2, h3, h4 => by
    rw [runT_1 (by omega) (h3 p (Nat.le_refl _) (by omega))]
    exact runT_is n (p + 1) e (by omega) (by omega) h2 (fun i a b => h3 i (by omega) b) h4
def ltN (x : Nat) : Bool := decide (97 ≤ x ∧ x ≤ 122)
def dgN (x : Nat) : Bool := decide (48 ≤ x ∧ x ≤ 57)
theorem ws_no {c : Nat → Nat} {p : Nat} (h1 : c p ≠ 32) (h2 : c p ≠ 10) : wsB c p = false := by
  unfold wsB
  rw [Bool.or_eq_false_iff]
  exact ⟨beq_eq_false_iff_ne.mpr h1, beq_eq_false_iff_ne.mpr h2⟩
theorem tk_sp {c : Nat → Nat} {ln p : Nat} (h : c p = 32) (hp : p < ln) : tkN c ln p = tkN c ln (p + 1) := by
  unfold tkN
  rw [runT_1 (P := wsB c) hp (by unfold wsB; rw [h]; rfl)]
theorem tk_word {c : Nat → Nat} {ln p e : Nat} (h1 : p < e) (h2 : e ≤ ln) (h3 : ∀ i, p ≤ i → i < e → ltN (c i) = true) (h4 : ltN (c e) = false) : tkN c ln p = (1, p, e) := by
  have hp : ltB c p = true := h3 p (Nat.le_refl _) h1
  have hp2 := of_decide_eq_true hp
  unfold tkN
  rw [runT_0 (P := wsB c) (ws_no (by omega) (by omega)), if_pos (by omega), if_pos hp, runT_is (P := ltB c) _ p e rfl (by omega) h2 h3 (Or.inr h4)]
theorem tk_num {c : Nat → Nat} {ln p e : Nat} (h1 : p < e) (h2 : e ≤ ln) (h3 : ∀ i, p ≤ i → i < e → dgN (c i) = true) (h4 : dgN (c e) = false) : tkN c ln p = (2, p, e) := by
  have hp : dgB c p = true := h3 p (Nat.le_refl _) h1
  have hp2 := of_decide_eq_true hp
  have hl : ¬ ltB c p = true := by
    intro z
    have := of_decide_eq_true z
    omega
  unfold tkN
  rw [runT_0 (P := wsB c) (ws_no (by omega) (by omega)), if_pos (by omega), if_neg hl, if_pos hp, runT_is (P := dgB c) _ p e rfl (by omega) h2 h3 (Or.inr h4)]
theorem tk_sign {c : Nat → Nat} {ln p : Nat} (h : c p = 59) (hp : p < ln) : tkN c ln p = (3, p, p + 1) := by
  have hl : ¬ ltB c p = true := by
    intro z
    have := of_decide_eq_true z
    omega
  have hd : ¬ dgB c p = true := by
    intro z
    have := of_decide_eq_true z
    omega
  unfold tkN
  rw [runT_0 (P := wsB c) (ws_no (by omega) (by omega)), if_pos hp, if_neg hl, if_neg hd]
theorem tk_end {c : Nat → Nat} {ln : Nat} : tkN c ln ln = (0, ln, ln) := by
  unfold tkN
  rw [runT_e (Nat.le_refl _), if_neg (by omega)]
theorem gd_l {A B : List Nat} {i : Nat} (h : i < A.length) : (A ++ B).getD i 0 = A.getD i 0 := by
  rw [List.getD_eq_getElem?_getD, List.getD_eq_getElem?_getD, List.getElem?_append_left h]
theorem gd_r {A B : List Nat} {i : Nat} : (A ++ B).getD (A.length + i) 0 = B.getD i 0 := by
  rw [List.getD_eq_getElem?_getD, List.getD_eq_getElem?_getD, List.getElem?_append_right (by omega), Nat.add_sub_cancel_left]
/-- the text from a place on -/
def At (c : Nat → Nat) (p : Nat) (R : List Nat) : Prop := ∀ i, i < R.length → c (p + i) = R.getD i 0
theorem At.app {c : Nat → Nat} {p : Nat} {A B : List Nat} (h : At c p (A ++ B)) : At c p A ∧ At c (p + A.length) B := by
  refine ⟨fun i hi => ?_, fun i hi => ?_⟩
  · rw [h i (by rw [List.length_append]; omega), gd_l hi]
  · have := h (A.length + i) (by rw [List.length_append]; omega)
    rw [Nat.add_assoc, this, gd_r]
theorem At.hd {c : Nat → Nat} {p x : Nat} {R : List Nat} (h : At c p (x :: R)) : c p = x := h 0 (by simp)
theorem At.tl {c : Nat → Nat} {p x : Nat} {R : List Nat} (h : At c p (x :: R)) : At c (p + 1) R := (At.app (A := [x]) h).2
/-- the reading state ahead of a place -/
def sT (c : Nat → Nat) (ln p : Nat) : PS := (tkN c ln p, 0, -1)
theorem sT_er {c : Nat → Nat} {ln p : Nat} : er (sT c ln p) = 0 := rfl
theorem sT_adv {c : Nat → Nat} {ln p e k s : Nat} (h : tkN c ln p = (k, s, e)) : advF c ln (sT c ln p) = sT c ln e := by
  unfold advF
  rw [if_pos sT_er]
  show (tkN c ln (tkN c ln p).2.2, _) = _
  rw [h]
  rfl
def digs (v : Nat) : List Nat := if v < 10 then [48 + v] else if v < 100 then [48 + v / 10, 48 + v % 10] else [48 + v / 100, 48 + v / 10 % 10, 48 + v % 10]
def num (v : Nat) : List Nat := 32 :: digs v
theorem digs_ok {v : Nat} (hv : v < 1000) : 0 < (digs v).length ∧ (digs v).length ≤ 3 ∧ ∀ i, i < (digs v).length → dgN ((digs v).getD i 0) = true := by
  unfold digs
  split
  · refine ⟨by simp, by simp, fun i hi => ?_⟩
    have : i = 0 := by simp at hi; omega
    subst this
    exact decide_eq_true (by simp; omega)
  · split
    · refine ⟨by simp, by simp, fun i hi => ?_⟩
      have : i = 0 ∨ i = 1 := by simp at hi; omega
      rcases this with rfl | rfl
      · exact decide_eq_true (by simp; omega)
      · exact decide_eq_true (by simp; omega)
    · refine ⟨by simp, by simp, fun i hi => ?_⟩
      have : i = 0 ∨ i = 1 ∨ i = 2 := by simp at hi; omega
      rcases this with rfl | rfl | rfl
      · exact decide_eq_true (by simp; omega)
      · exact decide_eq_true (by simp; omega)
      · exact decide_eq_true (by simp; omega)
theorem nvF_cg {c : Nat → Nat} {s : Nat} {R : List Nat} (h : At c s R) : ∀ n, n ≤ R.length → nvF c s n = nvF (fun i => R.getD i 0) 0 n
  | 0, _ => rfl
  | n + 1, hn => by
    show 10 * nvF c s n + (c (s + n) - 48) = 10 * nvF (fun i => R.getD i 0) 0 n + (R.getD (0 + n) 0 - 48)
    rw [nvF_cg h n (by omega), h n (by omega), Nat.zero_add]
theorem nvF_digs {v : Nat} (hv : v < 1000) : nvF (fun i => (digs v).getD i 0) 0 (digs v).length = v := by
  unfold digs
  split
  · simp [nvF]
  · split
    · simp [nvF]; omega
    · simp [nvF]; omega
/-- a number -/
theorem rd_num {c : Nat → Nat} {ln p v x : Nat} {R : List Nat} (hv : v < 1000) (h : At c p (num v ++ x :: R)) (hl : p + (num v ++ x :: R).length ≤ ln) (hx : x = 32 ∨ x = 59) :
    tkN c ln p = (2, p + 1, p + (num v).length) ∧ numF c (sT c ln p) = v := by
  obtain ⟨d1, d2, d3⟩ := digs_ok hv
  obtain ⟨h1, h2⟩ := h.app
  have e1 : (num v).length = (digs v).length + 1 := rfl
  have l1 : (num v ++ x :: R).length = (digs v).length + 1 + (R.length + 1) := by simp [num]; omega
  have hd : At c (p + 1) (digs v) := h1.tl
  have c0 : c p = 32 := h1.hd
  have t : tkN c ln p = (2, p + 1, p + (num v).length) := by
    rw [tk_sp c0 (by omega)]
    refine tk_num (by omega) (by omega) (fun i a b => ?_) ?_
    · have := hd (i - (p + 1)) (by omega)
      rw [show p + 1 + (i - (p + 1)) = i by omega] at this
      rw [this]
      exact d3 _ (by omega)
    · rw [h2.hd]
      rcases hx with rfl | rfl <;> decide
  refine ⟨t, ?_⟩
  unfold numF
  show nvF c (tkN c ln p).2.1 ((tkN c ln p).2.2 - (tkN c ln p).2.1) = v
  rw [t]
  show nvF c (p + 1) (p + (num v).length - (p + 1)) = v
  rw [show p + (num v).length - (p + 1) = (digs v).length by omega, nvF_cg hd _ (Nat.le_refl _), nvF_digs hv]
theorem rd_nuB {c : Nat → Nat} {ln p s e : Nat} (h : tkN c ln p = (2, s, e)) : nuB (sT c ln p) = true := decide_eq_true ⟨rfl, by show (tkN c ln p).1 = 2; rw [h]⟩
theorem rd_nuN {c : Nat → Nat} {ln p s e k : Nat} (h : tkN c ln p = (k, s, e)) (hk : k ≠ 2) : nuB (sT c ln p) = false := decide_eq_false (fun z => hk (by have := z.2; change (tkN c ln p).1 = 2 at this; rw [h] at this; exact this))
theorem rd_peek {c : Nat → Nat} {ln p v x lo hi : Nat} {R : List Nat} (hv : v < 1000) (h : At c p (num v ++ x :: R)) (hl : p + (num v ++ x :: R).length ≤ ln) (hx : x = 32 ∨ x = 59) (h1 : lo ≤ v) (h2 : v ≤ hi) :
    peekF c lo hi (sT c ln p) = sT c ln p ∧ peekV c lo hi (sT c ln p) = v := by
  obtain ⟨a1, a2⟩ := rd_num hv h hl hx
  have e : peekF c lo hi (sT c ln p) = sT c ln p := by
    unfold peekF
    rw [if_pos (rd_nuB a1), if_pos (show inB c lo hi (sT c ln p) = true from decide_eq_true (by rw [a2]; exact ⟨h1, h2⟩))]
  refine ⟨e, ?_⟩
  unfold peekV
  rw [e, if_pos sT_er, a2]
theorem rd_take {c : Nat → Nat} {ln p v x lo hi : Nat} {R : List Nat} (hv : v < 1000) (h : At c p (num v ++ x :: R)) (hl : p + (num v ++ x :: R).length ≤ ln) (hx : x = 32 ∨ x = 59) (h1 : lo ≤ v) (h2 : v ≤ hi) :
    takeN c ln lo hi (sT c ln p) = sT c ln (p + (num v).length) ∧ peekV c lo hi (sT c ln p) = v := by
  obtain ⟨b1, b2⟩ := rd_peek (lo := lo) (hi := hi) hv h hl hx h1 h2
  refine ⟨?_, b2⟩
  unfold takeN
  rw [b1]
  exact sT_adv (rd_num hv h hl hx).1
/-- a sign -/
theorem rd_sign {c : Nat → Nat} {ln p : Nat} {R : List Nat} (h : At c p (59 :: R)) (hl : p + (59 :: R).length ≤ ln) : takeS c ln 59 (sT c ln p) = sT c ln (p + 1) ∧ nuB (sT c ln p) = false := by
  have hl2 : (59 :: R).length = R.length + 1 := rfl
  have t := tk_sign (ln := ln) h.hd (by omega)
  refine ⟨?_, rd_nuN t (by decide)⟩
  unfold takeS
  have : sgB c 59 (sT c ln p) = true := by
    refine decide_eq_true ⟨rfl, ?_, ?_⟩
    · show (tkN c ln p).1 = 3
      rw [t]
    · show c (tkN c ln p).2.1 = 59
      rw [t]
      exact h.hd
  rw [if_pos this]
  exact sT_adv t
/-- a word -/
def hsL (w : List Nat) : Nat := hsG (fun i => w.getD i 0 - 96) w.length
def wOKL (w : List Nat) : Bool := decide (0 < w.length ∧ w.length ≤ 10) && w.all ltN
theorem wOKL_get {w : List Nat} (h : wOKL w = true) : (0 < w.length ∧ w.length ≤ 10) ∧ ∀ i, i < w.length → ltN (w.getD i 0) = true := by
  unfold wOKL at h
  rw [Bool.and_eq_true] at h
  refine ⟨of_decide_eq_true h.1, fun i hi => ?_⟩
  have := List.all_eq_true.mp h.2 (w.getD i 0) (by rw [List.getD_eq_getElem?_getD, List.getElem?_eq_getElem hi]; exact List.getElem_mem hi)
  exact this
theorem rd_word {c : Nat → Nat} {ln p x : Nat} {w R : List Nat} (hw : wOKL w = true) (h : At c p (w ++ x :: R)) (hl : p + (w ++ x :: R).length ≤ ln) (hx : x = 32 ∨ x = 59) :
    tkN c ln p = (1, p, p + w.length) ∧ ∀ H, wdB c (sT c ln p) H = decide (hsL w = H) := by
  obtain ⟨⟨w1, w2⟩, w3⟩ := wOKL_get hw
  obtain ⟨h1, h2⟩ := h.app
  have l1 : (w ++ x :: R).length = w.length + (R.length + 1) := by simp
  have t : tkN c ln p = (1, p, p + w.length) := by
    refine tk_word (by omega) (by omega) (fun i a b => ?_) ?_
    · have := h1 (i - p) (by omega)
      rw [show p + (i - p) = i by omega] at this
      rw [this]
      exact w3 _ (by omega)
    · rw [h2.hd]
      rcases hx with rfl | rfl <;> decide
  refine ⟨t, fun H => ?_⟩
  unfold wdB
  have e : hsF c (ts (sT c ln p)) (te (sT c ln p) - ts (sT c ln p)) = hsL w := by
    show hsF c (tkN c ln p).2.1 ((tkN c ln p).2.2 - (tkN c ln p).2.1) = _
    rw [t]
    show hsF c p (p + w.length - p) = _
    rw [Nat.add_sub_cancel_left, hsF_G]
    exact hsG_cg _ (fun i hi => by rw [h1 i hi])
  rw [e]
  have e1 : tk (sT c ln p) = 1 := by show (tkN c ln p).1 = 1; rw [t]
  have e2 : te (sT c ln p) - ts (sT c ln p) ≤ 10 := by
    show (tkN c ln p).2.2 - (tkN c ln p).2.1 ≤ 10
    rw [t]
    show p + w.length - p ≤ 10
    omega
  exact decide_eq_decide.mpr ⟨fun z => z.2.2.2, fun z => ⟨rfl, e1, e2, z⟩⟩
theorem rd_wordS {c : Nat → Nat} {ln p x : Nat} {w R : List Nat} (hw : wOKL w = true) (h : At c p (32 :: w ++ x :: R)) (hl : p + (32 :: w ++ x :: R).length ≤ ln) (hx : x = 32 ∨ x = 59) :
    tkN c ln p = (1, p + 1, p + 1 + w.length) ∧ ∀ H, wdB c (sT c ln p) H = decide (hsL w = H) := by
  have l1 : (32 :: w ++ x :: R).length = w.length + (R.length + 1) + 1 := by simp
  have h2 : At c (p + 1) (w ++ x :: R) := At.tl h
  have c0 : c p = 32 := At.hd h
  have e := tk_sp (ln := ln) c0 (by omega)
  obtain ⟨a1, a2⟩ := rd_word (ln := ln) hw h2 (by simp only [List.length_append, List.length_cons]; omega) hx
  have es : sT c ln p = sT c ln (p + 1) := by unfold sT; rw [e]
  refine ⟨by rw [e, a1], fun H => ?_⟩
  rw [es]
  exact a2 H
theorem rd_takeW {c : Nat → Nat} {ln p H x : Nat} {w R : List Nat} (hw : wOKL w = true) (hH : hsL w = H) (h : At c p (w ++ x :: R)) (hl : p + (w ++ x :: R).length ≤ ln) (hx : x = 32 ∨ x = 59) : takeW c ln H (sT c ln p) = sT c ln (p + w.length) := by
  obtain ⟨a1, a2⟩ := rd_word hw h hl hx
  unfold takeW
  rw [a2 H, if_pos (decide_eq_true hH)]
  exact sT_adv a1
end GT1
