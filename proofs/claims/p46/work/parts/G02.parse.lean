/-! the law's text is good -/
section GT2
def wBen : List Nat := [98, 101, 110, 99, 104]
def wInp : List Nat := [105, 110, 112, 117, 116]
def wGat : List Nat := [103, 97, 116, 101]
def wPur : List Nat := [112, 117, 114, 115, 101, 115]
def wKi (k : Nat) : List Nat := match k with
  | 0 => [97, 110, 100]
  | 1 => [111, 114]
  | 2 => [120, 111, 114]
  | 3 => [110, 97, 110, 100]
  | 4 => [110, 111, 114]
  | 5 => [110, 111, 116]
  | _ => [115, 97, 109, 101]
theorem wKi_ok : ∀ k, k < 7 → wOKL (wKi k) = true ∧ hsL (wKi k) = kh k := by decide +kernel
def headT (H l R F : Nat) (K : List Nat) : List Nat := wBen ++ (num H ++ (num l ++ (num R ++ (num F ++ 59 :: K))))
def flT : List Nat → List Nat → List Nat
  | [], K => 59 :: K
  | a :: r, K => num a ++ flT r K
def inT (b : Nat) (fl : List Nat) (K : List Nat) : List Nat := wInp ++ (num b ++ flT fl K)
def insT : List (Nat × List Nat) → List Nat → List Nat
  | [], K => K
  | x :: r, K => inT x.1 x.2 (insT r K)
def dlT (x y z : Nat) (K : List Nat) : List Nat := num x ++ (num y ++ (num z ++ 59 :: K))
abbrev GA : Type := Nat × Nat × Nat × Nat × Nat × Nat
def gaT (g : GA) (K : List Nat) : List Nat := wGat ++ (32 :: wKi g.1 ++ (num g.2.1 ++ (if g.1 < 5 then num g.2.2.1 ++ dlT g.2.2.2.1 g.2.2.2.2.1 g.2.2.2.2.2 K else dlT g.2.2.2.1 g.2.2.2.2.1 g.2.2.2.2.2 K)))
def gasT : List GA → List Nat → List Nat
  | [], K => K
  | x :: r, K => gaT x (gasT r K)
def puT (a b c : Nat) : List Nat := wPur ++ (num a ++ (num b ++ (num c ++ [59])))
/-- the rest of the text stands from here -/
def Rs (c : Nat → Nat) (ln p : Nat) (R : List Nat) : Prop := At c p R ∧ p + R.length = ln
theorem Rs.app {c : Nat → Nat} {ln p : Nat} {A B : List Nat} (h : Rs c ln p (A ++ B)) : Rs c ln (p + A.length) B := by
  refine ⟨h.1.app.2, ?_⟩
  have := h.2
  rw [List.length_append] at this
  omega
theorem nstep {c : Nat → Nat} {ln p v x lo hi : Nat} {R : List Nat} (h : Rs c ln p (num v ++ x :: R)) (hv : v < 1000) (hx : x = 32 ∨ x = 59) (h1 : lo ≤ v) (h2 : v ≤ hi) : ∃ q, takeN c ln lo hi (sT c ln p) = sT c ln q ∧ peekV c lo hi (sT c ln p) = v ∧ Rs c ln q (x :: R) := by
  obtain ⟨a, b⟩ := rd_take (lo := lo) (hi := hi) hv h.1 (Nat.le_of_eq h.2) hx h1 h2
  exact ⟨_, a, b, h.app⟩
theorem sstep {c : Nat → Nat} {ln p : Nat} {R : List Nat} (h : Rs c ln p (59 :: R)) : ∃ q, takeS c ln 59 (sT c ln p) = sT c ln q ∧ Rs c ln q R := by
  have a := (rd_sign h.1 (Nat.le_of_eq h.2)).1
  exact ⟨_, a, Rs.app (A := [59]) h⟩
theorem wstep {c : Nat → Nat} {ln p x : Nat} {w R : List Nat} (hw : wOKL w = true) (h : Rs c ln p (w ++ x :: R)) (hx : x = 32 ∨ x = 59) : ∃ q, advF c ln (sT c ln p) = sT c ln q ∧ (∀ H, wdB c (sT c ln p) H = decide (hsL w = H)) ∧ Rs c ln q (x :: R) := by
  obtain ⟨a, b⟩ := rd_word hw h.1 (Nat.le_of_eq h.2) hx
  exact ⟨_, sT_adv a, b, h.app⟩
theorem rd_head {c : Nat → Nat} {ln p H l R F : Nat} {K : List Nat} (h : Rs c ln p (headT H l R F K)) (yH : 4 ≤ H ∧ H ≤ 60) (yl : 1 ≤ l ∧ l ≤ 20) (yR : R ≤ 9) (yF : F ≤ 99) :
    ∃ q, hF c ln (sT c ln p) = sT c ln q ∧ hZ c ln (sT c ln p) = hdZ H l R F ∧ Rs c ln q K := by
  obtain ⟨q1, a1, b1, c1⟩ := wstep (w := wBen) (by decide) (show Rs c ln p (wBen ++ 32 :: (digs H ++ (num l ++ (num R ++ (num F ++ 59 :: K))))) from h) (Or.inl rfl)
  obtain ⟨q2, a2, b2, c2⟩ := nstep (lo := 4) (hi := 60) (v := H) (x := 32) (show Rs c ln q1 (num H ++ 32 :: (digs l ++ (num R ++ (num F ++ 59 :: K)))) from c1) (by omega) (Or.inl rfl) yH.1 yH.2
  obtain ⟨q3, a3, b3, c3⟩ := nstep (lo := 1) (hi := 20) (v := l) (x := 32) (show Rs c ln q2 (num l ++ 32 :: (digs R ++ (num F ++ 59 :: K))) from c2) (by omega) (Or.inl rfl) yl.1 yl.2
  obtain ⟨q4, a4, b4, c4⟩ := nstep (lo := 0) (hi := 9) (v := R) (x := 32) (show Rs c ln q3 (num R ++ 32 :: (digs F ++ 59 :: K)) from c3) (by omega) (Or.inl rfl) (Nat.zero_le _) yR
  obtain ⟨q5, a5, b5, c5⟩ := nstep (lo := 0) (hi := 99) (v := F) (x := 59) (show Rs c ln q4 (num F ++ 59 :: K) from c4) (by omega) (Or.inr rfl) (Nat.zero_le _) yF
  obtain ⟨q6, a6, c6⟩ := sstep c5
  have eA : hA c ln (sT c ln p) = sT c ln q1 := by
    show takeW c ln 1171592 (sT c ln p) = _
    unfold takeW
    rw [b1 1171592, if_pos (by decide), a1]
  have eB : hB c ln (sT c ln p) = sT c ln q2 := by show takeN c ln 4 60 (hA c ln (sT c ln p)) = _; rw [eA, a2]
  have eC : hC c ln (sT c ln p) = sT c ln q3 := by show takeN c ln 1 20 (hB c ln (sT c ln p)) = _; rw [eB, a3]
  have eD : hD c ln (sT c ln p) = sT c ln q4 := by show takeN c ln 0 9 (hC c ln (sT c ln p)) = _; rw [eC, a4]
  have eE : hE c ln (sT c ln p) = sT c ln q5 := by show takeN c ln 0 99 (hD c ln (sT c ln p)) = _; rw [eD, a5]
  refine ⟨q6, ?_, ?_, c6⟩
  · show takeS c ln 59 (hE c ln (sT c ln p)) = _
    rw [eE, a6]
  · show hdZ (peekV c 4 60 (hA c ln (sT c ln p))) (peekV c 1 20 (hB c ln (sT c ln p))) (peekV c 0 9 (hC c ln (sT c ln p))) (peekV c 0 99 (hD c ln (sT c ln p))) = _
    rw [eA, eB, eC, eD, b2, b3, b4, b5]
theorem flT_c : ∀ (fl K : List Nat), ∃ x R, flT fl K = x :: R ∧ (x = 32 ∨ x = 59)
  | [], K => ⟨59, K, rfl, Or.inr rfl⟩
  | a :: r, K => ⟨32, digs a ++ flT r K, rfl, Or.inl rfl⟩
def flOK (H : Nat) : Nat → List Nat → Prop
  | _, [] => True
  | last, a :: r => last < a ∧ a ≤ H ∧ flOK H a r
theorem rd_wv {c : Nat → Nat} {ln H : Nat} {K : List Nat} (hH : H ≤ 60) : ∀ (fl : List Nat) (n last p : Nat) (w : Int64), fl.length ≤ n → flOK H last fl → Rs c ln p (flT fl K) → ∃ w2 q, wvL c ln H n w last (sT c ln p) = (w2, sT c ln q) ∧ Rs c ln q (59 :: K)
  | [], 0, last, p, w, h1, h2, h3 => ⟨w, p, rfl, h3⟩
  | [], n + 1, last, p, w, h1, h2, h3 => by
    refine ⟨w, p, ?_, h3⟩
    unfold wvL
    rw [if_neg]
    rw [(rd_sign h3.1 (Nat.le_of_eq h3.2)).2]
    decide
  | a :: r, 0, last, p, w, h1, h2, h3 => absurd h1 (by simp)
  | a :: r, n + 1, last, p, w, h1, h2, h3 => by
    obtain ⟨k1, k2, k3⟩ := h2
    obtain ⟨x, R, e, hx⟩ := flT_c r K
    have h4 : Rs c ln p (num a ++ x :: R) := by rw [← e]; exact h3
    have t := (rd_num (v := a) (by omega) h4.1 (Nat.le_of_eq h4.2) hx).1
    obtain ⟨p1, p2⟩ := rd_peek (lo := 1) (hi := H) (v := a) (by omega) h4.1 (Nat.le_of_eq h4.2) hx (by omega) k2
    have h5 := h4.app
    rw [← e] at h5
    unfold wvL
    rw [if_pos (rd_nuB t), p1, p2, if_pos k1, sT_adv t]
    exact rd_wv hH r n a _ _ (by simp at h1; omega) k3 h5
theorem rd_wave {c : Nat → Nat} {ln H b p : Nat} {fl K : List Nat} (hH : H ≤ 60) (hb : b ≤ 1) (hf : fl.length ≤ 61) (h2 : flOK H 0 fl) (h : Rs c ln p (num b ++ flT fl K)) : ∃ w q, rdWave c ln H (sT c ln p) = (w, sT c ln q) ∧ Rs c ln q K := by
  obtain ⟨x, R, e, hx⟩ := flT_c fl K
  rw [e] at h
  obtain ⟨q1, a1, b1, c1⟩ := nstep (lo := 0) (hi := 1) h (by omega) hx (Nat.zero_le _) hb
  rw [← e] at c1
  obtain ⟨w2, q2, a2, c2⟩ := rd_wv hH fl 61 0 q1 (wv0 c H (sT c ln p)) hf h2 c1
  obtain ⟨q3, a3, c3⟩ := sstep c2
  refine ⟨w2, q3, ?_, c3⟩
  unfold rdWave
  rw [a1, a2]
  show (w2, takeS c ln 59 (sT c ln q2)) = _
  rw [a3]
def inOK (H : Nat) (x : Nat × List Nat) : Prop := x.1 ≤ 1 ∧ x.2.length ≤ 61 ∧ flOK H 0 x.2
/-- parts of a circuit that inputs and gates leave -/
def sameH (Z Z2 : ZT) : Prop := cH Z2.1 = cH Z.1 ∧ cR Z2.1 = cR Z.1 ∧ cF Z2.1 = cF Z.1
theorem rd_ins {c : Nat → Nat} {ln H : Nat} {K : List Nat} (hH : H ≤ 60) : ∀ (ins : List (Nat × List Nat)) (n p : Nat) (Z : ZT), ins.length < n → (∀ x ∈ ins, inOK H x) → cH Z.1 = H → Rs c ln p (insT ins (wGat ++ 32 :: K)) →
    ∃ q Z2, inL c ln n (sT c ln p) Z = (sT c ln q, Z2) ∧ Rs c ln q (wGat ++ 32 :: K) ∧ cI Z2.1 = cI Z.1 + ins.length ∧ cG Z2.1 = cG Z.1 ∧ sameH Z Z2
  | [], 0, p, Z, h1, _, _, _ => absurd h1 (by simp)
  | [], n + 1, p, Z, h1, h2, h3, h4 => by
    obtain ⟨q1, a1, b1, c1⟩ := wstep (w := wGat) (by decide) h4 (Or.inl rfl)
    refine ⟨p, Z, ?_, h4, rfl, rfl, rfl, rfl, rfl⟩
    unfold inL
    rw [b1 5070782, if_neg (by decide)]
  | x :: r, 0, p, Z, h1, _, _, _ => absurd h1 (by simp)
  | x :: r, n + 1, p, Z, h1, h2, h3, h4 => by
    obtain ⟨x1, x2, x3⟩ := h2 x List.mem_cons_self
    have h4 : Rs c ln p (wInp ++ (num x.1 ++ flT x.2 (insT r (wGat ++ 32 :: K)))) := h4
    obtain ⟨q1, a1, b1, c1⟩ := wstep (w := wInp) (by decide) (show Rs c ln p (wInp ++ 32 :: (digs x.1 ++ flT x.2 (insT r (wGat ++ 32 :: K)))) from h4) (Or.inl rfl)
    obtain ⟨w, q2, a2, c2⟩ := rd_wave (b := x.1) (fl := x.2) (K := insT r (wGat ++ 32 :: K)) hH x1 x2 x3 c1
    have hn : n ≠ 0 := by
      intro z
      subst z
      simp at h1
    obtain ⟨q3, Z3, a3, c3, d1, d2, d3⟩ := rd_ins hH r n q2 (adI Z w) (by simp at h1; omega) (fun y hy => h2 y (List.mem_cons_of_mem _ hy)) h3 c2
    refine ⟨q3, Z3, ?_, c3, ?_, d2, d3⟩
    · unfold inL
      rw [b1 5070782, if_pos (by decide), if_pos hn, a1, h3, a2]
      exact a3
    · rw [d1]
      show cI Z.1 + 1 + r.length = cI Z.1 + (r.length + 1)
      omega
theorem rd_kind {c : Nat → Nat} {S : PS} : ∀ k, k < 7 → (∀ H, wdB c S H = decide (hsL (wKi k) = H)) → kdF c S = k := by
  intro k hk h
  have e : ∀ j, wdB c S (kh j) = decide (hsL (wKi k) = kh j) := fun j => h (kh j)
  unfold kdF
  match k, hk with
  | 0, _ => simp only [kdR, e]; decide +kernel
  | 1, _ => simp only [kdR, e]; decide +kernel
  | 2, _ => simp only [kdR, e]; decide +kernel
  | 3, _ => simp only [kdR, e]; decide +kernel
  | 4, _ => simp only [kdR, e]; decide +kernel
  | 5, _ => simp only [kdR, e]; decide +kernel
  | 6, _ => simp only [kdR, e]; decide +kernel
def gaOK (n : Nat) (g : GA) : Prop := g.1 < 7 ∧ g.2.1 < n ∧ g.2.2.1 < n ∧ (1 ≤ g.2.2.2.1 ∧ g.2.2.2.1 ≤ 9) ∧ (1 ≤ g.2.2.2.2.1 ∧ g.2.2.2.2.1 ≤ 9) ∧ (1 ≤ g.2.2.2.2.2 ∧ g.2.2.2.2.2 ≤ 9)
theorem rd_dl {c : Nat → Nat} {ln p x y z : Nat} {K : List Nat} (h : Rs c ln p (dlT x y z K)) (hx : 1 ≤ x ∧ x ≤ 9) (hy : 1 ≤ y ∧ y ≤ 9) (hz : 1 ≤ z ∧ z ≤ 9) : ∃ q, takeS c ln 59 (takeN c ln 1 9 (takeN c ln 1 9 (takeN c ln 1 9 (sT c ln p)))) = sT c ln q ∧ Rs c ln q K := by
  obtain ⟨q1, a1, b1, c1⟩ := nstep (lo := 1) (hi := 9) (v := x) (x := 32) (show Rs c ln p (num x ++ 32 :: (digs y ++ (num z ++ 59 :: K))) from h) (by omega) (Or.inl rfl) hx.1 hx.2
  obtain ⟨q2, a2, b2, c2⟩ := nstep (lo := 1) (hi := 9) (v := y) (x := 32) (show Rs c ln q1 (num y ++ 32 :: (digs z ++ 59 :: K)) from c1) (by omega) (Or.inl rfl) hy.1 hy.2
  obtain ⟨q3, a3, b3, c3⟩ := nstep (lo := 1) (hi := 9) (v := z) (x := 59) (show Rs c ln q2 (num z ++ 59 :: K) from c2) (by omega) (Or.inr rfl) hz.1 hz.2
  obtain ⟨q4, a4, c4⟩ := sstep c3
  exact ⟨q4, by rw [a1, a2, a3, a4], c4⟩
theorem rd_gate {c : Nat → Nat} {ln p n : Nat} {g : GA} {K : List Nat} (hg : gaOK n g) (hn : n < 1000) (h : Rs c ln p (32 :: wKi g.1 ++ (num g.2.1 ++ (if g.1 < 5 then num g.2.2.1 ++ dlT g.2.2.2.1 g.2.2.2.2.1 g.2.2.2.2.2 K else dlT g.2.2.2.1 g.2.2.2.2.1 g.2.2.2.2.2 K)))) :
    ∃ q, qF c ln n (sT c ln p) = sT c ln q ∧ Rs c ln q K := by
  obtain ⟨g1, g2, g3, g4, g5, g6⟩ := hg
  obtain ⟨w1, w2⟩ := wKi_ok g.1 g1
  have dlc : ∀ x y z, dlT x y z K = 32 :: (digs x ++ (num y ++ (num z ++ 59 :: K))) := fun _ _ _ => rfl
  have t := rd_wordS (ln := ln) w1 (show At c p (32 :: wKi g.1 ++ 32 :: (digs g.2.1 ++ (if g.1 < 5 then num g.2.2.1 ++ dlT g.2.2.2.1 g.2.2.2.2.1 g.2.2.2.2.2 K else dlT g.2.2.2.1 g.2.2.2.2.1 g.2.2.2.2.2 K))) from h.1) (Nat.le_of_eq h.2) (Or.inl rfl)
  have k1 := rd_kind g.1 g1 t.2
  have k2 : kdS c ln (sT c ln p) = sT c ln (p + 1 + (wKi g.1).length) := by
    unfold kdS
    rw [k1, if_neg (by omega)]
    exact sT_adv t.1
  have k3 : kdV c (sT c ln p) = g.1 := by
    unfold kdV
    rw [k1, if_neg (by omega)]
  have c1 : Rs c ln (p + 1 + (wKi g.1).length) (num g.2.1 ++ (if g.1 < 5 then num g.2.2.1 ++ dlT g.2.2.2.1 g.2.2.2.2.1 g.2.2.2.2.2 K else dlT g.2.2.2.1 g.2.2.2.2.1 g.2.2.2.2.2 K)) := by
    have := h.app
    rw [List.length_cons] at this
    rw [show p + 1 + (wKi g.1).length = p + ((wKi g.1).length + 1) by omega]
    exact this
  unfold qF qE qD qC qB qA
  rw [k3, k2]
  by_cases h5 : g.1 < 5
  · rw [if_pos h5] at c1
    rw [if_neg (by omega)]
    obtain ⟨q2, a2, b2, c2⟩ := nstep (lo := 0) (hi := n - 1) (v := g.2.1) (x := 32) (show Rs c ln _ (num g.2.1 ++ 32 :: (digs g.2.2.1 ++ dlT g.2.2.2.1 g.2.2.2.2.1 g.2.2.2.2.2 K)) from c1) (by omega) (Or.inl rfl) (Nat.zero_le _) (by omega)
    obtain ⟨q3, a3, b3, c3⟩ := nstep (lo := 0) (hi := n - 1) (v := g.2.2.1) (x := 32) (show Rs c ln _ (num g.2.2.1 ++ 32 :: (digs g.2.2.2.1 ++ (num g.2.2.2.2.1 ++ (num g.2.2.2.2.2 ++ 59 :: K)))) from c2) (by omega) (Or.inl rfl) (Nat.zero_le _) (by omega)
    rw [a2, a3]
    exact rd_dl c3 g4 g5 g6
  · rw [if_neg h5] at c1
    rw [if_pos (by omega)]
    obtain ⟨q2, a2, b2, c2⟩ := nstep (lo := 0) (hi := n - 1) (v := g.2.1) (x := 32) (show Rs c ln _ (num g.2.1 ++ 32 :: (digs g.2.2.2.1 ++ (num g.2.2.2.2.1 ++ (num g.2.2.2.2.2 ++ 59 :: K)))) from c1) (by omega) (Or.inl rfl) (Nat.zero_le _) (by omega)
    rw [a2]
    exact rd_dl c2 g4 g5 g6
def gasOK : Nat → List GA → Prop
  | _, [] => True
  | n, g :: r => gaOK n g ∧ gasOK (n + 1) r
theorem rd_gas {c : Nat → Nat} {ln : Nat} {K : List Nat} : ∀ (gas : List GA) (n p : Nat) (Z : ZT), gas.length < n → gasOK (cI Z.1 + cG Z.1) gas → cI Z.1 + cG Z.1 + gas.length < 1000 → Rs c ln p (gasT gas (wPur ++ 32 :: K)) →
    ∃ q Z2, gaL c ln n (sT c ln p) Z = (sT c ln q, Z2) ∧ Rs c ln q (wPur ++ 32 :: K) ∧ cI Z2.1 = cI Z.1 ∧ cG Z2.1 = cG Z.1 + gas.length ∧ sameH Z Z2
  | [], 0, p, Z, h1, _, _, _ => absurd h1 (by simp)
  | [], n + 1, p, Z, h1, h2, h3, h4 => by
    obtain ⟨q1, a1, b1, c1⟩ := wstep (w := wPur) (by decide) h4 (Or.inl rfl)
    refine ⟨p, Z, ?_, h4, rfl, rfl, rfl, rfl, rfl⟩
    unfold gaL
    rw [b1 139055, if_neg (by decide)]
  | x :: r, 0, p, Z, h1, _, _, _ => absurd h1 (by simp)
  | x :: r, n + 1, p, Z, h1, h2, h3, h4 => by
    obtain ⟨x1, x2⟩ := h2
    have h4 : Rs c ln p (wGat ++ (32 :: wKi x.1 ++ (num x.2.1 ++ (if x.1 < 5 then num x.2.2.1 ++ dlT x.2.2.2.1 x.2.2.2.2.1 x.2.2.2.2.2 (gasT r (wPur ++ 32 :: K)) else dlT x.2.2.2.1 x.2.2.2.2.1 x.2.2.2.2.2 (gasT r (wPur ++ 32 :: K)))))) := h4
    obtain ⟨q1, a1, b1, c1⟩ := wstep (w := wGat) (by decide) (show Rs c ln p (wGat ++ 32 :: (wKi x.1 ++ (num x.2.1 ++ (if x.1 < 5 then num x.2.2.1 ++ dlT x.2.2.2.1 x.2.2.2.2.1 x.2.2.2.2.2 (gasT r (wPur ++ 32 :: K)) else dlT x.2.2.2.1 x.2.2.2.2.1 x.2.2.2.2.2 (gasT r (wPur ++ 32 :: K)))))) from h4) (Or.inl rfl)
    have hlen : (x :: r).length = r.length + 1 := rfl
    obtain ⟨q2, a2, c2⟩ := rd_gate (K := gasT r (wPur ++ 32 :: K)) x1 (by omega) c1
    have hn : n ≠ 0 := by
      intro z
      subst z
      omega
    have e1 : rdGS c ln (sT c ln q1) Z = sT c ln q2 := a2
    have e2 : rdGZ c ln (sT c ln q1) Z = qZ c ln (sT c ln q1) Z := by
      unfold rdGZ
      rw [e1, if_pos sT_er]
    have eI : cI (qZ c ln (sT c ln q1) Z).1 = cI Z.1 := rfl
    have eG : cG (qZ c ln (sT c ln q1) Z).1 = cG Z.1 + 1 := rfl
    obtain ⟨q3, Z3, a3, c3, d1, d2, d3⟩ := rd_gas r n q2 (qZ c ln (sT c ln q1) Z) (by omega) (by rw [eI, eG]; exact x2) (by rw [eI, eG]; omega) c2
    refine ⟨q3, Z3, ?_, c3, d1.trans eI, ?_, d3⟩
    · unfold gaL
      rw [b1 139055, if_pos (by decide), if_pos hn, a1, e1, e2]
      exact a3
    · rw [d2, eG]
      omega
/-- the whole text -/
def txtT (H l R F : Nat) (ins : List (Nat × List Nat)) (gas : List GA) (a b c : Nat) : List Nat := headT H l R F (insT ins (gasT gas (puT a b c)))
/-- head and inputs -/
theorem rd_tA {c : Nat → Nat} {ln H l R F : Nat} {x : Nat × List Nat} {xr : List (Nat × List Nat)} {K : List Nat} (yH : 4 ≤ H ∧ H ≤ 60) (yl : 1 ≤ l ∧ l ≤ 20) (yR : R ≤ 9) (yF : F ≤ 99) (hi : xr.length + 1 ≤ 4) (hio : ∀ y ∈ x :: xr, inOK H y)
    (h : Rs c ln 0 (headT H l R F (insT (x :: xr) (wGat ++ 32 :: K)))) :
    ∃ q Z2, tA c ln (tS0 c ln) = (sT c ln q, Z2) ∧ Rs c ln q (wGat ++ 32 :: K) ∧ cI Z2.1 = xr.length + 1 ∧ cG Z2.1 = 0 ∧ cH Z2.1 = H ∧ cR Z2.1 = R ∧ cF Z2.1 = F := by
  obtain ⟨q1, a1, b1, c1⟩ := rd_head h yH yl yR yF
  have h4 : Rs c ln q1 (wInp ++ (num x.1 ++ flT x.2 (insT xr (wGat ++ 32 :: K)))) := c1
  obtain ⟨_, _, b9, _⟩ := wstep (w := wInp) (by decide) (show Rs c ln q1 (wInp ++ 32 :: (digs x.1 ++ flT x.2 (insT xr (wGat ++ 32 :: K)))) from h4) (Or.inl rfl)
  obtain ⟨q2, Z2, a2, c2, d1, d2, d3, d4, d5⟩ := rd_ins yH.2 (x :: xr) 5 q1 (hdZ H l R F) (by rw [List.length_cons]; omega) hio rfl c1
  refine ⟨q2, Z2, ?_, c2, ?_, d2, d3, d4, d5⟩
  · unfold tA
    rw [show tS0 c ln = sT c ln 0 from rfl, a1, b1]
    unfold inS
    rw [b9 5070782, if_pos (by decide)]
    exact a2
  · rw [d1, List.length_cons]
    exact Nat.zero_add _
/-- purses and end -/
theorem rd_tC {c : Nat → Nat} {ln p a b e : Nat} (ha : a < 1000) (hb : b < 1000) (he : e < 1000) (h : Rs c ln p (wPur ++ 32 :: (digs a ++ (num b ++ (num e ++ [59]))))) :
    puS c ln (sT c ln p) = sT c ln ln ∧ wdB c (sT c ln p) 241111072 = true := by
  obtain ⟨q4, a4, b4, c4⟩ := wstep (w := wPur) (by decide) h (Or.inl rfl)
  obtain ⟨q5, a5, b5, c5⟩ := nstep (lo := 0) (hi := 99999) (v := a) (x := 32) (show Rs c ln q4 (num a ++ 32 :: (digs b ++ (num e ++ [59]))) from c4) ha (Or.inl rfl) (Nat.zero_le _) (by omega)
  obtain ⟨q6, a6, b6, c6⟩ := nstep (lo := 0) (hi := 99999) (v := b) (x := 32) (show Rs c ln q5 (num b ++ 32 :: (digs e ++ [59])) from c5) hb (Or.inl rfl) (Nat.zero_le _) (by omega)
  obtain ⟨q7, a7, b7, c7⟩ := nstep (lo := 0) (hi := 99999) (v := e) (x := 59) (show Rs c ln q6 (num e ++ 59 :: []) from c6) he (Or.inr rfl) (Nat.zero_le _) (by omega)
  obtain ⟨q8, a8, c8⟩ := sstep c7
  have e8 : q8 = ln := c8.2
  have w : wdB c (sT c ln p) 241111072 = true := by rw [b4 241111072]; decide
  refine ⟨?_, w⟩
  unfold puS
  rw [if_pos w]
  unfold pD pC pB pA
  rw [a4, a5, a6, a7, a8, e8]
theorem rd_tB {c : Nat → Nat} {ln a b e q : Nat} {Z2 : ZT} {gas : List GA} (hg : gas.length ≤ 12) (hgo : gasOK (cI Z2.1 + cG Z2.1) gas) (h5 : cI Z2.1 + cG Z2.1 ≤ 20)
    (ha : a < 1000) (hb : b < 1000) (he : e < 1000) (eA : tA c ln (tS0 c ln) = (sT c ln q, Z2)) (h : Rs c ln q (gasT gas (wPur ++ 32 :: (digs a ++ (num b ++ (num e ++ [59])))))) :
    tS c ln (tS0 c ln) = sT c ln ln ∧ cI (tZ c ln (tS0 c ln)).1 = cI Z2.1 ∧ cG (tZ c ln (tS0 c ln)).1 = cG Z2.1 + gas.length ∧ sameH Z2 (tZ c ln (tS0 c ln)) := by
  obtain ⟨q3, Z3, a3, c3, f1, f2, f3⟩ := rd_gas gas 13 q Z2 (by omega) hgo (by omega) h
  obtain ⟨k1, k2⟩ := rd_tC ha hb he c3
  have eB : tB c ln (tS0 c ln) = (sT c ln q3, Z3) := by
    unfold tB
    rw [eA]
    exact a3
  have eC : tC c ln (tS0 c ln) = sT c ln ln := by
    unfold tC
    rw [eB]
    exact k1
  have eZ : tZ c ln (tS0 c ln) = (Z3.1, puR c ln (sT c ln q3) Z3.2) := by
    unfold tZ
    rw [eB]
    exact if_pos k2
  have en : enB (sT c ln ln) = true := by
    refine decide_eq_true ⟨rfl, ?_⟩
    show (tkN c ln ln).1 = 0
    rw [tk_end]
  rw [eZ]
  refine ⟨?_, f1, f2, f3⟩
  unfold tS
  rw [eC, if_pos en]
theorem gasT_c (g : GA) (gr : List GA) (P : List Nat) : ∃ K, gasT (g :: gr) P = wGat ++ 32 :: K := ⟨wKi g.1 ++ (num g.2.1 ++ (if g.1 < 5 then num g.2.2.1 ++ dlT g.2.2.2.1 g.2.2.2.2.1 g.2.2.2.2.2 (gasT gr P) else dlT g.2.2.2.1 g.2.2.2.2.1 g.2.2.2.2.2 (gasT gr P))), rfl⟩
theorem puT_c (a b e : Nat) : puT a b e = wPur ++ 32 :: (digs a ++ (num b ++ (num e ++ [59]))) := rfl
theorem rd_text {c : Nat → Nat} {ln H l R F a b e : Nat} {ins : List (Nat × List Nat)} {gas : List GA} (yH : 4 ≤ H ∧ H ≤ 60) (yl : 1 ≤ l ∧ l ≤ 20) (yR : R ≤ 9) (yF : F ≤ 99) (hi : 1 ≤ ins.length ∧ ins.length ≤ 4) (hio : ∀ x ∈ ins, inOK H x) (hg : 1 ≤ gas.length ∧ gas.length ≤ 12) (hgo : gasOK ins.length gas)
    (ha : a < 1000) (hb : b < 1000) (he : e < 1000) (h : Rs c ln 0 (txtT H l R F ins gas a b e)) :
    tS c ln (tS0 c ln) = sT c ln ln ∧ cI (tZ c ln (tS0 c ln)).1 = ins.length ∧ cG (tZ c ln (tS0 c ln)).1 = gas.length ∧ cH (tZ c ln (tS0 c ln)).1 = H ∧ cR (tZ c ln (tS0 c ln)).1 = R ∧ cF (tZ c ln (tS0 c ln)).1 = F := by
  match ins, gas, hi, hg, hio, hgo, h with
  | [], _, hi, _, _, _, _ => exact absurd hi.1 (by simp)
  | _ :: _, [], _, hg, _, _, _ => exact absurd hg.1 (by simp)
  | x :: xr, g :: gr, hi, hg, hio, hgo, h =>
    obtain ⟨K, eK⟩ := gasT_c g gr (puT a b e)
    have h1 : Rs c ln 0 (headT H l R F (insT (x :: xr) (wGat ++ 32 :: K))) := by rw [← eK]; exact h
    have hi2 : xr.length + 1 ≤ 4 := hi.2
    obtain ⟨q2, Z2, eA, c2, d1, d2, d3, d4, d5⟩ := rd_tA yH yl yR yF hi2 hio h1
    rw [← eK, puT_c] at c2
    have hgo2 : gasOK (cI Z2.1 + cG Z2.1) (g :: gr) := by
      rw [d1, d2]
      exact hgo
    obtain ⟨k1, k2, k3, k4, k5, k6⟩ := rd_tB hg.2 hgo2 (by omega) ha hb he eA c2
    refine ⟨k1, k2.trans d1, ?_, k4.trans d3, k5.trans d4, k6.trans d5⟩
    rw [k3, d2]
    exact Nat.zero_add _
end GT2
