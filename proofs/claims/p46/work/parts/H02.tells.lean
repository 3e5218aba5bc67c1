/-! the law tells the class its bench -/
section HT
variable {I J : TI} {L M : TL} {b d t B : Nat} {X : XT} {G : GT}
theorem headT_app (H l R F : Nat) (K K2 : List Nat) : headT H l R F K ++ K2 = headT H l R F (K ++ K2) := by simp [headT]
theorem flT_app : ∀ (fl K K2 : List Nat), flT fl K ++ K2 = flT fl (K ++ K2)
  | [], K, K2 => rfl
  | a :: r, K, K2 => by show num a ++ flT r K ++ K2 = num a ++ flT r (K ++ K2); rw [List.append_assoc, flT_app r K K2]
theorem insT_app : ∀ (ins : List (Nat × List Nat)) (K K2 : List Nat), insT ins K ++ K2 = insT ins (K ++ K2)
  | [], K, K2 => rfl
  | x :: r, K, K2 => by
    show wInp ++ (num x.1 ++ flT x.2 (insT r K)) ++ K2 = wInp ++ (num x.1 ++ flT x.2 (insT r (K ++ K2)))
    rw [List.append_assoc, List.append_assoc, flT_app, insT_app r K K2]
theorem insT_snoc (x : Nat × List Nat) (K : List Nat) : ∀ (ins : List (Nat × List Nat)), insT (ins ++ [x]) K = insT ins (inT x.1 x.2 K)
  | [] => rfl
  | y :: r => by
    show inT y.1 y.2 (insT (r ++ [x]) K) = inT y.1 y.2 (insT r (inT x.1 x.2 K))
    rw [insT_snoc x K r]
theorem gaT_app (g : GA) (K K2 : List Nat) : gaT g K ++ K2 = gaT g (K ++ K2) := by
  unfold gaT dlT
  split <;> simp
theorem gasT_app : ∀ (gas : List GA) (K K2 : List Nat), gasT gas K ++ K2 = gasT gas (K ++ K2)
  | [], K, K2 => rfl
  | x :: r, K, K2 => by
    show gaT x (gasT r K) ++ K2 = gaT x (gasT r (K ++ K2))
    rw [gaT_app, gasT_app r K K2]
theorem gasT_snoc (x : GA) (K : List Nat) : ∀ (gas : List GA), gasT (gas ++ [x]) K = gasT gas (gaT x K)
  | [] => rfl
  | y :: r => by
    show gaT y (gasT (r ++ [x]) K) = gaT y (gasT r (gaT x K))
    rw [gasT_snoc x K r]
theorem gasOK_snoc (x : GA) : ∀ (gas : List GA) (n : Nat), gasOK n gas → gaOK (n + gas.length) x → gasOK n (gas ++ [x])
  | [], n, _, h => ⟨h, trivial⟩
  | y :: r, n, h1, h2 => ⟨h1.1, gasOK_snoc x r (n + 1) h1.2 (by rw [List.length_cons] at h2; rw [show n + 1 + r.length = n + (r.length + 1) by omega]; exact h2)⟩
def flN : List Nat → List Nat
  | [] => []
  | a :: r => num a ++ flN r
theorem flN_T : ∀ (fl K : List Nat), flT fl K = flN fl ++ 59 :: K
  | [], K => rfl
  | a :: r, K => by show num a ++ flT r K = num a ++ flN r ++ 59 :: K; rw [flN_T r K, List.append_assoc]
theorem flN_snoc (a : Nat) : ∀ fl, flN (fl ++ [a]) = flN fl ++ num a
  | [] => by show num a ++ [] = [] ++ num a; simp
  | x :: r => by show num x ++ flN (r ++ [a]) = num x ++ flN r ++ num a; rw [flN_snoc a r, List.append_assoc]
/-- the last flip -/
def lsT : Nat → List Nat → Nat
  | last, [] => last
  | _, a :: r => lsT a r
theorem flOK_snoc {H a : Nat} : ∀ (fl : List Nat) (last : Nat), flOK H last fl → lsT last fl < a → a ≤ H → flOK H last (fl ++ [a])
  | [], last, _, h2, h3 => ⟨h2, h3, trivial⟩
  | x :: r, last, h1, h2, h3 => ⟨h1.1, h1.2.1, flOK_snoc r x h1.2.2 h2 h3⟩
theorem lsT_snoc {a : Nat} : ∀ (fl : List Nat) (last : Nat), lsT last (fl ++ [a]) = a
  | [], _ => rfl
  | x :: r, _ => lsT_snoc r x
/-- the law's fields -/
def FS (I : TI) (H i g R F : Nat) : Prop := I 436 2 = nI H ∧ I 436 3 = nI i ∧ I 436 4 = nI g ∧ I 436 5 = nI R ∧ I 436 6 = nI F
theorem FS.wo {H i g R F : Nat} (h : FS I H i g R F) (o : ∀ j, j ≠ 1 → J 436 j = I 436 j) : FS J H i g R F := by
  unfold FS
  rw [o 2 (by decide), o 3 (by decide), o 4 (by decide), o 5 (by decide), o 6 (by decide)]
  exact h
theorem INV.wo (h : INV I L b d X B) (o : WO I J) : INV J L b d X B := h.low (fun k hk => o.1 k (by omega) (by omega)) (fun _ _ => rfl)
theorem s_cell {Q : Int32 → Prop} {x : Int32} {k : Nat} (hL : gL G ≤ 260) (hx : x = nI k) (hk : k < 1000) (q : ∀ m, m < 2 ^ 30 → Q (nI m)) : W_L_cell G x I L Q := by
  subst hx
  unfold W_L_cell
  refine ⟨fun _ => q 0 (by omega), fun e => ?_⟩
  have hlt : k < gL G := by
    rcases Nat.lt_or_ge k (gL G) with z | z
    · exact z
    · exact absurd (nI_le z (by omega)) e
  refine ⟨pk_in k _ hlt rfl, ?_⟩
  obtain ⟨j, hj, e2⟩ := pk_andE (gx G (nI k).toNatClampNeg) (m := 1073741823) 30 (by decide)
  rw [e2]
  exact q j hj
theorem rem_n {a n : Nat} (ha : a < 2 ^ 31) (h0 : 0 < n) (hn : n < 2 ^ 31) : remI (nI a) (nI n) = nI (a % n) := pk_rem ha h0 hn
theorem div_n {a n : Nat} (ha : a < 2 ^ 31) (h0 : 0 < n) (hn : n < 2 ^ 31) : nI a / nI n = nI (a / n) := pk_div ha h0 hn
theorem s_dl {Q : TI → Prop} {c : Nat} {T : List Nat} (hc : c < 2 ^ 30) (h : TW I T) (hl : T.length + 7 ≤ 600) (k : ∀ J, TW J (T ++ dlT (1 + c / 1001 % 5) (1 + c / 5005 % 5) (1 + c / 25025 % 3) []) → WO I J → Q J) : B_L_gate_38 (nI c) I L Q := by
  have h1 : c / 1001 % 5 < 5 := Nat.mod_lt _ (by omega)
  have h2 : c / 5005 % 5 < 5 := Nat.mod_lt _ (by omega)
  have h3 : c / 25025 % 3 < 3 := Nat.mod_lt _ (by omega)
  have dl1 : c / 1001 ≤ c := Nat.div_le_self _ _
  have dl2 : c / 5005 ≤ c := Nat.div_le_self _ _
  have dl3 : c / 25025 ≤ c := Nat.div_le_self _ _
  have e1 : (1 : Int32) + remI (nI c / 1001) 5 = nI (1 + c / 1001 % 5) := by
    rw [show nI c / 1001 = nI (c / 1001) from div_n (n := 1001) (by omega) (by omega) (by omega), show remI (nI (c / 1001)) 5 = nI (c / 1001 % 5) from rem_n (n := 5) (by omega) (by omega) (by omega)]
    exact nI_add 1 _
  have e2 : (1 : Int32) + remI (nI c / 5005) 5 = nI (1 + c / 5005 % 5) := by
    rw [show nI c / 5005 = nI (c / 5005) from div_n (n := 5005) (by omega) (by omega) (by omega), show remI (nI (c / 5005)) 5 = nI (c / 5005 % 5) from rem_n (n := 5) (by omega) (by omega) (by omega)]
    exact nI_add 1 _
  have e3 : (1 : Int32) + remI (nI c / 25025) 3 = nI (1 + c / 25025 % 3) := by
    rw [show nI c / 25025 = nI (c / 25025) from div_n (n := 25025) (by omega) (by omega) (by omega), show remI (nI (c / 25025)) 3 = nI (c / 25025 % 3) from rem_n (n := 3) (by omega) (by omega) (by omega)]
    exact nI_add 1 _
  obtain ⟨x, hx⟩ : ∃ x, x = 1 + c / 1001 % 5 := ⟨_, rfl⟩
  obtain ⟨y, hy⟩ : ∃ y, y = 1 + c / 5005 % 5 := ⟨_, rfl⟩
  obtain ⟨z, hz⟩ : ∃ z, z = 1 + c / 25025 % 3 := ⟨_, rfl⟩
  rw [← hx] at e1 k
  rw [← hy] at e2 k
  rw [← hz] at e3 k
  have lx := num_10 (v := x) (by omega)
  have ly := num_10 (v := y) (by omega)
  have lz := num_10 (v := z) (by omega)
  unfold B_L_gate_38
  refine s_spaced e1 (by omega) h (by omega) (fun J1 t1 o1 => ?_)
  refine s_spaced e2 (by omega) t1 (by simp only [List.length_append]; omega) (fun J2 t2 o2 => ?_)
  refine s_spaced e3 (by omega) t2 (by simp only [List.length_append]; omega) (fun J3 t3 o3 => ?_)
  refine s_writes (pl := 13) c_sem rfl t3 (by simp only [List.length_append, List.length_cons, List.length_nil]; omega) (fun J4 t4 o4 => k J4 ?_ (((o1.tr o2).tr o3).tr o4))
  have : T ++ num x ++ num y ++ num z ++ [59] = T ++ dlT x y z [] := by simp [dlT]
  rw [← this]
  exact t4
def gaF (c n : Nat) : GA := (c % 7, c / 7 % n, c / 91 % n, 1 + c / 1001 % 5, 1 + c / 5005 % 5, 1 + c / 25025 % 3)
theorem gaF_ok {c n : Nat} (hn : 0 < n) : gaOK n (gaF c n) := ⟨Nat.mod_lt _ (by omega), Nat.mod_lt _ hn, Nat.mod_lt _ hn, ⟨by show 1 ≤ 1 + c / 1001 % 5; omega, by show 1 + c / 1001 % 5 ≤ 9; omega⟩, ⟨by show 1 ≤ 1 + c / 5005 % 5; omega, by show 1 + c / 5005 % 5 ≤ 9; omega⟩, ⟨by show 1 ≤ 1 + c / 25025 % 3; omega, by show 1 + c / 25025 % 3 ≤ 9; omega⟩⟩
theorem wKi_len : ∀ k, k < 7 → (wGat ++ 32 :: wKi k).length ≤ 9 := by decide +kernel
theorem dlT_len {x y z : Nat} (hx : x < 10) (hy : y < 10) (hz : z < 10) : (dlT x y z []).length = 7 := by
  have lx := num_10 hx
  have ly := num_10 hy
  have lz := num_10 hz
  unfold dlT
  simp only [List.length_append, List.length_cons, List.length_nil]
  omega
theorem gaF_len {c n : Nat} (hn : 0 < n) (hn2 : n ≤ 10) : (gaT (gaF c n) []).length ≤ 20 := by
  have w := wKi_len (c % 7) (Nat.mod_lt _ (by omega))
  have h1 : c / 7 % n < n := Nat.mod_lt _ hn
  have h2 : c / 91 % n < n := Nat.mod_lt _ hn
  have l1 := num_10 (v := c / 7 % n) (by omega)
  have l2 := num_10 (v := c / 91 % n) (by omega)
  have l3 := dlT_len (x := 1 + c / 1001 % 5) (y := 1 + c / 5005 % 5) (z := 1 + c / 25025 % 3) (by omega) (by omega) (by omega)
  rw [List.length_append, List.length_cons] at w
  show (wGat ++ (32 :: wKi (c % 7) ++ (num (c / 7 % n) ++ (if c % 7 < 5 then num (c / 91 % n) ++ dlT (1 + c / 1001 % 5) (1 + c / 5005 % 5) (1 + c / 25025 % 3) [] else dlT (1 + c / 1001 % 5) (1 + c / 5005 % 5) (1 + c / 25025 % 3) [])))).length ≤ 20
  split
  · simp only [List.length_append, List.length_cons]
    omega
  · simp only [List.length_append, List.length_cons]
    omega
theorem s_gate {Q : TI → Prop} {x y : Int32} {c n : Nat} {T : List Nat} (hx : x = nI c) (hc : c < 2 ^ 30) (hy : y = nI n) (hn : 0 < n) (hn2 : n ≤ 10) (h : TW I T) (hl : T.length + 20 ≤ 600) (k : ∀ J, TW J (T ++ gaT (gaF c n) []) → WO I J → Q J) : W_L_gate x y I L Q := by
  subst hx
  subst hy
  have w := wKi_len (c % 7) (Nat.mod_lt _ (by omega))
  have h1 : c / 7 % n < n := Nat.mod_lt _ hn
  have h2 : c / 91 % n < n := Nat.mod_lt _ hn
  have h7 : c % 7 < 7 := Nat.mod_lt _ (by omega)
  have l1 := num_10 (v := c / 7 % n) (by omega)
  have l2 := num_10 (v := c / 91 % n) (by omega)
  have dl1 : c / 7 ≤ c := Nat.div_le_self _ _
  have dl2 : c / 91 ≤ c := Nat.div_le_self _ _
  have e7 : remI (nI c) 7 = nI (c % 7) := rem_n (n := 7) (by omega) (by omega) (by omega)
  have e1 : remI (nI c / 7) (nI n) = nI (c / 7 % n) := by
    rw [show nI c / 7 = nI (c / 7) from div_n (n := 7) (by omega) (by omega) (by omega)]
    exact rem_n (by omega) hn (by omega)
  have e2 : remI (nI c / 91) (nI n) = nI (c / 91 % n) := by
    rw [show nI c / 91 = nI (c / 91) from div_n (n := 91) (by omega) (by omega) (by omega)]
    exact rem_n (by omega) hn (by omega)
  have n0 : ¬ nI n = 0 := nI_ne0 hn (by omega)
  unfold W_L_gate
  refine s_word e7 h7 ?_
  refine s_writes (c_gat _ h7) rfl h (by omega) (fun J1 t1 o1 => ⟨n0, ?_⟩)
  rw [List.length_append] at w
  refine s_spaced e1 (by omega) t1 (by simp only [List.length_append]; omega) (fun J2 t2 o2 => ?_)
  rw [e7]
  refine pk_le 5 (c % 7) (fun q => ?_) (fun q => ⟨n0, ?_⟩) rfl rfl (by omega) (by omega)
  · refine s_dl hc t2 (by simp only [List.length_append]; omega) (fun J3 t3 o3 => k J3 ?_ ((o1.tr o2).tr o3))
    have : T ++ (wGat ++ 32 :: wKi (c % 7)) ++ num (c / 7 % n) ++ dlT (1 + c / 1001 % 5) (1 + c / 5005 % 5) (1 + c / 25025 % 3) [] = T ++ gaT (gaF c n) [] := by
      unfold gaT gaF
      rw [if_neg (by show ¬ c % 7 < 5; omega)]
      simp
    rw [← this]
    exact t3
  · refine s_spaced e2 (by omega) t2 (by simp only [List.length_append]; omega) (fun J3 t3 o3 => ?_)
    refine s_dl hc t3 (by simp only [List.length_append]; omega) (fun J4 t4 o4 => k J4 ?_ (((o1.tr o2).tr o3).tr o4))
    have : T ++ (wGat ++ 32 :: wKi (c % 7)) ++ num (c / 7 % n) ++ num (c / 91 % n) ++ dlT (1 + c / 1001 % 5) (1 + c / 5005 % 5) (1 + c / 25025 % 3) [] = T ++ gaT (gaF c n) [] := by
      unfold gaT gaF
      rw [if_pos (by show c % 7 < 5; omega)]
      simp
    rw [← this]
    exact t4
theorem TW.wt {T : List Nat} (h : TW I T) : WT I T.length (fun i => T.getD i 0) := ⟨h.1, h.2.1, h.2.2⟩
end HT
