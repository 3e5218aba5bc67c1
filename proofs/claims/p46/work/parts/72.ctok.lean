/-! the class's questions to a token -/
section CTOK
variable {I J : TI} {L M : TL}
def hsG (a : Nat → Nat) : Nat → Nat
  | 0 => 0
  | n + 1 => 27 * hsG a n + a n
theorem hsF_G (c : Nat → Nat) (s : Nat) : ∀ n, hsF c s n = hsG (fun i => c (s + i) - 96) n
  | 0 => rfl
  | n + 1 => by
    show 27 * hsF c s n + (c (s + n) - 96) = 27 * hsG (fun i => c (s + i) - 96) n + (c (s + n) - 96)
    rw [hsF_G c s n]
theorem hsG_inj {a b : Nat → Nat} : ∀ n m, (∀ i, i < n → 1 ≤ a i ∧ a i ≤ 26) → (∀ i, i < m → 1 ≤ b i ∧ b i ≤ 26) → hsG a n = hsG b m → n = m ∧ ∀ i, i < n → a i = b i
  | 0, 0, _, _, _ => ⟨rfl, fun i hi => absurd hi (Nat.not_lt_zero i)⟩
  | 0, m + 1, _, h2, e => by
    have := h2 m (by omega)
    change 0 = 27 * hsG b m + b m at e
    omega
  | n + 1, 0, h1, _, e => by
    have := h1 n (by omega)
    change 27 * hsG a n + a n = 0 at e
    omega
  | n + 1, m + 1, h1, h2, e => by
    have a1 := h1 n (by omega)
    have a2 := h2 m (by omega)
    change 27 * hsG a n + a n = 27 * hsG b m + b m at e
    obtain ⟨r1, r2⟩ := hsG_inj n m (fun i hi => h1 i (by omega)) (fun i hi => h2 i (by omega)) (by omega)
    subst r1
    refine ⟨rfl, fun i hi => ?_⟩
    by_cases q : i = n
    · subst q
      omega
    · exact r2 i (by omega)
theorem hsG_cg {a b : Nat → Nat} : ∀ n, (∀ i, i < n → a i = b i) → hsG a n = hsG b n
  | 0, _ => rfl
  | n + 1, h => by
    show 27 * hsG a n + a n = 27 * hsG b n + b n
    rw [hsG_cg n (fun i hi => h i (by omega)), h n (by omega)]
def PX (c : Nat → Nat) (ln : Nat) (S : PS) : Prop := PV ln S ∧ (tk S = 1 → ∀ i, ts S ≤ i → i < te S → ltB c i = true)
theorem tkN_l {c : Nat → Nat} {ln p : Nat} (h : (tkN c ln p).1 = 1) : ∀ i, (tkN c ln p).2.1 ≤ i → i < (tkN c ln p).2.2 → ltB c i = true := by
  unfold tkN at *
  generalize runT (wsB c) ln p = s at *
  by_cases q : s < ln
  · rw [if_pos q] at h ⊢
    by_cases q1 : ltB c s = true
    · rw [if_pos q1]
      exact fun i a b => runT_all a b
    · rw [if_neg q1] at h ⊢
      by_cases q2 : dgB c s = true
      · rw [if_pos q2] at h
        have h : (2 : Nat) = 1 := h
        omega
      · rw [if_neg q2] at h
        have h : (3 : Nat) = 1 := h
        omega
  · rw [if_neg q] at h
    have h : (0 : Nat) = 1 := h
    omega
theorem PX.adv {c : Nat → Nat} {ln : Nat} {S : PS} (h : PX c ln S) : PX c ln (advF c ln S) := by
  refine ⟨advF_v h.1, ?_⟩
  unfold advF
  split
  · exact tkN_l
  · exact h.2
theorem PX.fail {c : Nat → Nat} {ln code : Nat} {S : PS} (h : PX c ln S) (hc : code ≤ 4) : PX c ln (failF code S) := by
  refine ⟨failF_v h.1 hc, ?_⟩
  unfold failF
  split
  · exact h.2
  · exact h.2
/-- the token is the word of a hash -/
def wdB (c : Nat → Nat) (S : PS) (w : Nat) : Bool := decide (er S = 0 ∧ tk S = 1 ∧ te S - ts S ≤ 10 ∧ hsF c (ts S) (te S - ts S) = w)
def schN (pl k : Nat) : Nat := (sch pl k).toNatClampNeg
def wOK (pl w : Nat) : Prop := pl < nJS ∧ lenJS.getD pl 0 ≤ 10 ∧ (∀ k, k < lenJS.getD pl 0 → 97 ≤ schN pl k ∧ schN pl k ≤ 122 ∧ sch pl k = nI (schN pl k)) ∧ hsG (fun k => schN pl k - 96) (lenJS.getD pl 0) = w
theorem c_isWord {Q : Int32 → Prop} {c : Nat → Nat} {ln : Nat} {S : PS} {pl w x : Nat} (hw : wOK pl w) (hx : x = 458 + pl) (hc : txV c ln) (h : TC I c ln S) (v : PX c ln S) (k1 : wdB c S w = true → Q 1) (k0 : wdB c S w = false → Q 0) : W_X7_isWord x I L 350 Q := by
  obtain ⟨⟨h1, h2, h3, h4, h5, h6, h7⟩, h8⟩ := h
  obtain ⟨⟨⟨v1, v2⟩, ⟨v3, v4⟩, v5⟩, v6⟩ := v
  obtain ⟨w1, w2, w3, w4⟩ := hw
  obtain ⟨hl, hc⟩ := hc
  have key : isW I 350 pl (ts S) (te S) ln ↔ wdB c S w = true := by
    unfold wdB isW
    rw [decide_eq_true_iff, h6, h4]
    have e0 : nI (er S) = 0 ↔ er S = 0 := nI_eq (b := 0) (by omega) (by omega)
    have e1 : nI (tk S) = 1 ↔ tk S = 1 := nI_eq (b := 1) (by omega) (by omega)
    rw [e0, e1]
    constructor
    · rintro ⟨a1, a2, a3, a4, a5⟩
      refine ⟨a1, a2, by omega, ?_⟩
      rw [a4, hsF_G, ← w4]
      refine hsG_cg _ (fun i hi => ?_)
      have b1 := a5 i hi
      rw [h8 (ts S + i) (by omega), (w3 i hi).2.2, sb_eq (hc _ (by omega)) (by have := (w3 i hi).2.1; omega)] at b1
      rw [b1]
    · rintro ⟨a1, a2, a3, a4⟩
      have al := v6 a2
      rw [hsF_G, ← w4] at a4
      have d1 : ∀ i, i < te S - ts S → 1 ≤ c (ts S + i) - 96 ∧ c (ts S + i) - 96 ≤ 26 := fun i hi => by
        have b2 := al (ts S + i) (by omega) (by omega)
        unfold ltB at b2
        have b3 := of_decide_eq_true b2
        omega
      have d2 : ∀ i, i < lenJS.getD pl 0 → 1 ≤ schN pl i - 96 ∧ schN pl i - 96 ≤ 26 := fun i hi => by
        have b4 := w3 i hi
        omega
      obtain ⟨r1, r2⟩ := hsG_inj _ _ d1 d2 a4
      refine ⟨a1, a2, v2, r1, fun i hi => ?_⟩
      have b1 : c (ts S + i) - 96 = schN pl i - 96 := r2 i (by omega)
      have b3 := d1 i (by omega)
      have b4 := w3 i hi
      have e : c (ts S + i) = schN pl i := by omega
      rw [h8 (ts S + i) (by omega), b4.2.2, sb_eq (hc _ (by omega)) (by omega)]
      exact e
  refine ⟨pl, ts S, te S, ln, hx, w1, h2, h3, h1, v1, by omega, hl, by omega, fun e => k1 (key.mp e), fun e => k0 ?_⟩
  cases y : wdB c S w with
  | true => exact absurd (key.mpr y) e
  | false => rfl
def takeW (c : Nat → Nat) (ln : Nat) (w : Nat) (S : PS) : PS := if wdB c S w = true then advF c ln S else advF c ln (failF 1 S)
theorem c_takeWord {Q : TI → Prop} {c : Nat → Nat} {ln : Nat} {S : PS} {pl w x : Nat} (hw : wOK pl w) (hx : x = 458 + pl) (hc : txV c ln) (h : TC I c ln S) (v : PX c ln S) (k : ∀ J, (∀ q, q ≠ 344 → J q = I q) → TC J c ln (takeW c ln w S) → Q J) : W_X7_takeWord x I L 350 Q := by
  unfold takeW at k
  unfold W_X7_takeWord B_X7_takeWord_13
  refine c_isWord hw hx hc h v (fun e => ⟨fun _ => c_adv hc h v.1 (fun J a b => k J a ?_), fun z => absurd z (by decide)⟩) (fun e => ⟨fun z => absurd rfl z, fun _ => c_fail (code := 1) h v.1 rfl (fun J a b => c_adv hc b (failF_v v.1 (by omega)) (fun J2 a2 b2 => k J2 (fun q hq => by rw [a2 q hq, a q hq]) ?_))⟩)
  · rw [if_pos e]
    exact b
  · rw [if_neg (by rw [e]; decide)]
    exact b2
/-- the token is a number -/
def nuB (S : PS) : Bool := decide (er S = 0 ∧ tk S = 2)
theorem c_isNumber {Q : Int32 → Prop} {c : Nat → Nat} {ln : Nat} {S : PS} (h : TC I c ln S) (v : PV ln S) (k1 : nuB S = true → Q 1) (k0 : nuB S = false → Q 0) : W_X7_isNumber I L Q := by
  unfold nuB at *
  have := v.2.1.1
  unfold W_X7_isNumber
  refine c_failed h v (fun e => ⟨fun z => absurd rfl z, fun _ => ?_⟩) (fun e => ⟨fun _ => k0 (decide_eq_false (fun z => e z.1)), fun z => absurd z (by decide)⟩)
  rw [h.1.2.2.2.1]
  have e1 : nI (tk S) = 2 ↔ tk S = 2 := nI_eq (b := 2) (by omega) (by omega)
  exact ⟨fun z => k0 (decide_eq_false (fun y => z (e1.mpr y.2))), fun z => k1 (decide_eq_true ⟨e, e1.mp z⟩)⟩
def inB (c : Nat → Nat) (lo hi : Nat) (S : PS) : Bool := decide (lo ≤ numF c S ∧ numF c S ≤ hi)
/-- the state behind a look at a number -/
def peekF (c : Nat → Nat) (lo hi : Nat) (S : PS) : PS := if nuB S = true then (if inB c lo hi S = true then S else failF 2 S) else failF 1 S
def peekV (c : Nat → Nat) (lo hi : Nat) (S : PS) : Nat := if er (peekF c lo hi S) = 0 then numF c S else lo
theorem failF_er {code : Nat} {S : PS} (hc : code ≠ 0) : er (failF code S) ≠ 0 := by
  unfold failF
  split
  · exact hc
  · assumption
theorem peekF_v {c : Nat → Nat} {ln lo hi : Nat} {S : PS} (v : PX c ln S) : PX c ln (peekF c lo hi S) := by
  unfold peekF
  split
  · split
    · exact v
    · exact v.fail (by omega)
  · exact v.fail (by omega)
theorem c_peek {Q : Int32 → TI → Prop} {c : Nat → Nat} {ln lo hi : Nat} {S : PS} {x y : Int32} (hx : x = nI lo) (hy : y = nI hi) (hlo : lo ≤ 1000000) (hhi : hi < 1000000) (h : TC I c ln S) (v : PX c ln S) (k : ∀ J, (∀ q, q ≠ 344 → J q = I q) → TC J c ln (peekF c lo hi S) → Q (nI (peekV c lo hi S)) J) : W_X7_peekNumber x y I L Q := by
  subst hx; subst hy
  unfold peekV at k
  -- behind a fault
  have bad : ∀ code, code ≠ 0 → code ≤ 4 → peekF c lo hi S = failF code S → W_X7_fail (nI code) I L (fun (I525 : TI) => B_X7_peekNumber_36 (nI lo) I525 L Q) := by
    intro code c0 c4 e
    refine c_fail h v.1 rfl (fun J a b => ?_)
    unfold B_X7_peekNumber_36
    refine c_failed b (failF_v v.1 c4) (fun z => absurd z (failF_er c0)) (fun z => ⟨fun y => absurd y (by decide), fun _ => ?_⟩)
    have := k J a (by rw [e]; exact b)
    rw [e, if_neg z] at this
    exact this
  unfold W_X7_peekNumber
  refine c_isNumber h v.1 (fun e => ⟨fun _ => ?_, fun z => absurd z (by decide)⟩) (fun e => ⟨fun z => absurd rfl z, fun _ => bad 1 (by decide) (by omega) ?_⟩)
  · have e' := e
    unfold nuB at e
    have e := of_decide_eq_true e
    rw [h.1.2.2.2.2.1 e.2]
    have out : ¬ (lo ≤ numF c S ∧ numF c S ≤ hi) → B_X7_peekNumber_31 (nI lo) I L Q := by
      intro z
      refine bad 2 (by decide) (by omega) ?_
      unfold peekF inB
      rw [if_pos e', decide_eq_false z, if_neg (by decide)]
    refine pk_lt (min (numF c S) 1000000) lo (fun q => out (by omega)) (fun q => pk_le _ hi (fun q2 => ?_) (fun q2 => out (by omega)) rfl rfl (by omega) (by omega)) rfl rfl (by omega) (by omega)
    have hin : lo ≤ numF c S ∧ numF c S ≤ hi := by omega
    have ep : peekF c lo hi S = S := by
      unfold peekF inB
      rw [if_pos e', decide_eq_true hin, if_pos rfl]
    unfold B_X7_peekNumber_36
    refine c_failed h v.1 (fun _ => ⟨fun _ => ?_, fun z => absurd rfl z⟩) (fun z => absurd e.1 z)
    have := k I (fun _ _ => rfl) (by rw [ep]; exact h)
    rw [ep, if_pos e.1] at this
    rw [h.1.2.2.2.2.1 e.2, Nat.min_eq_left (by omega)]
    exact this
  · unfold peekF
    rw [if_neg (by rw [e]; decide)]
def takeN (c : Nat → Nat) (ln lo hi : Nat) (S : PS) : PS := advF c ln (peekF c lo hi S)
theorem c_takeNumber {Q : Int32 → TI → Prop} {c : Nat → Nat} {ln lo hi : Nat} {S : PS} {x y : Int32} (hx : x = nI lo) (hy : y = nI hi) (hlo : lo ≤ 1000000) (hhi : hi < 1000000) (hc : txV c ln) (h : TC I c ln S) (v : PX c ln S) (k : ∀ J, (∀ q, q ≠ 344 → J q = I q) → TC J c ln (takeN c ln lo hi S) → Q (nI (peekV c lo hi S)) J) : W_X7_takeNumber x y I L 350 Q := by
  unfold W_X7_takeNumber
  exact c_peek hx hy hlo hhi h v (fun J a b => c_adv hc b (peekF_v v).1 (fun J2 a2 b2 => k J2 (fun q hq => by rw [a2 q hq, a q hq]) b2))
/-- the token is a sign -/
def sgB (c : Nat → Nat) (b : Nat) (S : PS) : Bool := decide (er S = 0 ∧ tk S = 3 ∧ c (ts S) = b)
theorem c_isSign {Q : Int32 → Prop} {c : Nat → Nat} {ln b : Nat} {S : PS} {x : Int32} (hx : x = nI b) (hb : b < 128) (hc : txV c ln) (h : TC I c ln S) (v : PV ln S) (k1 : sgB c b S = true → Q 1) (k0 : sgB c b S = false → Q 0) : W_X7_isSign x I L 350 Q := by
  subst hx
  unfold sgB at *
  obtain ⟨hl, hc⟩ := hc
  have := v.2.1.1
  unfold W_X7_isSign
  refine c_failed h v (fun e => ⟨fun z => absurd rfl z, fun _ => ?_⟩) (fun e => ⟨fun _ => k0 (decide_eq_false (fun z => e z.1)), fun z => absurd z (by decide)⟩)
  rw [h.1.2.2.2.1, h.1.1, h.1.2.1]
  have e1 : nI (tk S) = 3 ↔ tk S = 3 := nI_eq (b := 3) (by omega) (by omega)
  refine ⟨fun z => k0 (decide_eq_false (fun y => z (e1.mpr y.2.1))), fun z => ?_⟩
  have z3 := e1.mp z
  have hlt := v.2.1.2 (by omega)
  refine pk_le ln (ts S) (fun q => absurd hlt (by omega)) (fun q => ?_) rfl rfl (by omega) (by omega)
  rw [pk_cl (ts S) rfl (by omega), h.2 (ts S) hlt]
  have e2 := sb_eq (hc _ hlt) hb
  exact ⟨vp350 rfl (by omega), fun y => k0 (decide_eq_false (fun w => y (e2.mpr w.2.2))), fun y => k1 (decide_eq_true ⟨e, z3, e2.mp y⟩)⟩
def takeS (c : Nat → Nat) (ln b : Nat) (S : PS) : PS := if sgB c b S = true then advF c ln S else advF c ln (failF 1 S)
theorem c_takeSign {Q : TI → Prop} {c : Nat → Nat} {ln b : Nat} {S : PS} {x : Int32} (hx : x = nI b) (hb : b < 128) (hc : txV c ln) (h : TC I c ln S) (v : PX c ln S) (k : ∀ J, (∀ q, q ≠ 344 → J q = I q) → TC J c ln (takeS c ln b S) → Q J) : W_X7_takeSign x I L 350 Q := by
  unfold takeS at k
  unfold W_X7_takeSign B_X7_takeSign_13
  refine c_isSign hx hb hc h v.1 (fun e => ⟨fun _ => c_adv hc h v.1 (fun J a b => k J a ?_), fun z => absurd z (by decide)⟩) (fun e => ⟨fun z => absurd rfl z, fun _ => c_fail (code := 1) h v.1 rfl (fun J a b => c_adv hc b (failF_v v.1 (by omega)) (fun J2 a2 b2 => k J2 (fun q hq => by rw [a2 q hq, a q hq]) ?_))⟩)
  · rw [if_pos e]
    exact b
  · rw [if_neg (by rw [e]; decide)]
    exact b2
def enB (S : PS) : Bool := decide (er S = 0 ∧ tk S = 0)
theorem c_isEnd {Q : Int32 → Prop} {c : Nat → Nat} {ln : Nat} {S : PS} (h : TC I c ln S) (v : PV ln S) (k1 : enB S = true → Q 1) (k0 : enB S = false → Q 0) : W_X7_isEnd I L Q := by
  unfold enB at *
  have := v.2.1.1
  unfold W_X7_isEnd
  refine c_failed h v (fun e => ⟨fun z => absurd rfl z, fun _ => ?_⟩) (fun e => ⟨fun _ => k0 (decide_eq_false (fun z => e z.1)), fun z => absurd z (by decide)⟩)
  rw [h.1.2.2.2.1]
  have e1 : nI (tk S) = 0 ↔ tk S = 0 := nI_eq (b := 0) (by omega) (by omega)
  exact ⟨fun z => k0 (decide_eq_false (fun y => z (e1.mpr y.2))), fun z => k1 (decide_eq_true ⟨e, e1.mp z⟩)⟩
end CTOK
