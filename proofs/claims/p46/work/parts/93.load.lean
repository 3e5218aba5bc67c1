/-! load -/
section LOAD
variable {I J : TI} {L M : TL} {b d B : Nat} {X : XT}
/-- another row, alike at 241 places -/
def rowX (X : XT) (r : RW) : XT := (xC X, r, X.2.2)
theorem ci_row {r : RW} (h : CI I L b d X) (hV : XV X B) (e : rq (xr X) r) : CI I L b d (rowX X r) := by
  obtain ⟨h1, h2, h3⟩ := h
  exact ⟨h1, h2.st hV.1 (fun k a c => e k (by omega)) (h2.2.1.cg hV.1 hV.2.1 e) (fun _ _ _ _ => ⟨rfl, rfl⟩), h3⟩
theorem xv_row {r : RW} (hV : XV X B) (e : rq (xr X) r) : XV (rowX X r) B := ⟨hV.1, hV.2.1.cg hV.1 e, hV.2.2⟩
/-- buffer, error, text anew, and whatever the draft holds -/
theorem ci_io2 (h : CI I L b d X) (hV : XV X B) {f : Nat × (Nat → Nat)} {e : Int32} {l : Nat × (Nat → Int32)} (eI : ∀ q, q < 436 → q ≠ 0 → (q < 344 ∨ 351 < q) → (q < d ∨ d + 41 < q) → J q = I q) (e2 : ∀ q, q < 436 → (q < d ∨ d + 41 < q) → M q = L q) (h7 : J 0 7 = nI f.1) (hb : ∀ i, i < f.1 → J 350 i = (nI (f.2 i)).toInt8.toInt32) (h9 : J 0 9 = e) (h8 : J 0 8 = nI l.1) (ht : ∀ i, i < l.1 → J 351 i = l.2 i) : CI J M b d (ioX X f e l) := by
  obtain ⟨h1, h2, ⟨h3, nx, h4, h5, h6⟩, hs, -⟩ := h
  have hbl := bn_lt h1.1
  have hdl := bn_lt h1.2.1
  have hsep : b + 41 < d ∨ d + 41 < b := by
    obtain ⟨q1, q2, q3⟩ := h1
    rcases q1 with rfl | rfl <;> rcases q2 with rfl | rfl <;> omega
  refine ⟨h1, h2.fr hV.2.1.2.2.1 (fun k a c => eI k (by omega) (by omega) (by omega) (by omega)) (fun k a c => e2 k (by omega) (by omega)), ⟨by rw [eI 1 (by omega) (by omega) (by omega) (by omega)]; exact h3, nx, h4, by rw [eI 1 (by omega) (by omega) (by omega) (by omega)]; exact h5, fun j hj => ?_⟩, ⟨fun q => by rw [eI 1 (by omega) (by omega) (by omega) (by omega)]; exact hs.1 q, fun s hs2 => ?_⟩, ⟨h7, hb⟩, h9, h8, ht⟩
  · have hm : (nx + 10 - xk X + j) % 10 < 10 := Nat.mod_lt _ (by omega)
    have hm2 : (nx + 10 - xk X + j) % 10 ≤ 9 := by omega
    exact (h6 j hj).fr (hV.2.2.1.2 j hj).2.2.1 (fun k a c => eI k (by omega) (by omega) (by omega) (by omega)) (fun k a c => e2 k (by omega) (by omega))
  · rw [eI 1 (by omega) (by omega) (by omega) (by omega)]
    exact ⟨(hs.2 s hs2).1, (hs.2 s hs2).2.fr (hV.2.2.2.1 s hs2).2.2.1 (fun k a c => eI k (by omega) (by omega) (by omega) (by omega)) (fun k a c => e2 k (by omega) (by omega))⟩
def ldX (X : XT) (Z : ZT) (r : RW) (e : Int32) : XT := (Z.1, r, (0, xh X), none, (0, xb X), e, X.2.2.2.2.2.2)
end LOAD
