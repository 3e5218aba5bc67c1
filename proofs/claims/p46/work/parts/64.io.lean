/-! buffer, error, text; format, formattedByte -/
section IO
variable {I J : TI} {L M : TL} {b d B : Nat} {X : XT}
def ioX (X : XT) (f : Nat × (Nat → Nat)) (e : Int32) (l : Nat × (Nat → Int32)) : XT := (X.1, X.2.1, X.2.2.1, X.2.2.2.1, f, e, l)
theorem ioX_V (h : XV X B) {f : Nat × (Nat → Nat)} {e : Int32} {l : Nat × (Nat → Int32)} (hf : f.1 ≤ 600 ∧ ∀ i, i < f.1 → f.2 i < 256) (hl : l.1 ≤ 61) : XV (ioX X f e l) B := ⟨h.1, h.2.1, h.2.2.1, h.2.2.2.1, hf, hl⟩
theorem CI.io (h : CI I L b d X) (hV : XV X B) {f : Nat × (Nat → Nat)} {e : Int32} {l : Nat × (Nat → Int32)} (eI : ∀ q, q < 436 → q ≠ 0 → (q < 344 ∨ 351 < q) → J q = I q) (e2 : ∀ q, q < 436 → M q = L q) (h7 : J 0 7 = nI f.1) (hb : ∀ i, i < f.1 → J 350 i = (nI (f.2 i)).toInt8.toInt32) (h9 : J 0 9 = e) (h8 : J 0 8 = nI l.1) (ht : ∀ i, i < l.1 → J 351 i = l.2 i) : CI J M b d (ioX X f e l) := by
  obtain ⟨h1, h2, ⟨h3, nx, h4, h5, h6⟩, hs, -⟩ := h
  have hbl := bn_lt h1.1
  refine ⟨h1, h2.fr hV.2.1.2.2.1 (fun k a c => eI k (by omega) (by omega) (by omega)) (fun k a c => e2 k (by omega)), ⟨by rw [eI 1 (by omega) (by omega) (by omega)]; exact h3, nx, h4, by rw [eI 1 (by omega) (by omega) (by omega)]; exact h5, fun j hj => ?_⟩, ⟨fun q => by rw [eI 1 (by omega) (by omega) (by omega)]; exact hs.1 q, fun s hs2 => ?_⟩, ⟨h7, hb⟩, h9, h8, ht⟩
  · have hm : (nx + 10 - xk X + j) % 10 < 10 := Nat.mod_lt _ (by omega)
    have hm2 : (nx + 10 - xk X + j) % 10 ≤ 9 := by omega
    exact (h6 j hj).fr (hV.2.2.1.2 j hj).2.2.1 (fun k a c => eI k (by omega) (by omega) (by omega)) (fun k a c => e2 k (by omega))
  · rw [eI 1 (by omega) (by omega) (by omega)]
    exact ⟨(hs.2 s hs2).1, (hs.2 s hs2).2.fr (hV.2.2.2.1 s hs2).2.2.1 (fun k a c => eI k (by omega) (by omega) (by omega)) (fun k a c => e2 k (by omega))⟩
/-- the sign of a time -/
def sgF (C : CQ) (r : RW) (n w t : Nat) : Int32 := if w = 0 then (if stF C r n t = 1 then (if bw (wvF C r w n) t = true then 104 else 108) else if stF C r n t = 2 then (if bw (wvF C r w n) t = true then 72 else 76) else (if bw (wvF C r w n) t = true then 49 else 48)) else (if bw (wvF C r w n) t = true then 49 else 48)
def cvb (x : Int32) : Int32 := (x.toInt8.toInt32).toInt8.toInt32
end IO
