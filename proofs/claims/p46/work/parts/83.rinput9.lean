/-! the reference reads the inputs -/
section RINPUTS9
variable {I J : TI} {L M : TL}
theorem rdWave_1 {c : Nat → Nat} {ln H : Nat} {S : PS} : (rdWave c ln H S).1 = (wvL c ln H 61 (wv0 c H S) 0 (takeN c ln 0 1 S)).1 := rfl
theorem rdWave_2 {c : Nat → Nat} {ln H : Nat} {S : PS} : (rdWave c ln H S).2 = takeS c ln 59 (wvL c ln H 61 (wv0 c H S) 0 (takeN c ln 0 1 S)).2 := rfl
end RINPUTS9
