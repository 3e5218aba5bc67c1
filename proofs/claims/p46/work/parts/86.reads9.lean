/-! the reference reads gates, purses, the end: the whole text -/
section READS9
variable {I J : TI} {L M : TL}
def enF (S : PS) : PS := if enB S = true then S else failF 1 S
theorem gaL_s {c : Nat → Nat} {ln n : Nat} {S : PS} {Z : ZT} : gaL c ln (n + 1) S Z = if wdB c S 139055 = true then (if n ≠ 0 then gaL c ln n (rdGS c ln (advF c ln S) Z) (rdGZ c ln (advF c ln S) Z) else gaL c ln n (failF 3 S) Z) else (S, Z) := rfl
end READS9
