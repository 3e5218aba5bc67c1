/-! the reference reads a gate, whole -/
section RGATES9
variable {I J : TI} {L M : TL}
end RGATES9
