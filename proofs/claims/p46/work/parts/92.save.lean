/-! the reference lays its bench aside, and back -/
section SAVE
variable {I J : TI} {L M : TL}
end SAVE
