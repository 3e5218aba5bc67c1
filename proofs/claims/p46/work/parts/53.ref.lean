section IMS
variable {I J : TI} {L M : TL} {B : Nat} {X : XT} {K : TI → TL → Prop}
end IMS
