abbrev pP : Type := Nat × Nat
section PP
variable {nv : Nat} {g : a_Gr} {z y : pP}
end PP
