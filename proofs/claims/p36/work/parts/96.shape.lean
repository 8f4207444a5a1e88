/-! the shape of a polynomial -/
section SH
variable {σ : Mem} {G : GD}
def HB (G : GD) (e : List Nat) : Prop := ∃ i, i < gn G ∧ e.getD i 0 ≠ 0 ∧ e.getD (gn G + i) 0 ≠ 0
noncomputable def hb (G : GD) (e : List Nat) : Bool := @decide (HB G e) (Classical.propDecidable _)
section CS
variable {k : Nat} {T : List (List Nat)}
end CS
section RS
variable {k : Nat} {T : List (List Nat)}
end RS
/-! the shape, told by both -/
section SO
end SO
end SH

