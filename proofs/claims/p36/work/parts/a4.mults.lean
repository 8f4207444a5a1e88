/-! set, multiply, invert, power, commute, conjugate, root -/
section MLT
variable {σ : Mem} {G : GD}
theorem ns176 : notSum 176 := fun k hk => by omega
theorem nb {a : Bool} (h : ¬ a = true) : a = false := by cases a; rfl; exact absurd rfl h
end MLT

