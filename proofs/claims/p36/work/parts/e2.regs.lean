/-! register: what it is, by simple questions -/
section RG1
variable {σ : Mem} {G : GD}
theorem c_bitB {b : Bool} : f_X10_bit σ b = some (if b = true then 1 else 0) := by
  unfold f_X10_bit
  split <;> rfl
/-! roots -/
/-! registers that are the same -/
end RG1

