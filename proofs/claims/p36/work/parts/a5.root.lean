/-! root, set -/
section RTS
variable {σ : Mem} {G : GD}
theorem uV_el {R : Nat → Int} {k : Nat} {v : Int} (hR : ∀ i, -999 ≤ R i ∧ R i ≤ 999) (hv : -999 ≤ v ∧ v ≤ 999) : ∀ i, -999 ≤ uV R k v i ∧ uV R k v i ≤ 999 := fun i => by
  unfold uV
  split
  · exact hv
  · exact hR i
theorem isEl_small {A : Nat → Int} (h : ∀ i, -999 ≤ A i ∧ A i ≤ 999) : isEl G A = true := by
  unfold isEl
  rw [decide_eq_true_eq]
  intro k _
  have := h k
  have e1 : (-999 : Int64).toInt = -999 := by decide
  have e2 : (999 : Int64).toInt = 999 := by decide
  rw [Int64.le_iff_toInt_le, Int64.le_iff_toInt_le, oi_toInt (by omega) (by omega)]
  omega
end RTS

