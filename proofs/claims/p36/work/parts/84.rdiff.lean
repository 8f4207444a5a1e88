/-! the reference's differences -/
section RD
variable {G : GD} {σ : Mem}
/-- what differences change -/
def FDf (σ τ : Mem) (m : Nat) : Prop := (∀ x, x ≠ 316 → τ.1 x = σ.1 x) ∧ (∀ p, p < m → τ.1 316 p = σ.1 316 p) ∧ ∀ x, x ≠ 313 → τ.2 x = σ.2 x
theorem FDf.refl {m : Nat} : FDf σ σ m := ⟨fun _ _ => rfl, fun _ _ => rfl, fun _ _ => rfl⟩
theorem FDf.trans {τ υ : Mem} {m : Nat} (h : FDf σ τ m) (k : FDf τ υ m) : FDf σ υ m := ⟨fun x hx => (k.1 x hx).trans (h.1 x hx), fun p hp => (k.2.1 p hp).trans (h.2.1 p hp), fun x hx => (k.2.2 x hx).trans (h.2.2 x hx)⟩
theorem FDf.mono {τ : Mem} {m m' : Nat} (h : FDf σ τ m) (hm : m' ≤ m) : FDf σ τ m' := ⟨h.1, fun p hp => h.2.1 p (by omega), h.2.2⟩
end RD

