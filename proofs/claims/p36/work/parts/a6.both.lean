/-! powers, associates, both -/
section BTH
variable {σ : Mem} {G : GD}
theorem areS_eq {A B : Nat → Int} (h : EqG G A B) : areS G A B = true := by
  unfold areS
  rw [decide_eq_true_eq]
  exact fun k hk => by rw [h k hk]
/-! the layer, the first difference -/
def Lay (G : GD) (A : Nat → Int) (r : Int32) : Prop := (∃ k, k < gn G ∧ (∀ p, p < k → oi (A p) = 0) ∧ oi (A k) ≠ 0 ∧ r = i32 (gw G k)) ∨ ((∀ k, k < gn G → oi (A k) = 0) ∧ r = i32 (topG G) + 1)
theorem Lay.congr {A B : Nat → Int} {r : Int32} (h : Lay G A r) (e : EqG G A B) : Lay G B r := by
  rcases h with ⟨i, h1, h2, h3, rfl⟩ | ⟨h1, rfl⟩
  · exact Or.inl ⟨i, h1, fun p hp => by rw [← e p (by omega)]; exact h2 p hp, by rw [← e i h1]; exact h3, rfl⟩
  · exact Or.inr ⟨fun k hk => by rw [← e k hk]; exact h1 k hk, rfl⟩
end BTH

