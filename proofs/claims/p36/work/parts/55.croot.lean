/-! the class's roots -/
section CR
variable {G : GD} {σ : Mem}
theorem TbU.mono {t : Nat} {x x' : Nat → Int} {p q : Nat → Prop} (h : TbU G σ t x p) (hq : ∀ v, v < 12 → q v → p v ∧ x v = x' v) : TbU G σ t x' q := fun v hv hqv => by
  obtain ⟨h1, h2⟩ := hq v hv hqv
  rw [← h2]
  exact h v hv h1
theorem TbU.keep {P : Nat → Prop} {τ : Mem} {t : Nat} {x : Nat → Int} {p : Nat → Prop} (h : TbU G σ t x p) (ho : OL P σ τ) (hn : ¬ P t) : TbU G τ t x p := fun v hv hp => by rw [ho.2 t hn]; exact h v hv hp
end CR

