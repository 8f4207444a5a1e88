/-! whether it is a group: the reference's answer -/
section RL
variable {G : GD} {σ : Mem}
def FZ (σ τ : Mem) : Prop := τ.2 = σ.2 ∧ (∀ x, x ≠ 306 → x ≠ 309 → x ≠ 310 → τ.1 x = σ.1 x) ∧ ∀ c, c ≠ 6 → c ≠ 7 → c ≠ 10 → τ.1 306 c = σ.1 306 c
theorem FZ.refl : FZ σ σ := ⟨rfl, fun _ _ _ _ => rfl, fun _ _ _ _ => rfl⟩
theorem FZ.trans {τ υ : Mem} (h : FZ σ τ) (k : FZ τ υ) : FZ σ υ := ⟨k.1.trans h.1, fun x h1 h2 h3 => (k.2.1 x h1 h2 h3).trans (h.2.1 x h1 h2 h3), fun c h1 h2 h3 => (k.2.2 c h1 h2 h3).trans (h.2.2 c h1 h2 h3)⟩
end RL

