/-! the reference's overlaps -/
section RO
variable {G : GD} {σ : Mem}
/-- what the reference's looking at three letters changes -/
def FY (σ τ : Mem) : Prop := τ.2 = σ.2 ∧ (∀ x, x ≠ 306 → x ≠ 309 → x ≠ 310 → τ.1 x = σ.1 x) ∧ ∀ c, c ≠ 6 → c ≠ 7 → τ.1 306 c = σ.1 306 c
theorem FY.refl : FY σ σ := ⟨rfl, fun _ _ _ _ => rfl, fun _ _ _ => rfl⟩
theorem FY.trans {τ υ : Mem} (h : FY σ τ) (k : FY τ υ) : FY σ υ := ⟨k.1.trans h.1, fun x h1 h2 h3 => (k.2.1 x h1 h2 h3).trans (h.2.1 x h1 h2 h3), fun c h1 h2 => (k.2.2 c h1 h2).trans (h.2.2 c h1 h2)⟩
end RO

