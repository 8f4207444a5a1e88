/-! the reference's exchange -/
section RE
variable {G : GD} {σ : Mem}
/-- what the reference's collecting changes -/
def FX (σ τ : Mem) : Prop := τ.2 = σ.2 ∧ (∀ x, x ≠ 306 → x ≠ 309 → τ.1 x = σ.1 x) ∧ ∀ c, c ≠ 6 → c ≠ 7 → τ.1 306 c = σ.1 306 c
theorem FX.refl : FX σ σ := ⟨rfl, fun _ _ _ => rfl, fun _ _ _ => rfl⟩
theorem FX.trans {τ υ : Mem} (h : FX σ τ) (k : FX τ υ) : FX σ υ := ⟨k.1.trans h.1, fun x h1 h2 => (k.2.1 x h1 h2).trans (h.2.1 x h1 h2), fun c h1 h2 => (k.2.2 c h1 h2).trans (h.2.2 c h1 h2)⟩
theorem twD_succ {j i d : Nat} : twD G j i (d + 1) = List.replicate (gt G j i (gn G - 1 - d)) (gn G - 1 - d) ++ twD G j i d := rfl
end RE

