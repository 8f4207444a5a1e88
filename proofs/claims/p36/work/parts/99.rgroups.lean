/-! the reference's groups: rules made, acts undone, the image -/
section RGR
variable {σ : Mem} {G : GD}
/-- group and registers changed alone -/
def FG (σ τ : Mem) : Prop := τ.2 = σ.2 ∧ (∀ x, x ≠ 306 → x ≠ 307 → τ.1 x = σ.1 x) ∧ ∀ c, c ≠ 9 → τ.1 306 c = σ.1 306 c
theorem FG.refl : FG σ σ := ⟨rfl, fun _ _ _ => rfl, fun _ _ => rfl⟩
theorem FG.trans {τ υ : Mem} (h : FG σ τ) (k : FG τ υ) : FG σ υ := ⟨k.1.trans h.1, fun x h1 h2 => (k.2.1 x h1 h2).trans (h.2.1 x h1 h2), fun c hc => (k.2.2 c hc).trans (h.2.2 c hc)⟩
theorem FG.row {y : Nat} {v : Int32} : FG σ (wI σ 307 y v) := ⟨rfl, fun x _ h2 => by funext z; rw [wI_1, if_neg (fun q => h2 q.1)], fun c _ => by rw [wI_1, if_neg (by omega)]⟩
end RGR

