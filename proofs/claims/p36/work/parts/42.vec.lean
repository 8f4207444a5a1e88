/-! the reference's rows: places of six longs in its row 313 -/
/-! the group in the reference's row 307 -/
/-- the group's numbers: generators from 0, weights, tails -/
abbrev GD : Type := Nat × (Nat → Nat) × (Nat → Nat → Nat → Nat)
abbrev gn (G : GD) : Nat := G.1
abbrev gw (G : GD) : Nat → Nat := G.2.1
abbrev gt (G : GD) : Nat → Nat → Nat → Nat := G.2.2
/-- what is a group's numbers -/
def GOK (G : GD) : Prop := 1 ≤ gn G ∧ gn G ≤ 6 ∧ (∀ i, i < gn G → 1 ≤ gw G i ∧ gw G i ≤ 3) ∧ (∀ i j, i ≤ j → j < gn G → gw G i ≤ gw G j) ∧ (∀ i, gn G ≤ i → gw G i = 0) ∧ (∀ j i k, gt G j i k ≤ 3) ∧ (∀ j i k, gt G j i k ≠ 0 → i < j ∧ j < k ∧ k < gn G ∧ gw G i + gw G j ≤ gw G k)
