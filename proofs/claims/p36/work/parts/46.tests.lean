/-! what the reference asks of elements -/
/-- a loop that looks whether all are so -/
theorem loop_all {body : Int32 → Option (Int32 ⊕ Bool)} (n : Nat) (p : Nat → Prop) (hp : ∀ k, Decidable (p k)) (hs : ∀ k, k < n → body (i32 k) = some (if p k then Sum.inl (i32 (k + 1)) else Sum.inr false)) (he : body (i32 n) = some (Sum.inr true)) (b : Bool) (hb : b = true ↔ ∀ k, k < n → p k) : loopO body 0 = some b := by
  have key : ∀ d, d ≤ n → (∀ k, k < n - d → p k) → loopO body (i32 (n - d)) = some b := by
    intro d
    induction d with
    | zero =>
      intro _ h
      rw [Nat.sub_zero, loopO_eq, he]
      show some true = some b
      rw [hb.mpr h]
    | succ d ih =>
      intro hd h
      rw [loopO_eq, hs (n - (d + 1)) (by omega)]
      by_cases hq : p (n - (d + 1))
      · rw [if_pos hq]
        show loopO body (i32 (n - (d + 1) + 1)) = some b
        rw [show n - (d + 1) + 1 = n - d by omega]
        refine ih (by omega) (fun k hk => ?_)
        by_cases h1 : k = n - (d + 1)
        · rw [h1]; exact hq
        · exact h k (by omega)
      · rw [if_neg hq]
        show some false = some b
        cases b with
        | false => rfl
        | true => exact absurd (hb.mp rfl (n - (d + 1)) (by omega)) hq
  have := key n (Nat.le_refl n) (fun k hk => by omega)
  rwa [Nat.sub_self] at this
section QS
variable {σ : Mem} {G : GD} {f : SF}
/-- as longs: within 999, 0, alike -/
def isEl (G : GD) (a : Nat → Int) : Bool := decide (∀ k, k < gn G → -999 ≤ oi (a k) ∧ oi (a k) ≤ 999)
def areS (G : GD) (a b : Nat → Int) : Bool := decide (∀ k, k < gn G → oi (a k) = oi (b k))
end QS

