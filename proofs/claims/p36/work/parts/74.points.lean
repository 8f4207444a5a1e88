/-! the word of a point: sorted twice; it is a product -/
section PT
variable {G : GD}
theorem TL_zero (hG : GOK G) {v : Nat → Int} {i : Nat} (hi : i < gn G) : TL G v i 0 = v := by
  funext m
  rw [TL_eq hG hi]
  have : addL G v i 0 m = 0 := sm_zero (fun p _ => by
    rw [show two 0 = 0 from rfl, sm_zero (fun q _ => by split <;> simp)]
    simp)
  rw [this]
  split <;> omega
theorem TLs_rep (hG : GOK G) {v : Nat → Int} {i : Nat} (hi : i < gn G) : ∀ t : Nat, TLs G v (List.replicate t i) = TL G v i t := by
  intro t
  induction t with
  | zero => exact (TL_zero hG hi).symm
  | succ t ih =>
    rw [List.replicate_succ', TLs_append, ih]
    show TL G (TL G v i t) i 1 = _
    funext m
    rw [TL_add hG hi]
    rfl
/-- the letters below K, each as often as b says -/
def wordU (b : Nat → Nat) : Nat → List Nat
  | 0 => []
  | K + 1 => wordU b K ++ List.replicate (b K) K
theorem wordU_mul (hG : GOK G) {v : Nat → Int} {b : Nat → Nat} : ∀ K, K ≤ gn G → TLs G v (wordU b K) = mulU G v (fun i => (b i : Int)) K := by
  intro K
  induction K with
  | zero => intro _; rfl
  | succ K ih =>
    intro hK
    show TLs G v (wordU b K ++ List.replicate (b K) K) = TL G (mulU G v (fun i => (b i : Int)) K) K (b K)
    rw [TLs_append, ih (by omega), TLs_rep hG (by omega)]
theorem wordU_mem {b : Nat → Nat} : ∀ K x, x ∈ wordU b K → x < K := by
  intro K
  induction K with
  | zero => intro x h; cases h
  | succ K ih =>
    intro x h
    rcases List.mem_append.mp h with h1 | h1
    · have := ih x h1; omega
    · have := List.eq_of_mem_replicate h1; omega
/-- what collecting a point's word comes to -/
theorem point_mul (hG : GOK G) {a b : Nat → Nat} : EqG G (TLs G O (wordU a (gn G) ++ wordU b (gn G))) (mul G (fun i => (a i : Int)) (fun i => (b i : Int))) := by
  rw [TLs_append, wordU_mul hG _ (Nat.le_refl _), wordU_mul hG _ (Nat.le_refl _)]
  exact EqG.times (O_mul hG) EqG.refl
end PT

