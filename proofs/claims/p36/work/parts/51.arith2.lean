/-! the class's arithmetic, put together -/
section CQ
variable {G : GD} {σ : Mem}
theorem e_cL6 {α : Type} {a b : Nat} {f : Mem → Option α} (ha : ln a = 6) (hb : ln b = 6) : cL σ a 0 b 0 6 f = f (cpL σ a b 0 0 6) := by
  unfold cL
  have h6 : (6 : Int32).toNatClampNeg = 6 := rfl
  have h0 : (0 : Int32).toNatClampNeg = 0 := rfl
  rw [h6, h0, ha, hb, if_pos ⟨⟨by decide, by decide, by decide⟩, by omega, by omega⟩]
theorem c_areSame {a b : Nat} {A B : Nat → Int} (ha : ln a = 6) (hb : ln b = 6) (hA : H6 σ a A) (hB : H6 σ b B) {r : Bool} (hr : r = true ↔ ∀ k, k < 6 → oi (A k) = oi (B k)) :
    f_X0_areSame σ a b = some r := by
  unfold f_X0_areSame
  refine loop_all 6 (fun k => oi (A k) = oi (B k)) (fun k => inferInstance) (fun k hk => ?_) ?_ _ hr
  · show l_X0_areSame_2 _ _ _ _ = _
    unfold l_X0_areSame_2
    rw [i32_6, if_neg (i_nle hk (by omega)), e_gL ha hk (by omega), e_gL hb hk (by omega), hA k hk, hB k hk, i32_1, i32_add]
    split <;> rfl
  · show l_X0_areSame_2 _ _ _ _ = _
    unfold l_X0_areSame_2
    rw [i32_6, if_pos (i_le (Nat.le_refl _) (by omega))]
theorem c_isWithin {a : Nat} {A : Nat → Int} {g : Int64} (ha : ln a = 6) (hA : H6 σ a A) {r : Bool} (hr : r = true ↔ ∀ k, k < 6 → -g ≤ oi (A k) ∧ oi (A k) ≤ g) :
    f_X0_isWithin σ a g = some r := by
  unfold f_X0_isWithin
  refine loop_all 6 (fun k => -g ≤ oi (A k) ∧ oi (A k) ≤ g) (fun k => inferInstance) (fun k hk => ?_) ?_ _ hr
  · show l_X0_isWithin_2 _ _ _ _ = _
    unfold l_X0_isWithin_2
    rw [i32_6, if_neg (i_nle hk (by omega)), e_gL ha hk (by omega), e_gL ha hk (by omega), hA k hk, i32_1, i32_add]
    by_cases h1 : oi (A k) < -g
    · rw [if_pos h1, if_neg (fun q => Int64.not_le.mpr h1 q.1)]
    · rw [if_neg h1]
      by_cases h2 : oi (A k) ≤ g
      · rw [if_pos h2, if_pos ⟨Int64.not_lt.mp h1, h2⟩]
      · rw [if_neg h2, if_neg (fun q => h2 q.2)]
  · show l_X0_isWithin_2 _ _ _ _ = _
    unfold l_X0_isWithin_2
    rw [i32_6, if_pos (i_le (Nat.le_refl _) (by omega))]
/-- the class looks at six exponents, the reference at those of the group -/
theorem all6 (hG : GOK G) {A : Nat → Int} {p : Int → Prop} (hp : p 0) (zA : Z6 G A) : (∀ k, k < 6 → p (A k)) ↔ (∀ k, k < gn G → p (A k)) := by
  have hn := hG.2.1
  refine ⟨fun h k hk => h k (by omega), fun h k hk => ?_⟩
  by_cases h1 : k < gn G
  · exact h k h1
  · rw [zA k (by omega) hk]; exact hp
theorem c_isElement (hG : GOK G) {a : Nat} {A : Nat → Int} (ha : ln a = 6) (hA : H6 σ a A) (zA : Z6 G A) : f_X0_isWithin σ a 999 = some (isEl G A) := by
  refine c_isWithin ha hA ?_
  unfold isEl
  rw [decide_eq_true_eq]
  exact (all6 hG (p := fun x => -999 ≤ oi x ∧ oi x ≤ 999) (by decide) zA).symm
theorem c_same (hG : GOK G) {a b : Nat} {A B : Nat → Int} (ha : ln a = 6) (hb : ln b = 6) (hA : H6 σ a A) (hB : H6 σ b B) (zA : Z6 G A) (zB : Z6 G B) : f_X0_areSame σ a b = some (areS G A B) := by
  have hn := hG.2.1
  refine c_areSame ha hb hA hB ?_
  unfold areS
  rw [decide_eq_true_eq]
  refine ⟨fun h k hk => ?_, fun h k hk => h k (by omega)⟩
  by_cases h1 : k < gn G
  · exact h k h1
  · rw [zA k (by omega) hk, zB k (by omega) hk]
theorem Z6.muls (hG : GOK G) {A B : Nat → Int} (zA : Z6 G A) : Z6 G (mul G A B) := fun k h1 h2 => by
  rw [mul_beyond hG h1]; exact zA k h1 h2
theorem Z6.invs {A : Nat → Int} : Z6 G (inv G A) := fun k h1 _ => inv_beyond _ h1
theorem SB.w1 (hG : GOK G) {B : Int} {A : Nat → Int} (h : SB G B A) (hB : B ≤ 2 ^ 31) : W1 G A := fun k hk hw => by
  have := h k (gn_of_one hG hw) hw
  exact ⟨by omega, by omega⟩
end CQ

