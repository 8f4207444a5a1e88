/-! the objects at their start -/
section BGN
theorem kf_0 : gn (kf 0 8) = 3 := by decide +kernel
theorem nil_get {α : Type} (j : Nat) (x : α) (h : ([] : List α)[j]? = some x) : False := by simp at h
theorem nil_mem {α : Type} (x : α) (h : x ∈ ([] : List α)) : False := by cases h
theorem none_some {α : Type} (x : α) (h : (none : Option α) = some x) : False := by cases h
theorem start_ok : Start II := by
  have e0 : ∀ x y, x ≠ 144 → (wI zM 144 1 (-1)).1 x y = 0 := fun x y hx => by rw [wI_1, if_neg (fun q => hx q.1)]; rfl
  obtain ⟨σ1, e1, f1, m1⟩ := c_takeKind (σ := wI zM 144 1 (-1)) (κ := 0) (by omega)
  have hG : GOK (kf 0 8) := kf_ok (by omega) 8 (by omega)
  have g1 : ∀ x y, x ≠ 2 → x ≠ 3 → x ≠ 4 → x ≠ 144 → σ1.1 x y = 0 := fun x y h1 h2 h3 h4 => by rw [f1.2 x h1 h2 h3]; exact e0 x y h4
  have no41 : ¬ CG σ1 41 (kf 0 8) := fun z => by
    have := z.1
    rw [g1 41 0 (by omega) (by omega) (by omega) (by omega), kf_0] at this
    exact absurd this (by decide)
  obtain ⟨σ2, e2, f2, m2, l2, hed⟩ := c_follow (σ := σ1) hG m1 (ed := 0) (g1 40 4 (by omega) (by omega) (by omega) (by omega)) (fun z => absurd z no41)
  have hed2 : σ2.1 40 4 = i32 1 := by
    rcases hed with rfl | h
    · exact absurd m2 no41
    · exact h
  have g2 : ∀ x y, (x < 2 ∨ (5 ≤ x ∧ x < 35) ∨ (128 ≤ x ∧ x ≠ 144)) → σ2.1 x y = 0 := fun x y hx => by
    rw [(f2 x (by omega)).1]
    exact g1 x y (by omega) (by omega) (by omega) (by omega)
  have g2L : ∀ x y, x < 35 ∨ 128 ≤ x → σ2.2 x y = 0 := fun x y hx => by
    rw [(f2 x (by omega)).2, f1.1]
    rfl
  have h144 : σ2.1 144 0 = 0 ∧ σ2.1 144 1 = -1 := by
    rw [(f2 144 (by omega)).1, f1.2 144 (by omega) (by omega) (by omega)]
    exact ⟨by rw [wI_1, if_neg (by omega)]; rfl, by rw [wI_1, if_pos ⟨rfl, rfl⟩]⟩
  have m22 : CG σ2 2 (kf 0 8) := by
    unfold CG
    rw [(f2 2 (by omega)).1, (f2 (2 + 1) (by omega)).1, (f2 (2 + 2) (by omega)).1]
    exact m1
  have tl : ∀ x, x < 306 → (wI (wI (trim σ2 306) 306 20 (-1)) 306 24 (-1)).1 x = σ2.1 x ∧ (wI (wI (trim σ2 306) 306 20 (-1)) 306 24 (-1)).2 x = σ2.2 x := fun x hx => by
    constructor
    · funext y
      rw [wI_1, if_neg (by omega), wI_1, if_neg (by omega)]
      exact if_pos hx
    · funext y
      exact if_pos hx
  have th : ∀ x y, 306 < x ∨ (x = 306 ∧ y ≠ 20 ∧ y ≠ 24) → (wI (wI (trim σ2 306) 306 20 (-1)) 306 24 (-1)).1 x y = 0 := fun x y hx => by
    rw [wI_1, if_neg (by omega), wI_1, if_neg (by omega)]
    exact if_neg (by omega)
  have thL : ∀ x y, 306 ≤ x → (wI (wI (trim σ2 306) 306 20 (-1)) 306 24 (-1)).2 x y = 0 := fun x y hx => if_neg (by omega)
  have t20 : (wI (wI (trim σ2 306) 306 20 (-1)) 306 24 (-1)).1 306 20 = -1 := by rw [wI_1, if_neg (by omega), wI_1, if_pos ⟨rfl, rfl⟩]
  obtain ⟨σ3, e3, f3, n9, rb⟩ := r_plain (σ := wI (wI (trim σ2 306) 306 20 (-1)) 306 24 (-1))
  have lo : ∀ x, x < 306 → σ3.1 x = σ2.1 x ∧ σ3.2 x = σ2.2 x := fun x hx => ⟨by rw [(f3.lo x hx).1, (tl x hx).1], by rw [(f3.lo x hx).2, (tl x hx).2]⟩
  refine ⟨σ1, σ2, σ3, e1, e2, e3, (((kf 0 8, fun _ _ => 0), (0, 0, fun _ => 0), [], none, [], (0, -1)) : AS), ?_, ?_, ?_⟩
  · exact ⟨⟨hG, fun _ _ => ⟨by show (-999 : Int) ≤ 0; omega, by show (0 : Int) ≤ 999; omega⟩, fun _ _ _ => rfl⟩, Nat.zero_le _, ⟨Nat.zero_le _, fun X hX => (nil_mem X hX).elim⟩, fun Y hY => (none_some Y hY).elim, Nat.zero_le _, fun x hx => (nil_mem x hx).elim⟩
  · have z0 : ∀ x y, (x < 2 ∨ (5 ≤ x ∧ x < 35) ∨ (128 ≤ x ∧ x ≠ 144)) → x < 306 → σ3.1 x y = 0 := fun x y h1 h2 => by rw [(lo x h2).1]; exact g2 x y h1
    refine ⟨⟨?_, fun r i hr hi => ?_⟩, ⟨z0 16 0 (by omega) (by omega), z0 16 1 (by omega) (by omega), fun i hi => absurd hi (Nat.not_lt_zero i)⟩, ⟨z0 0 4 (by omega) (by omega), 0, by omega, z0 0 5 (by omega) (by omega), fun j X hj => (nil_get j X hj).elim⟩, ⟨z0 0 2 (by omega) (by omega), fun y hy => (none_some y hy).elim⟩, ⟨z0 0 7 (by omega) (by omega), fun p x hp => (nil_get p x hp).elim⟩, ⟨by rw [(lo 144 (by omega)).1]; exact h144.1, by rw [(lo 144 (by omega)).1]; exact h144.2⟩, ?_⟩
    · unfold CG
      rw [(lo (1 + 1) (by omega)).1, (lo (1 + 1 + 1) (by omega)).1, (lo (1 + 1 + 2) (by omega)).1]
      exact m22
    · rw [(lo (1 + 5 + r) (by omega)).2, g2L (1 + 5 + r) i (by omega)]
      rfl
    · refine ⟨?_, l2.eqs (by rw [(lo 40 (by omega)).1]) (fun x h1 h2 => lo x (by omega)), 1, 0, by rw [(lo 40 (by omega)).1]; exact hed2, z0 128 2 (by omega) (by omega), by omega, by omega, fun q => by omega⟩
      unfold CG
      rw [(lo 41 (by omega)).1, (lo (41 + 1) (by omega)).1, (lo (41 + 2) (by omega)).1]
      exact m2
  · have k : ∀ c, c ≠ 9 → c ≠ 20 → c ≠ 24 → σ3.1 306 c = 0 := fun c h1 h2 h3 => by rw [f3.2.2 c h1]; exact th 306 c (by omega)
    refine ⟨rb, ⟨k 4 (by omega) (by omega) (by omega), k 27 (by omega) (by omega) (by omega), fun i hi => absurd hi (Nat.not_lt_zero i)⟩, ⟨k 3 (by omega) (by omega) (by omega), fun j X hj => (nil_get j X hj).elim⟩, ⟨k 37 (by omega) (by omega) (by omega), fun y hy => (none_some y hy).elim⟩, ⟨k 18 (by omega) (by omega) (by omega), fun p x hp => (nil_get p x hp).elim⟩, ⟨k 19 (by omega) (by omega) (by omega), by rw [f3.2.2 20 (by omega)]; exact t20⟩, ⟨false, n9, fun q => by cases q⟩, fun m hm => by rw [f3.1]; exact thL 314 m (by omega)⟩
theorem up_ok : ∀ c σ, II c σ → II (c + 1) σ := fun _ _ ⟨S, ok, h, hr⟩ => ⟨S, ok, h.up, hr⟩
end BGN
