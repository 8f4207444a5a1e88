/-! powers, associates, both -/
section BTH
variable {σ : Mem} {G : GD}
/-- a product's place hangs on the right factor's weight one, and adds what lies at it -/
theorem mul_rw1 (hG : GOK G) {a x y : Nat → Int} {m : Nat} (hm : m < gn G) (h : ∀ i, gw G i = 1 → x i = y i) : mul G a x m - x m = mul G a y m - y m := by
  rw [mul_eq hG hm, mul_eq hG hm]
  have e1 : pT G m a x = pT G m a y := sm_congr (fun i _ => sm_congr (fun j _ => by
    by_cases hz : tI G j i m = 0
    · rw [hz]; simp
    · have h1 := tI_ne hG hz
      have w4 := (hG.2.2.1 m hm).2
      have w5 := hG.2.2.2.1 i j (by omega) (by omega)
      have w6 := (hG.2.2.1 i (by omega)).1
      rw [h i (by omega)]))
  have e2 : pU G m a x = pU G m a y := sm_congr (fun i _ => sm_congr (fun j _ => by
    rw [Int.mul_assoc, Int.mul_assoc]
    exact DD_congr hG (fun _ h1 _ _ _ => by rw [h i h1])))
  have e3 : pV G m a x = pV G m a y := sm_congr (fun i _ => sm_congr (fun j _ => by
    rw [Int.mul_assoc, Int.mul_assoc]
    exact DD_congr hG (fun _ h1 _ _ _ => by rw [h i h1])))
  have e4 : pW G m a x = pW G m a y := sm_congr (fun i _ => sm_congr (fun j _ => sm_congr (fun q _ => by
    split
    · rw [Int.mul_assoc, Int.mul_assoc, Int.mul_assoc (DD G m j i q), Int.mul_assoc (DD G m j i q)]
      exact DD_congr hG (fun _ h1 _ _ _ => by rw [h i h1, Int.mul_assoc])
    · rfl)))
  have e5 : pX G m a x = pX G m a y := sm_congr (fun i _ => sm_congr (fun p _ => by
    split
    · refine sm_congr (fun j _ => ?_)
      rw [Int.mul_assoc, Int.mul_assoc, Int.mul_assoc (DD G m j p i), Int.mul_assoc (DD G m j p i)]
      exact DD_congr hG (fun _ h1 _ h2 _ => by rw [h p h1, h i h2, Int.mul_assoc])
    · rfl))
  omega
/-- a commutator is what two products differ by -/
theorem comm_diff (hG : GOK G) (hJ : Jac G) {a b : Nat → Int} {m : Nat} (hm : m < gn G) : mul G (inv G (mul G b a)) (mul G a b) m = mul G a b m - mul G b a m := by
  have h1 : EqG G (mul G (mul G b a) (mul G (inv G (mul G b a)) (mul G a b))) (mul G a b) := (massoc hG hJ).symm.trans (((mul_inv hG).times EqG.refl).trans (O_mul hG))
  have h2 := mul_rw1 hG (a := mul G b a) (x := mul G (inv G (mul G b a)) (mul G a b)) (y := O) hm (fun i hi => by
    have hin := gn_of_one hG hi
    rw [m1 hG hi, inv_one hG (by omega) hin, m1 hG hi, m1 hG hi]
    show _ = (0 : Int)
    omega)
  have h3 := mul_O hG (a := mul G b a) m hm
  have h4 := h1 m hm
  have h5 : O m = 0 := rfl
  omega
theorem isO_congr {A B : Nat → Int} (h : EqG G A B) : isO G A = isO G B := by
  unfold isO
  rw [decide_eq_decide]
  exact ⟨fun z k hk => by rw [← h k hk]; exact z k hk, fun z k hk => by rw [h k hk]; exact z k hk⟩
theorem areS_congr {A B C D : Nat → Int} (h : EqG G A C) (k : EqG G B D) : areS G A B = areS G C D := by
  unfold areS
  rw [decide_eq_decide]
  exact ⟨fun z q hq => by rw [← h q hq, ← k q hq]; exact z q hq, fun z q hq => by rw [h q hq, k q hq]; exact z q hq⟩
theorem areS_eq {A B : Nat → Int} (h : EqG G A B) : areS G A B = true := by
  unfold areS
  rw [decide_eq_true_eq]
  exact fun k hk => by rw [h k hk]
theorem isO_comm (hG : GOK G) (hJ : Jac G) {a b : Nat → Int} : isO G (mul G (mul G (mul G (inv G a) (inv G b)) a) b) = areS G (mul G a b) (mul G b a) := by
  rw [← isO_congr (comm_eq hG hJ)]
  unfold isO areS
  rw [decide_eq_decide]
  have e : ∀ k, k < gn G → (oi (mul G (inv G (mul G b a)) (mul G a b) k) = 0 ↔ oi (mul G a b k) = oi (mul G b a k)) := fun k hk => by
    rw [comm_diff hG hJ hk, ← oi_sub]
    constructor
    · intro z
      have := congrArg (fun w => w + oi (mul G b a k)) z
      simpa using this
    · intro z
      rw [z, Int64.sub_self]
  exact ⟨fun z k hk => (e k hk).mp (z k hk), fun z k hk => (e k hk).mpr (z k hk)⟩
/-! the layer, the first difference -/
def Lay (G : GD) (A : Nat → Int) (r : Int32) : Prop := (∃ k, k < gn G ∧ (∀ p, p < k → oi (A p) = 0) ∧ oi (A k) ≠ 0 ∧ r = i32 (gw G k)) ∨ ((∀ k, k < gn G → oi (A k) = 0) ∧ r = i32 (topG G) + 1)
theorem Lay.uniq {A : Nat → Int} {r q : Int32} (h : Lay G A r) (k : Lay G A q) : r = q := by
  rcases h with ⟨i, h1, h2, h3, rfl⟩ | ⟨h1, rfl⟩
  · rcases k with ⟨j, k1, k2, k3, rfl⟩ | ⟨k1, rfl⟩
    · have : i = j := by
        rcases Nat.lt_trichotomy i j with z | z | z
        · exact absurd (k2 i z) h3
        · exact z
        · exact absurd (h2 j z) k3
      rw [this]
    · exact absurd (k1 i h1) h3
  · rcases k with ⟨j, k1, k2, k3, rfl⟩ | ⟨k1, rfl⟩
    · exact absurd (h1 j k1) k3
    · rfl
theorem Lay.congr {A B : Nat → Int} {r : Int32} (h : Lay G A r) (e : EqG G A B) : Lay G B r := by
  rcases h with ⟨i, h1, h2, h3, rfl⟩ | ⟨h1, rfl⟩
  · exact Or.inl ⟨i, h1, fun p hp => by rw [← e p (by omega)]; exact h2 p hp, by rw [← e i h1]; exact h3, rfl⟩
  · exact Or.inr ⟨fun k hk => by rw [← e k hk]; exact h1 k hk, rfl⟩
theorem c_layerOf (hG : GOK G) (h : CG σ 2 G) {a : Nat} {A : Nat → Int} (ha : ln a = 6) (hA : H6 σ a A) : ∃ r, f_X10_layerOf σ a = some r ∧ Lay G A r := by
  have hn := hG.2.1
  have hn0 : σ.1 2 0 = i32 (gn G) := h.1
  unfold f_X10_layerOf
  have hl := loop_inv (body := fun (z4 : Int32) => l_X10_layerOf_2 σ a z4) (fun n z => ∃ i, i ≤ gn G ∧ n = gn G - i ∧ z = i32 i ∧ ∀ p, p < i → oi (A p) = 0) (fun r => (∃ i, i < gn G ∧ (∀ p, p < i → oi (A p) = 0) ∧ oi (A i) ≠ 0 ∧ r = Sum.inl (i32 i)) ∨ ((∀ k, k < gn G → oi (A k) = 0) ∧ r = Sum.inr (Sum.inl ()))) ?_ (gn G) 0 ⟨0, by omega, rfl, rfl, fun p hp => absurd hp (Nat.not_lt_zero _)⟩
  · obtain ⟨r, e, ⟨i, h1, h2, h3, rfl⟩ | ⟨h1, rfl⟩⟩ := hl
    · refine ⟨i32 (gw G i), ?_, Or.inl ⟨i, h1, h2, h3, rfl⟩⟩
      rw [e, e_bs]
      show (j_X10_layerOf_24 σ (i32 i)).bind _ = _
      unfold j_X10_layerOf_24
      have : σ.1 3 i = i32 (gw G i) := h.2.1 i (by omega)
      rw [e_gI ln_3 (by omega) (by omega), this, e_bs]
      rfl
    · refine ⟨i32 (topG G) + 1, ?_, Or.inr ⟨h1, rfl⟩⟩
      rw [e, e_bs]
      show (some (Sum.inl ()) : Option (Unit ⊕ Int32)).bind _ = _
      rw [e_bs]
      show j_X10_layerOf_43 σ = _
      unfold j_X10_layerOf_43
      rw [c_top hG h RR2_2.1 ln_3, e_bs]
  · rintro n z ⟨i, hi, rfl, rfl, hv⟩
    by_cases hin : i = gn G
    · right
      subst hin
      refine ⟨_, ?_, Or.inr ⟨hv, rfl⟩⟩
      show l_X10_layerOf_2 σ a (i32 (gn G)) = _
      unfold l_X10_layerOf_2
      rw [e_gF, hn0, if_pos (i_le (Nat.le_refl _) (by omega))]
    · by_cases hz : oi (A i) = 0
      · left
        refine ⟨i32 (i + 1), gn G - (i + 1), by omega, ?_, i + 1, by omega, rfl, rfl, fun p hp => ?_⟩
        · show l_X10_layerOf_2 σ a (i32 i) = _
          unfold l_X10_layerOf_2
          rw [e_gF, hn0, if_neg (i_nle (by omega) (by omega)), e_gL ha (by omega) (by omega), hA i (by omega), if_pos hz, i32_1, i32_add]
        · by_cases h5 : p = i
          · rw [h5]; exact hz
          · exact hv p (by omega)
      · right
        refine ⟨_, ?_, Or.inl ⟨i, by omega, hv, hz, rfl⟩⟩
        show l_X10_layerOf_2 σ a (i32 i) = _
        unfold l_X10_layerOf_2
        rw [e_gF, hn0, if_neg (i_nle (by omega) (by omega)), e_gL ha (by omega) (by omega), hA i (by omega), if_neg hz]
theorem r_level (hG : GOK G) (h : MG σ G) : f_X11_level σ = some (i32 (topG G)) := by
  have h1 := hG.1
  have hn := hG.2.1
  unfold f_X11_level
  rw [e_n h, e_bs, i32_1, i32_sub h1, e_weight h (by omega), e_bs]
  rfl
theorem r_layer {f : SF} (hG : GOK G) (h : MG σ G) {s : Nat} (hs : s < 100) : ∃ r, f_X11_layer (PS σ f) (i32 s) = some r ∧ Lay G (f s) r := by
  have hn := hG.2.1
  unfold f_X11_layer
  have hl := loop_inv (body := fun (z4 : Int32) => l_X11_layer_2 (PS σ f) (i32 s) z4) (fun n z => ∃ i, i ≤ gn G ∧ n = gn G - i ∧ z = i32 i ∧ ∀ p, p < i → oi (f s p) = 0) (fun r => (∃ i, i < gn G ∧ (∀ p, p < i → oi (f s p) = 0) ∧ oi (f s i) ≠ 0 ∧ r = Sum.inl (i32 i)) ∨ ((∀ k, k < gn G → oi (f s k) = 0) ∧ r = Sum.inr (Sum.inl ()))) ?_ (gn G) 0 ⟨0, by omega, rfl, rfl, fun p hp => absurd hp (Nat.not_lt_zero _)⟩
  · obtain ⟨r, e, ⟨i, h1, h2, h3, rfl⟩ | ⟨h1, rfl⟩⟩ := hl
    · refine ⟨i32 (gw G i), ?_, Or.inl ⟨i, h1, h2, h3, rfl⟩⟩
      rw [e, e_bs]
      show (j_X11_layer_21 (PS σ f) (i32 i)).bind _ = _
      unfold j_X11_layer_21
      rw [e_weight (PS_MG h) (by omega), e_bs, e_bs]
      rfl
    · refine ⟨i32 (topG G) + 1, ?_, Or.inr ⟨h1, rfl⟩⟩
      rw [e, e_bs]
      show (some (Sum.inl ()) : Option (Unit ⊕ Int32)).bind _ = _
      rw [e_bs]
      show j_X11_layer_33 (PS σ f) = _
      unfold j_X11_layer_33
      rw [r_level hG (PS_MG h), e_bs]
  · rintro n z ⟨i, hi, rfl, rfl, hv⟩
    by_cases hin : i = gn G
    · right
      subst hin
      refine ⟨_, ?_, Or.inr ⟨hv, rfl⟩⟩
      show l_X11_layer_2 (PS σ f) (i32 s) (i32 (gn G)) = _
      unfold l_X11_layer_2
      rw [e_n (PS_MG h), e_bs, if_pos (i_le (Nat.le_refl _) (by omega))]
    · by_cases hz : oi (f s i) = 0
      · left
        refine ⟨i32 (i + 1), gn G - (i + 1), by omega, ?_, i + 1, by omega, rfl, rfl, fun p hp => ?_⟩
        · show l_X11_layer_2 (PS σ f) (i32 s) (i32 i) = _
          unfold l_X11_layer_2
          rw [e_n (PS_MG h), e_bs, if_neg (i_nle (by omega) (by omega)), p_of hs (by omega), e_bs, if_pos hz, i32_1, i32_add]
        · by_cases h5 : p = i
          · rw [h5]; exact hz
          · exact hv p (by omega)
      · right
        refine ⟨_, ?_, Or.inl ⟨i, by omega, hv, hz, rfl⟩⟩
        show l_X11_layer_2 (PS σ f) (i32 s) (i32 i) = _
        unfold l_X11_layer_2
        rw [e_n (PS_MG h), e_bs, if_neg (i_nle (by omega) (by omega)), p_of hs (by omega), e_bs, if_neg hz]
def FDi (G : GD) (A B : Nat → Int) (r : Int32) : Prop := (∃ k, k < gn G ∧ (∀ p, p < k → oi (A p) = oi (B p)) ∧ oi (A k) ≠ oi (B k) ∧ r = i32 (k + 1)) ∨ ((∀ k, k < gn G → oi (A k) = oi (B k)) ∧ r = 0)
theorem FDi.uniq {A B : Nat → Int} {r q : Int32} (h : FDi G A B r) (k : FDi G A B q) : r = q := by
  rcases h with ⟨i, h1, h2, h3, rfl⟩ | ⟨h1, rfl⟩
  · rcases k with ⟨j, k1, k2, k3, rfl⟩ | ⟨k1, rfl⟩
    · have : i = j := by
        rcases Nat.lt_trichotomy i j with z | z | z
        · exact absurd (k2 i z) h3
        · exact z
        · exact absurd (h2 j z) k3
      rw [this]
    · exact absurd (k1 i h1) h3
  · rcases k with ⟨j, k1, k2, k3, rfl⟩ | ⟨k1, rfl⟩
    · exact absurd (h1 j k1) k3
    · rfl
theorem c_firstDiff (hn : gn G ≤ 6) (hn0 : σ.1 2 0 = i32 (gn G)) {a b : Nat} {A B : Nat → Int} (ha : ln a = 6) (hb : ln b = 6) (hA : H6 σ a A) (hB : H6 σ b B) : ∃ r, f_X10_firstDifference σ a b = some r ∧ FDi G A B r := by
  unfold f_X10_firstDifference
  have hl := loop_inv (body := fun (z2 : Int32) => l_X10_firstDifference_2 σ a b z2) (fun n z => ∃ i, i ≤ gn G ∧ n = gn G - i ∧ z = i32 i ∧ ∀ p, p < i → oi (A p) = oi (B p)) (fun r => (∃ i, i < gn G ∧ (∀ p, p < i → oi (A p) = oi (B p)) ∧ oi (A i) ≠ oi (B i) ∧ r = Sum.inl (i32 i)) ∨ ((∀ k, k < gn G → oi (A k) = oi (B k)) ∧ r = Sum.inr 0)) ?_ (gn G) 0 ⟨0, by omega, rfl, rfl, fun p hp => absurd hp (Nat.not_lt_zero _)⟩
  · obtain ⟨r, e, ⟨i, h1, h2, h3, rfl⟩ | ⟨h1, rfl⟩⟩ := hl
    · refine ⟨i32 (i + 1), ?_, Or.inl ⟨i, h1, h2, h3, rfl⟩⟩
      rw [e, e_bs]
      show j_X10_firstDifference_26 (i32 i) = _
      unfold j_X10_firstDifference_26
      rw [i32_1, i32_add]
    · refine ⟨0, ?_, Or.inr ⟨h1, rfl⟩⟩
      rw [e, e_bs]
      rfl
  · rintro n z ⟨i, hi, rfl, rfl, hv⟩
    by_cases hin : i = gn G
    · right
      subst hin
      refine ⟨_, ?_, Or.inr ⟨hv, rfl⟩⟩
      show l_X10_firstDifference_2 σ a b (i32 (gn G)) = _
      unfold l_X10_firstDifference_2
      rw [e_gF, hn0, if_pos (i_le (Nat.le_refl _) (by omega))]
    · by_cases hz : oi (A i) = oi (B i)
      · left
        refine ⟨i32 (i + 1), gn G - (i + 1), by omega, ?_, i + 1, by omega, rfl, rfl, fun p hp => ?_⟩
        · show l_X10_firstDifference_2 σ a b (i32 i) = _
          unfold l_X10_firstDifference_2
          rw [e_gF, hn0, if_neg (i_nle (by omega) (by omega)), e_gL ha (by omega) (by omega), hA i (by omega), e_gL hb (by omega) (by omega), hB i (by omega), if_pos hz, i32_1, i32_add]
        · by_cases h5 : p = i
          · rw [h5]; exact hz
          · exact hv p (by omega)
      · right
        refine ⟨_, ?_, Or.inl ⟨i, by omega, hv, hz, rfl⟩⟩
        show l_X10_firstDifference_2 σ a b (i32 i) = _
        unfold l_X10_firstDifference_2
        rw [e_gF, hn0, if_neg (i_nle (by omega) (by omega)), e_gL ha (by omega) (by omega), hA i (by omega), e_gL hb (by omega) (by omega), hB i (by omega), if_neg hz]
theorem r_firstApart {f : SF} (hG : GOK G) (h : MG σ G) : ∃ r, f_X11_firstApart (PS σ f) = some r ∧ FDi G (f 0) (f 1) r := by
  have hn := hG.2.1
  unfold f_X11_firstApart
  have p0 : ∀ i, i < 6 → f_X11_of (PS σ f) 0 (i32 i) = some (oi (f 0 i)) := fun i hi => p_of (s := 0) (by omega) hi
  have p1 : ∀ i, i < 6 → f_X11_of (PS σ f) 1 (i32 i) = some (oi (f 1 i)) := fun i hi => p_of (s := 1) (by omega) hi
  have hl := loop_inv (body := fun (z2 : Int32) => l_X11_firstApart_2 (PS σ f) z2) (fun n z => ∃ i, i ≤ gn G ∧ n = gn G - i ∧ z = i32 i ∧ ∀ p, p < i → oi (f 0 p) = oi (f 1 p)) (fun r => (∃ i, i < gn G ∧ (∀ p, p < i → oi (f 0 p) = oi (f 1 p)) ∧ oi (f 0 i) ≠ oi (f 1 i) ∧ r = Sum.inl (i32 i)) ∨ ((∀ k, k < gn G → oi (f 0 k) = oi (f 1 k)) ∧ r = Sum.inr 0)) ?_ (gn G) 0 ⟨0, by omega, rfl, rfl, fun p hp => absurd hp (Nat.not_lt_zero _)⟩
  · obtain ⟨r, e, ⟨i, h1, h2, h3, rfl⟩ | ⟨h1, rfl⟩⟩ := hl
    · refine ⟨i32 (i + 1), ?_, Or.inl ⟨i, h1, h2, h3, rfl⟩⟩
      rw [e, e_bs]
      show j_X11_firstApart_26 (i32 i) = _
      unfold j_X11_firstApart_26
      rw [i32_1, i32_add]
    · refine ⟨0, ?_, Or.inr ⟨h1, rfl⟩⟩
      rw [e, e_bs]
      rfl
  · rintro n z ⟨i, hi, rfl, rfl, hv⟩
    by_cases hin : i = gn G
    · right
      subst hin
      refine ⟨_, ?_, Or.inr ⟨hv, rfl⟩⟩
      show l_X11_firstApart_2 (PS σ f) (i32 (gn G)) = _
      unfold l_X11_firstApart_2
      rw [e_n (PS_MG h), e_bs, if_pos (i_le (Nat.le_refl _) (by omega))]
    · by_cases hz : oi (f 0 i) = oi (f 1 i)
      · left
        refine ⟨i32 (i + 1), gn G - (i + 1), by omega, ?_, i + 1, by omega, rfl, rfl, fun p hp => ?_⟩
        · show l_X11_firstApart_2 (PS σ f) (i32 i) = _
          unfold l_X11_firstApart_2
          rw [e_n (PS_MG h), e_bs, if_neg (i_nle (by omega) (by omega)), p0 i (by omega), e_bs, p1 i (by omega), e_bs, if_pos hz, i32_1, i32_add]
        · by_cases h5 : p = i
          · rw [h5]; exact hz
          · exact hv p (by omega)
      · right
        refine ⟨_, ?_, Or.inl ⟨i, by omega, hv, hz, rfl⟩⟩
        show l_X11_firstApart_2 (PS σ f) (i32 i) = _
        unfold l_X11_firstApart_2
        rw [e_n (PS_MG h), e_bs, if_neg (i_nle (by omega) (by omega)), p0 i (by omega), e_bs, p1 i (by omega), e_bs, if_neg hz]
end BTH
