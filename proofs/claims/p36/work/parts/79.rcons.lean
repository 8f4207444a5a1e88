/-! the reference's overlaps, all: the group is one where the class says so -/
section RP
variable {G : GD} {σ : Mem}
theorem cnt_pos (S : List Nat) (m : Nat) : 0 ≤ cnt S m := Int.natCast_nonneg _
/-- the reference's loop over the letters, first way: kept -/
theorem r_keep (h : MG σ G) (hG : GOK G) {S : List Nat} (hR : RW σ S) (hl : S.length ≤ 12076) (hm : ∀ x, x ∈ S → x < gn G) :
    ∃ τ, (loopO (fun (z13 : (Mem × Int32)) => l_X11_isAlikeBy_49 0 true z13.1 z13.2) (σ, 0) : Option (Mem ⊕ ((Mem × Int32) ⊕ (Bool × Mem)))) = some (Sum.inl τ) ∧ OI 310 σ τ ∧ ∀ g, g < gn G → τ.1 310 g = i32 (S.count g) := by
  have hn := hG.2.1
  have hl' := loop_inv (body := fun (z13 : (Mem × Int32)) => l_X11_isAlikeBy_49 0 true z13.1 z13.2) (fun n z => ∃ g τ, g ≤ gn G ∧ n = gn G - g ∧ z = (τ, i32 g) ∧ OI 310 σ τ ∧ ∀ p, p < g → τ.1 310 p = i32 (S.count p)) (fun r => ∃ τ, r = Sum.inl τ ∧ OI 310 σ τ ∧ ∀ g, g < gn G → τ.1 310 g = i32 (S.count g)) ?_ (gn G) (σ, 0) ⟨0, σ, Nat.zero_le _, by omega, rfl, ⟨rfl, fun _ _ => rfl⟩, fun p hp => absurd hp (Nat.not_lt_zero _)⟩
  · obtain ⟨r, e, τ, rfl, o, v⟩ := hl'
    exact ⟨τ, e, o, v⟩
  · rintro n z ⟨g, τ, hg, rfl, rfl, o, v⟩
    have hM : MG τ G := by
      unfold MG
      rw [o.2 307 (by omega)]
      exact h
    have hRt : RW τ S := by
      unfold RW
      rw [o.2 306 (by omega), o.2 309 (by omega)]
      exact hR
    by_cases hgn : g = gn G
    · right
      subst hgn
      refine ⟨Sum.inl τ, ?_, τ, rfl, o, v⟩
      show l_X11_isAlikeBy_49 0 true τ (i32 (gn G)) = _
      unfold l_X11_isAlikeBy_49
      rw [e_n hM, e_bs, if_pos (i_le (Nat.le_refl _) (by omega))]
    · left
      refine ⟨(wI τ 310 g (i32 (S.count g)), i32 (g + 1)), gn G - (g + 1), by omega, ?_, g + 1, _, by omega, rfl, rfl, ⟨o.1, fun x hx => ?_⟩, fun p hp => ?_⟩
      · show l_X11_isAlikeBy_49 0 true τ (i32 g) = _
        unfold l_X11_isAlikeBy_49
        rw [e_n hM, e_bs, if_neg (i_nle (by omega) (by omega)), if_pos rfl, if_pos rfl, r_letters hRt (by omega) (by omega) (fun y hy => by have := hm y hy; omega), e_bs, e_pI ln_310 (by omega) (by omega), e_bs]
        show j_X11_isAlikeBy_102 (i32 g) _ = _
        unfold j_X11_isAlikeBy_102
        rw [i32_1, i32_add]
      · funext y; rw [wI_1, if_neg (fun q => hx q.1), o.2 x hx]
      · rw [wI_1]
        by_cases h1 : p = g
        · rw [if_pos ⟨rfl, h1⟩, h1]
        · rw [if_neg (fun q => h1 q.2)]; exact v p (by omega)
/-- second way: held against what was kept -/
theorem r_hold (h : MG σ G) (hG : GOK G) {S S0 : List Nat} (hR : RW σ S) (hl : S.length ≤ 12076) (hl0 : S0.length ≤ 12076) (hm : ∀ x, x ∈ S → x < gn G) (h0 : ∀ g, g < gn G → σ.1 310 g = i32 (S0.count g)) :
    ∃ r, (loopO (fun (z13 : (Mem × Int32)) => l_X11_isAlikeBy_49 1 true z13.1 z13.2) (σ, 0) : Option (Mem ⊕ ((Mem × Int32) ⊕ (Bool × Mem)))) = some r ∧ ((r = Sum.inl σ ∧ ∀ g, g < gn G → cnt S0 g = cnt S g) ∨ (r = Sum.inr (Sum.inr (false, σ)) ∧ ¬ ∀ g, g < gn G → cnt S0 g = cnt S g)) := by
  have hn := hG.2.1
  have bound : ∀ (S : List Nat) m, S.length ≤ 12076 → S.count m < 2 ^ 31 := fun S m hS => by
    have := List.count_le_length (a := m) (l := S)
    omega
  refine loop_inv (body := fun (z13 : (Mem × Int32)) => l_X11_isAlikeBy_49 1 true z13.1 z13.2) (fun n z => ∃ g, g ≤ gn G ∧ n = gn G - g ∧ z = (σ, i32 g) ∧ ∀ p, p < g → cnt S0 p = cnt S p) _ ?_ (gn G) (σ, 0) ⟨0, Nat.zero_le _, by omega, rfl, fun p hp => absurd hp (Nat.not_lt_zero _)⟩
  rintro n z ⟨g, hg, rfl, rfl, v⟩
  by_cases hgn : g = gn G
  · right
    subst hgn
    refine ⟨Sum.inl σ, ?_, Or.inl ⟨rfl, v⟩⟩
    show l_X11_isAlikeBy_49 1 true σ (i32 (gn G)) = _
    unfold l_X11_isAlikeBy_49
    rw [e_n h, e_bs, if_pos (i_le (Nat.le_refl _) (by omega))]
  · have hlet := r_letters hR (by omega) (x := g) (by omega) (fun y hy => by have := hm y hy; omega)
    have hb0 := bound S0 g hl0
    have hb := bound S g hl
    by_cases hq : S0.count g = S.count g
    · left
      refine ⟨(σ, i32 (g + 1)), gn G - (g + 1), by omega, ?_, g + 1, by omega, rfl, rfl, fun p hp => ?_⟩
      · show l_X11_isAlikeBy_49 1 true σ (i32 g) = _
        unfold l_X11_isAlikeBy_49
        rw [e_n h, e_bs, if_neg (i_nle (by omega) (by omega)), if_pos rfl, if_neg (by decide), e_gI ln_310 (by omega) (by omega), h0 g (by omega), hlet, e_bs, hq, if_pos rfl, e_bs]
        show j_X11_isAlikeBy_102 (i32 g) _ = _
        unfold j_X11_isAlikeBy_102
        rw [i32_1, i32_add]
      · by_cases h1 : p = g
        · rw [h1]; unfold cnt; rw [hq]
        · exact v p (by omega)
    · right
      refine ⟨Sum.inr (Sum.inr (false, σ)), ?_, Or.inr ⟨rfl, fun z => hq ?_⟩⟩
      · show l_X11_isAlikeBy_49 1 true σ (i32 g) = _
        unfold l_X11_isAlikeBy_49
        rw [e_n h, e_bs, if_neg (i_nle (by omega) (by omega)), if_pos rfl, if_neg (by decide), e_gI ln_310 (by omega) (by omega), h0 g (by omega), hlet, e_bs, if_neg (i_ne hq hb0 hb), e_bs]
        rfl
      · have := z g (by omega)
        unfold cnt at this
        omega
theorem r_alikeBy (h : MG σ G) (hG : GOK G) {k j i : Nat} (hk : k < gn G) (hj : j < k) (hi : i < j) : ∃ b τ, f_X11_isAlikeBy σ (i32 k) (i32 j) (i32 i) = some (b, τ) ∧ FY σ τ ∧ (b = true ↔ OvA G k j i) := by
  have hn := hG.2.1
  obtain ⟨τ1, S0, w0, f1, R0, l0, m0, c0⟩ := r_way h hG hk hj hi (way := 0) (by omega)
  rw [if_pos rfl] at c0
  obtain ⟨τ2, e2, o2, v2⟩ := r_keep (h.fx f1) hG R0 l0 m0
  have f2 : FY σ τ2 := f1.fy.trans ⟨o2.1, fun x _ _ h3 => o2.2 x h3, fun c _ _ => by rw [o2.2 306 (by omega)]⟩
  obtain ⟨τ3, S1, w1, f3, R1, l1, m1, c1⟩ := r_way (h.fy f2) hG hk hj hi (way := 1) (by omega)
  rw [if_neg (by decide)] at c1
  have v3 : ∀ g, g < gn G → τ3.1 310 g = i32 (S0.count g) := fun g hg => by rw [f3.2.1 310 (by omega) (by omega)]; exact v2 g hg
  obtain ⟨r, e3, hr⟩ := r_hold ((h.fy f2).fx f3) hG R1 l1 l0 m1 v3
  have F3 : FY σ τ3 := f2.trans f3.fy
  have hO : (∀ g, g < gn G → cnt S0 g = cnt S1 g) ↔ OvA G k j i := by
    unfold OvA
    rw [← c0, ← c1]
    refine ⟨fun z m hm => ?_, fun z g hg => z g (by omega)⟩
    by_cases h1 : m < gn G
    · exact z m h1
    · rw [cnt_above (i := gn G - 1) (fun x hx => by have := m0 x hx; omega) (by omega), cnt_above (i := gn G - 1) (fun x hx => by have := m1 x hx; omega) (by omega)]
  have b0 : l_X11_isAlikeBy_3 (i32 k) (i32 j) (i32 i) σ 0 = some (Sum.inl (τ2, 1)) := by
    unfold l_X11_isAlikeBy_3
    rw [if_neg (by decide)]
    refine (w0 _).trans ?_
    rw [e2, e_bs]
    rfl
  have b1 : ∀ y, (some r : Option (Mem ⊕ ((Mem × Int32) ⊕ (Bool × Mem)))).bind (Sum.elim (fun (z11 : Mem) => j_X11_isAlikeBy_108 1 z11) some) = y → l_X11_isAlikeBy_3 (i32 k) (i32 j) (i32 i) τ2 1 = y := fun y hy => by
    unfold l_X11_isAlikeBy_3
    rw [if_neg (by decide)]
    refine (w1 _).trans ?_
    rw [e3]
    exact hy
  unfold f_X11_isAlikeBy
  rw [loopO_eq]
  show ∃ b τ, (l_X11_isAlikeBy_3 (i32 k) (i32 j) (i32 i) σ 0).bind _ = some (b, τ) ∧ _
  rw [b0, e_bs]
  show ∃ b τ, loopO (fun (z2 : (Mem × Int32)) => l_X11_isAlikeBy_3 (i32 k) (i32 j) (i32 i) z2.1 z2.2) (τ2, 1) = some (b, τ) ∧ _
  rw [loopO_eq]
  show ∃ b τ, (l_X11_isAlikeBy_3 (i32 k) (i32 j) (i32 i) τ2 1).bind _ = some (b, τ) ∧ _
  rcases hr with ⟨rfl, hh⟩ | ⟨rfl, hh⟩
  · refine ⟨true, τ3, ?_, F3, ⟨fun _ => hO.mp hh, fun _ => rfl⟩⟩
    rw [b1 (some (Sum.inl (τ3, 2))) rfl, e_bs]
    show loopO (fun (z2 : (Mem × Int32)) => l_X11_isAlikeBy_3 (i32 k) (i32 j) (i32 i) z2.1 z2.2) (τ3, 2) = _
    rw [loopO_eq]
    show (l_X11_isAlikeBy_3 (i32 k) (i32 j) (i32 i) τ3 2).bind _ = _
    unfold l_X11_isAlikeBy_3
    rw [if_pos (by decide), e_bs]
    rfl
  · refine ⟨false, τ3, ?_, F3, ⟨fun q => absurd q (by decide), fun q => absurd (hO.mpr q) hh⟩⟩
    rw [b1 (some (Sum.inr (false, τ3))) rfl, e_bs]
    rfl
end RP
