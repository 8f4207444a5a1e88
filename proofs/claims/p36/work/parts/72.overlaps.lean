/-! the class's overlaps, all -/
section OW
variable {G : GD} {σ : Mem}
def OvA (G : GD) (k j i : Nat) : Prop := ∀ m, m < 6 → TLs G O (OV0 G k j i) m = TLs G O (OV1 G k j i) m
/-- consistent: every three letters agree -/
def Cons (G : GD) : Prop := ∀ k j i, k < gn G → j < k → i < j → OvA G k j i
theorem FO.refl : FO σ σ := ⟨rfl, fun _ _ _ _ _ _ _ => rfl⟩
theorem c_ov3 (hG : GOK G) (h : CG σ 41 G) {k j : Nat} (hk : k < gn G) (hj : j < k) :
    ∃ r, loopO (fun (z9 : Mem × Int32) => l_X4_areOverlapsAlike_22 (i32 k) (i32 j) z9.1 z9.2) (σ, 0) = some r ∧ ((∃ τ, r = Sum.inl τ ∧ FO σ τ ∧ ∀ i, i < j → OvA G k j i) ∨ ∃ τ, r = Sum.inr (Sum.inr (Sum.inr (Sum.inr (false, τ)))) ∧ FO σ τ ∧ ¬ Cons G) := by
  have hn := hG.2.1
  refine loop_inv (body := fun (z9 : Mem × Int32) => l_X4_areOverlapsAlike_22 (i32 k) (i32 j) z9.1 z9.2) (fun n z => ∃ i τ, i ≤ j ∧ n = j - i ∧ z = (τ, i32 i) ∧ FO σ τ ∧ ∀ p, p < i → OvA G k j p) _ ?_ j (σ, 0) ⟨0, σ, Nat.zero_le _, by omega, rfl, FO.refl, fun p hp => absurd hp (Nat.not_lt_zero _)⟩
  rintro n z ⟨i, τ, hi, rfl, rfl, f, hv⟩
  by_cases hij : i = j
  · right
    refine ⟨Sum.inl τ, ?_, Or.inl ⟨τ, rfl, f, fun p hp => hv p (by omega)⟩⟩
    show l_X4_areOverlapsAlike_22 (i32 k) (i32 j) τ (i32 i) = _
    unfold l_X4_areOverlapsAlike_22
    rw [if_pos (i_le (by omega) (by omega))]
  · obtain ⟨b, υ, e, f2, hb⟩ := c_overlap hG (h.fo f) hk hj (show i < j by omega)
    cases b with
    | true =>
      left
      refine ⟨(υ, i32 (i + 1)), j - (i + 1), by omega, ?_, i + 1, υ, by omega, rfl, rfl, f.trans f2, fun p hp => ?_⟩
      · show l_X4_areOverlapsAlike_22 (i32 k) (i32 j) τ (i32 i) = _
        unfold l_X4_areOverlapsAlike_22
        rw [if_neg (i_nle (by omega) (by omega)), e, e_bq, if_pos rfl, i32_1, i32_add]
      · by_cases h1 : p = i
        · rw [h1]; exact hb.mp rfl
        · exact hv p (by omega)
    | false =>
      right
      refine ⟨_, ?_, Or.inr ⟨υ, rfl, f.trans f2, fun q => absurd (hb.mpr (q k j i hk hj (by omega))) (by decide)⟩⟩
      show l_X4_areOverlapsAlike_22 (i32 k) (i32 j) τ (i32 i) = _
      unfold l_X4_areOverlapsAlike_22
      rw [if_neg (i_nle (by omega) (by omega)), e, e_bq, if_neg (by decide)]
theorem c_ov2 (hG : GOK G) (h : CG σ 41 G) {k : Nat} (hk : k < gn G) (hk2 : 2 ≤ k) :
    ∃ r, loopO (fun (z6 : Mem × Int32) => l_X4_areOverlapsAlike_15 (i32 k) z6.1 z6.2) (σ, 1) = some r ∧ ((∃ τ, r = Sum.inl τ ∧ FO σ τ ∧ ∀ j i, j < k → i < j → OvA G k j i) ∨ ∃ τ, r = Sum.inr (Sum.inr (false, τ)) ∧ FO σ τ ∧ ¬ Cons G) := by
  have hn := hG.2.1
  refine loop_inv (body := fun (z6 : Mem × Int32) => l_X4_areOverlapsAlike_15 (i32 k) z6.1 z6.2) (fun n z => ∃ j τ, 1 ≤ j ∧ j ≤ k ∧ n = k - j ∧ z = (τ, i32 j) ∧ FO σ τ ∧ ∀ p i, p < j → i < p → OvA G k p i) _ ?_ (k - 1) (σ, 1) ⟨1, σ, Nat.le_refl _, by omega, rfl, rfl, FO.refl, fun p i hp hi => by omega⟩
  rintro n z ⟨j, τ, hj1, hj, rfl, rfl, f, hv⟩
  by_cases hij : j = k
  · right
    refine ⟨Sum.inl τ, ?_, Or.inl ⟨τ, rfl, f, fun p q hp hq => hv p q (by omega) hq⟩⟩
    show l_X4_areOverlapsAlike_15 (i32 k) τ (i32 j) = _
    unfold l_X4_areOverlapsAlike_15
    rw [if_pos (i_le (by omega) (by omega))]
  · obtain ⟨r, e, ⟨υ, rfl, f2, hb⟩ | ⟨υ, rfl, f2, hb⟩⟩ := c_ov3 hG (h.fo f) hk (show j < k by omega)
    · left
      refine ⟨(υ, i32 (j + 1)), k - (j + 1), by omega, ?_, j + 1, υ, by omega, by omega, rfl, rfl, f.trans f2, fun p i hp hi => ?_⟩
      · show l_X4_areOverlapsAlike_15 (i32 k) τ (i32 j) = _
        unfold l_X4_areOverlapsAlike_15
        rw [if_neg (i_nle (by omega) (by omega)), e, e_bs]
        show j_X4_areOverlapsAlike_45 (i32 j) υ = _
        unfold j_X4_areOverlapsAlike_45
        rw [i32_1, i32_add]
      · by_cases h1 : p = j
        · rw [h1] at hi ⊢; exact hb i hi
        · exact hv p i (by omega) hi
    · right
      refine ⟨_, ?_, Or.inr ⟨υ, rfl, f.trans f2, hb⟩⟩
      show l_X4_areOverlapsAlike_15 (i32 k) τ (i32 j) = _
      unfold l_X4_areOverlapsAlike_15
      rw [if_neg (i_nle (by omega) (by omega)), e, e_bs]
      rfl
theorem c_overlaps (hG : GOK G) (h : CG σ 41 G) : ∃ b τ, f_X4_areOverlapsAlike σ = some (b, τ) ∧ FO σ τ ∧ (b = true ↔ Cons G) := by
  have hn := hG.2.1
  unfold f_X4_areOverlapsAlike
  have hl := loop_inv (body := fun (z2 : Mem × Int32) => l_X4_areOverlapsAlike_2 z2.1 z2.2) (fun n z => ∃ k τ, 2 ≤ k ∧ n = 8 - k ∧ k ≤ 7 ∧ z = (τ, i32 k) ∧ FO σ τ ∧ ∀ p j i, p < k → p < gn G → j < p → i < j → OvA G p j i) (fun r => ∃ b τ, r = (b, τ) ∧ FO σ τ ∧ (b = true ↔ Cons G)) ?_ 6 (σ, 2) ⟨2, σ, Nat.le_refl _, by omega, by omega, rfl, FO.refl, fun p j i h1 h2 h3 h4 => by omega⟩
  · obtain ⟨r, e, b, τ, rfl, f, hb⟩ := hl
    exact ⟨b, τ, e, f, hb⟩
  · rintro n z ⟨k, τ, hk2, rfl, hk7, rfl, f, hv⟩
    have hm := h.fo f
    by_cases hkn : gn G ≤ k
    · right
      refine ⟨(true, τ), ?_, true, τ, rfl, f, ⟨fun _ p j i h1 h2 h3 => hv p j i (by omega) h1 h2 h3, fun _ => rfl⟩⟩
      show l_X4_areOverlapsAlike_2 τ (i32 k) = _
      unfold l_X4_areOverlapsAlike_2
      rw [e_gF, hm.1, if_pos (i_le hkn (by omega))]
    · obtain ⟨r, e, ⟨υ, rfl, f2, hb⟩ | ⟨υ, rfl, f2, hb⟩⟩ := c_ov2 hG hm (show k < gn G by omega) hk2
      · left
        refine ⟨(υ, i32 (k + 1)), 8 - (k + 1), by omega, ?_, k + 1, υ, by omega, by omega, by omega, rfl, f.trans f2, fun p j i h1 h2 h3 h4 => ?_⟩
        · show l_X4_areOverlapsAlike_2 τ (i32 k) = _
          unfold l_X4_areOverlapsAlike_2
          rw [e_gF, hm.1, if_neg (i_nle (by omega) (by omega)), e, e_bs]
          show j_X4_areOverlapsAlike_51 (i32 k) υ = _
          unfold j_X4_areOverlapsAlike_51
          rw [i32_1, i32_add]
        · by_cases h5 : p = k
          · rw [h5] at h3 ⊢; exact hb j i h3 h4
          · exact hv p j i (by omega) h2 h3 h4
      · right
        refine ⟨(false, υ), ?_, false, υ, rfl, f.trans f2, ⟨fun q => absurd q (by decide), fun q => absurd q hb⟩⟩
        show l_X4_areOverlapsAlike_2 τ (i32 k) = _
        unfold l_X4_areOverlapsAlike_2
        rw [e_gF, hm.1, if_neg (i_nle (by omega) (by omega)), e, e_bs]
        rfl
end OW

