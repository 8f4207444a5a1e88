/-! whether it is a group: the reference's answer -/
section RL
variable {G : GD} {σ : Mem}
def FZ (σ τ : Mem) : Prop := τ.2 = σ.2 ∧ (∀ x, x ≠ 306 → x ≠ 309 → x ≠ 310 → τ.1 x = σ.1 x) ∧ ∀ c, c ≠ 6 → c ≠ 7 → c ≠ 10 → τ.1 306 c = σ.1 306 c
theorem FZ.refl : FZ σ σ := ⟨rfl, fun _ _ _ _ => rfl, fun _ _ _ _ => rfl⟩
theorem FZ.trans {τ υ : Mem} (h : FZ σ τ) (k : FZ τ υ) : FZ σ υ := ⟨k.1.trans h.1, fun x h1 h2 h3 => (k.2.1 x h1 h2 h3).trans (h.2.1 x h1 h2 h3), fun c h1 h2 h3 => (k.2.2 c h1 h2 h3).trans (h.2.2 c h1 h2 h3)⟩
theorem FY.fz {τ : Mem} (h : FY σ τ) : FZ σ τ := ⟨h.1, h.2.1, fun c h1 h2 _ => h.2.2 c h1 h2⟩
theorem MG.fz {τ : Mem} (h : MG σ G) (k : FZ σ τ) : MG τ G := by
  unfold MG
  rw [k.2.1 307 (by omega) (by omega) (by omega)]
  exact h
theorem FZ.g10 {v : Int32} : FZ σ (wI σ 306 10 v) := ⟨rfl, fun x h1 _ _ => by funext y; rw [wI_1, if_neg (fun z => h1 z.1)], fun c _ _ h3 => by rw [wI_1, if_neg (fun z => h3 z.2)]⟩
theorem r_l37 (h : MG σ G) (hG : GOK G) {k j : Nat} (hk : k < gn G) (hj : j < k) {P : Prop} {b0 : Bool} (hb0 : σ.1 306 10 = b2i b0) (hP : b0 = true ↔ P) :
    ∃ τ, loopO (fun (z22 : (Mem × Int32)) => l_X11_lays_37 (i32 k) (i32 j) z22.1 z22.2) (σ, 0) = some τ ∧ FZ σ τ ∧ ∃ b, τ.1 306 10 = b2i b ∧ (b = true ↔ P ∧ ∀ p, p < j → OvA G k j p) := by
  have hn := hG.2.1
  refine loop_inv (body := fun (z22 : (Mem × Int32)) => l_X11_lays_37 (i32 k) (i32 j) z22.1 z22.2) (fun n z => ∃ i τ, i ≤ j ∧ n = j - i ∧ z = (τ, i32 i) ∧ FZ σ τ ∧ ∃ b, τ.1 306 10 = b2i b ∧ (b = true ↔ P ∧ ∀ p, p < i → OvA G k j p)) _ ?_ j (σ, 0) ⟨0, σ, Nat.zero_le _, by omega, rfl, FZ.refl, b0, hb0, hP.trans ⟨fun z => ⟨z, fun p hp => absurd hp (Nat.not_lt_zero _)⟩, fun z => z.1⟩⟩
  rintro n z ⟨i, τ, hi, rfl, rfl, f, b, hb, hB⟩
  by_cases hij : i = j
  · right
    subst hij
    refine ⟨τ, ?_, f, b, hb, hB⟩
    show l_X11_lays_37 (i32 k) (i32 i) τ (i32 i) = _
    unfold l_X11_lays_37
    rw [if_pos (i_le (Nat.le_refl _) (by omega))]
  · left
    cases b with
    | false =>
      refine ⟨(wI τ 306 10 (b2i false), i32 (i + 1)), j - (i + 1), by omega, ?_, i + 1, _, by omega, rfl, rfl, f.trans FZ.g10, false, by rw [wI_1, if_pos ⟨rfl, rfl⟩], ⟨fun q => absurd q (by decide), fun q => hB.mpr ⟨q.1, fun p hp => q.2 p (by omega)⟩⟩⟩
      show l_X11_lays_37 (i32 k) (i32 j) τ (i32 i) = _
      unfold l_X11_lays_37
      rw [if_neg (i_nle (by omega) (by omega)), e_gZ hb, if_neg (by decide), e_bs]
      show (j_X11_lays_64 τ).bind _ = _
      unfold j_X11_lays_64
      rw [e_bs]
      show j_X11_lays_65 (i32 i) τ false = _
      unfold j_X11_lays_65
      rw [e_pF, i32_1, i32_add]
    | true =>
      obtain ⟨c, υ, e, f2, hc⟩ := r_alikeBy (h.fz f) hG hk hj (show i < j by omega)
      refine ⟨(wI υ 306 10 (b2i c), i32 (i + 1)), j - (i + 1), by omega, ?_, i + 1, _, by omega, rfl, rfl, f.trans (f2.fz.trans FZ.g10), c, by rw [wI_1, if_pos ⟨rfl, rfl⟩], ?_⟩
      · show l_X11_lays_37 (i32 k) (i32 j) τ (i32 i) = _
        unfold l_X11_lays_37
        rw [if_neg (i_nle (by omega) (by omega)), e_gZ hb, if_pos rfl, e, e_bq]
        cases c with
        | true =>
          rw [if_pos rfl, e_bs]
          show (some (υ, true) : Option (Mem × Bool)).bind _ = _
          rw [e_bs]
          show j_X11_lays_65 (i32 i) υ true = _
          unfold j_X11_lays_65
          rw [e_pF, i32_1, i32_add]
        | false =>
          rw [if_neg (by decide), e_bs]
          show (j_X11_lays_64 υ).bind _ = _
          unfold j_X11_lays_64
          rw [e_bs]
          show j_X11_lays_65 (i32 i) υ false = _
          unfold j_X11_lays_65
          rw [e_pF, i32_1, i32_add]
      · rw [hc]
        have hB' := hB.mp rfl
        refine ⟨fun q => ⟨hB'.1, fun p hp => ?_⟩, fun q => q.2 i (by omega)⟩
        by_cases h1 : p = i
        · rw [h1]; exact q
        · exact hB'.2 p (by omega)
theorem r_l30 (h : MG σ G) (hG : GOK G) {k : Nat} (hk : k < gn G) {P : Prop} {b0 : Bool} (hb0 : σ.1 306 10 = b2i b0) (hP : b0 = true ↔ P) :
    ∃ τ, loopO (fun (z19 : (Mem × Int32)) => l_X11_lays_30 (i32 k) z19.1 z19.2) (σ, 0) = some τ ∧ FZ σ τ ∧ ∃ b, τ.1 306 10 = b2i b ∧ (b = true ↔ P ∧ ∀ j p, j < k → p < j → OvA G k j p) := by
  have hn := hG.2.1
  refine loop_inv (body := fun (z19 : (Mem × Int32)) => l_X11_lays_30 (i32 k) z19.1 z19.2) (fun n z => ∃ j τ, j ≤ k ∧ n = k - j ∧ z = (τ, i32 j) ∧ FZ σ τ ∧ ∃ b, τ.1 306 10 = b2i b ∧ (b = true ↔ P ∧ ∀ q p, q < j → p < q → OvA G k q p)) _ ?_ k (σ, 0) ⟨0, σ, Nat.zero_le _, by omega, rfl, FZ.refl, b0, hb0, hP.trans ⟨fun z => ⟨z, fun q p hq => absurd hq (Nat.not_lt_zero _)⟩, fun z => z.1⟩⟩
  rintro n z ⟨j, τ, hj, rfl, rfl, f, b, hb, hB⟩
  by_cases hjk : j = k
  · right
    subst hjk
    refine ⟨τ, ?_, f, b, hb, hB⟩
    show l_X11_lays_30 (i32 j) τ (i32 j) = _
    unfold l_X11_lays_30
    rw [if_pos (i_le (Nat.le_refl _) (by omega))]
  · left
    obtain ⟨υ, e, f2, c, hc, hC⟩ := r_l37 (h.fz f) hG hk (show j < k by omega) hb hB
    refine ⟨(υ, i32 (j + 1)), k - (j + 1), by omega, ?_, j + 1, υ, by omega, rfl, rfl, f.trans f2, c, hc, hC.trans ⟨fun z => ⟨z.1.1, fun q p hq hp => ?_⟩, fun z => ⟨⟨z.1, fun q p hq hp => z.2 q p (by omega) hp⟩, fun p hp => z.2 j p (by omega) hp⟩⟩⟩
    · show l_X11_lays_30 (i32 k) τ (i32 j) = _
      unfold l_X11_lays_30
      rw [if_neg (i_nle (by omega) (by omega)), e, e_bs]
      unfold j_X11_lays_74
      rw [i32_1, i32_add]
    · by_cases h1 : q = j
      · rw [h1] at hp ⊢; exact z.2 p hp
      · exact z.1.2 q p (by omega) hp
theorem r_l20 (h : MG σ G) (hG : GOK G) (hb0 : σ.1 306 10 = b2i true) :
    ∃ τ, loopO (fun (z15 : (Mem × Int32)) => l_X11_lays_20 z15.1 z15.2) (σ, 0) = some τ ∧ FZ σ τ ∧ ∃ b, τ.1 306 10 = b2i b ∧ (b = true ↔ Cons G) := by
  have hn := hG.2.1
  refine loop_inv (body := fun (z15 : (Mem × Int32)) => l_X11_lays_20 z15.1 z15.2) (fun n z => ∃ k τ, k ≤ gn G ∧ n = gn G - k ∧ z = (τ, i32 k) ∧ FZ σ τ ∧ ∃ b, τ.1 306 10 = b2i b ∧ (b = true ↔ ∀ r j i, r < k → j < r → i < j → OvA G r j i)) _ ?_ (gn G) (σ, 0) ⟨0, σ, Nat.zero_le _, by omega, rfl, FZ.refl, true, hb0, ⟨fun _ r j i hr => absurd hr (Nat.not_lt_zero _), fun _ => rfl⟩⟩
  rintro n z ⟨k, τ, hk, rfl, rfl, f, b, hb, hB⟩
  by_cases hkn : k = gn G
  · right
    subst hkn
    refine ⟨τ, ?_, f, b, hb, hB⟩
    show l_X11_lays_20 τ (i32 (gn G)) = _
    unfold l_X11_lays_20
    rw [e_n (h.fz f), e_bs, if_pos (i_le (Nat.le_refl _) (by omega))]
  · left
    obtain ⟨υ, e, f2, c, hc, hC⟩ := r_l30 (h.fz f) hG (show k < gn G by omega) hb hB
    refine ⟨(υ, i32 (k + 1)), gn G - (k + 1), by omega, ?_, k + 1, υ, by omega, rfl, rfl, f.trans f2, c, hc, hC.trans ⟨fun z r j i hr hj hi => ?_, fun z => ⟨fun r j i hr hj hi => z r j i (by omega) hj hi, fun j p hj hp => z k j p (by omega) hj hp⟩⟩⟩
    · show l_X11_lays_20 τ (i32 k) = _
      unfold l_X11_lays_20
      rw [e_n (h.fz f), e_bs, if_neg (i_nle (by omega) (by omega)), e, e_bs]
      unfold j_X11_lays_80
      rw [i32_1, i32_add]
    · by_cases h1 : r = k
      · rw [h1] at hj ⊢; exact z.2 j i hj hi
      · exact z.1 r j i (by omega) hj hi
end RL
