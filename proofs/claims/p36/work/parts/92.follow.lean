/-! rows copied; the class's law follows the rules -/
section FW
variable {G : GD} {σ : Mem}
theorem cpI_get {a b n x y : Nat} : (cpI σ a b 0 0 n).1 x y = if x = b ∧ y < n then σ.1 a y else σ.1 x y := by
  show (if x = b then va_cpy (σ.1 a) (σ.1 b) 0 0 n y else σ.1 x y) = _
  by_cases h1 : x = b
  · rw [if_pos h1]
    unfold va_cpy
    by_cases h2 : y < n
    · rw [if_pos ⟨Nat.zero_le _, by omega⟩, if_pos ⟨h1, h2⟩, show 0 + (y - 0) = y by omega]
    · rw [if_neg (by omega), if_neg (fun z => h2 z.2), h1]
  · rw [if_neg h1, if_neg (fun z => h1 z.1)]
theorem cpL_get {a b n x y : Nat} : (cpL σ a b 0 0 n).2 x y = if x = b ∧ y < n then σ.2 a y else σ.2 x y := by
  show (if x = b then va_cpy (σ.2 a) (σ.2 b) 0 0 n y else σ.2 x y) = _
  by_cases h1 : x = b
  · rw [if_pos h1]
    unfold va_cpy
    by_cases h2 : y < n
    · rw [if_pos ⟨Nat.zero_le _, by omega⟩, if_pos ⟨h1, h2⟩, show 0 + (y - 0) = y by omega]
    · rw [if_neg (by omega), if_neg (fun z => h2 z.2), h1]
  · rw [if_neg h1, if_neg (fun z => h1 z.1)]
theorem e_cIn {α : Type} {a b n : Nat} {f : Mem → Option α} (ha : ln a = n) (hb : ln b = n) (hn : n < 2 ^ 31) : cI σ a 0 b 0 (Int32.ofNat n) f = f (cpI σ a b 0 0 n) := by
  unfold cI
  have h6 : (Int32.ofNat n).toNatClampNeg = n := i32_cl hn
  have h0 : (0 : Int32).toNatClampNeg = 0 := rfl
  have h7 : ¬ Int32.ofNat n < 0 := i_nlt (b := 0) (a := n) (Nat.zero_le _) hn
  rw [h6, h0, ha, hb, if_pos ⟨⟨by decide, by decide, h7⟩, by omega, by omega⟩]
/-- rules at an address -/
def RR2 (a : Nat) : Prop := rf a 1 = a + 1 ∧ rf a 2 = a + 2 ∧ ln (a + 1) = 6 ∧ ln (a + 2) = 216
theorem RR2_2 : RR2 2 := by unfold RR2; decide +kernel
theorem RR2_41 : RR2 41 := by unfold RR2; decide +kernel
theorem c_takeRules {a b : Nat} (ha : RR2 a) (hb : RR2 b) (hab : b + 3 ≤ a ∨ a + 3 ≤ b) :
    ∃ τ, f_X6_takeAll σ a b = some τ ∧ τ.2 = σ.2 ∧ (∀ x, x ≠ a → x ≠ a + 1 → x ≠ a + 2 → τ.1 x = σ.1 x) ∧ (∀ c, c ≠ 0 → τ.1 a c = σ.1 a c) ∧ τ.1 a 0 = σ.1 b 0 ∧ (∀ i, i < 6 → τ.1 (a + 1) i = σ.1 (b + 1) i) ∧ ∀ t, t < 216 → τ.1 (a + 2) t = σ.1 (b + 2) t := by
  unfold f_X6_takeAll
  rw [e_gF, e_pF, ha.1, ha.2.1, hb.1, hb.2.1, ha.2.2.1, ha.2.2.2, e_cIn hb.2.2.1 ha.2.2.1 (by omega), e_cIn hb.2.2.2 ha.2.2.2 (by omega)]
  refine ⟨_, rfl, rfl, fun x h1 h2 h3 => ?_, fun c hc => ?_, ?_, fun i hi => ?_, fun t ht => ?_⟩
  · funext y
    rw [cpI_get, if_neg (fun z => h3 z.1), cpI_get, if_neg (fun z => h2 z.1), wI_1, if_neg (fun z => h1 z.1)]
  · rw [cpI_get, if_neg (by omega), cpI_get, if_neg (by omega), wI_1, if_neg (fun z => hc z.2)]
  · rw [cpI_get, if_neg (by omega), cpI_get, if_neg (by omega), wI_1, if_pos ⟨rfl, rfl⟩]
  · rw [cpI_get, if_neg (by omega), cpI_get, if_pos ⟨rfl, hi⟩, wI_1, if_neg (by omega)]
  · rw [cpI_get, if_pos ⟨rfl, ht⟩, cpI_get, if_neg (by omega), wI_1, if_neg (by omega)]
theorem CG.copied {τ : Mem} {a b : Nat} (h : CG σ b G) (h0 : τ.1 a 0 = σ.1 b 0) (h1 : ∀ i, i < 6 → τ.1 (a + 1) i = σ.1 (b + 1) i) (h2 : ∀ t, t < 216 → τ.1 (a + 2) t = σ.1 (b + 2) t) : CG τ a G :=
  ⟨by rw [h0]; exact h.1, fun i hi => by rw [h1 i hi]; exact h.2.1 i hi, fun j i k hj hi hk => by rw [h2 _ (by omega)]; exact h.2.2 j i k hj hi hk⟩
/-- a loop over a row that stops where two differ -/
theorem c_isSame (a b : Nat) (ha : RR2 a) (hb : RR2 b) : ∃ r, f_X6_isSame σ a b = some r ∧ (r = true ↔ σ.1 a 0 = σ.1 b 0 ∧ (∀ i, i < 6 → σ.1 (a + 1) i = σ.1 (b + 1) i) ∧ ∀ t, t < 216 → σ.1 (a + 2) t = σ.1 (b + 2) t) := by
  unfold f_X6_isSame
  rw [e_gF, e_gF]
  by_cases h0 : σ.1 a 0 = σ.1 b 0
  · rw [if_pos h0]
    have l1 := loop_inv (body := fun (z6 : Int32) => l_X6_isSame_15 σ a b z6) (fun n z => ∃ i, i ≤ 6 ∧ n = 6 - i ∧ z = i32 i ∧ ∀ p, p < i → σ.1 (a + 1) p = σ.1 (b + 1) p) (fun r => (r = Sum.inl () ∧ ∀ i, i < 6 → σ.1 (a + 1) i = σ.1 (b + 1) i) ∨ (r = Sum.inr false ∧ ¬ ∀ i, i < 6 → σ.1 (a + 1) i = σ.1 (b + 1) i)) ?_ 6 0 ⟨0, by omega, rfl, rfl, fun p hp => absurd hp (Nat.not_lt_zero _)⟩
    · obtain ⟨r, e1, ⟨rfl, h1⟩ | ⟨rfl, h1⟩⟩ := l1
      · rw [e1, e_bs]
        have l2 := loop_inv (body := fun (z3 : Int32) => l_X6_isSame_49 σ a b z3) (fun n z => ∃ i, i ≤ 216 ∧ n = 216 - i ∧ z = i32 i ∧ ∀ p, p < i → σ.1 (a + 2) p = σ.1 (b + 2) p) (fun r => r = true ↔ ∀ i, i < 216 → σ.1 (a + 2) i = σ.1 (b + 2) i) ?_ 216 0 ⟨0, by omega, rfl, rfl, fun p hp => absurd hp (Nat.not_lt_zero _)⟩
        · obtain ⟨r, e2, h2⟩ := l2
          exact ⟨r, e2, h2.trans ⟨fun z => ⟨h0, h1, z⟩, fun z => z.2.2⟩⟩
        · rintro n z ⟨i, hi, rfl, rfl, hv⟩
          by_cases hi6 : i = 216
          · right
            subst hi6
            refine ⟨true, ?_, ⟨fun _ => hv, fun _ => rfl⟩⟩
            show l_X6_isSame_49 σ a b (i32 216) = _
            unfold l_X6_isSame_49
            rw [ha.2.1, ha.2.2.2, if_pos (show Int32.ofNat 216 ≤ i32 216 by decide)]
          · by_cases hq : σ.1 (a + 2) i = σ.1 (b + 2) i
            · left
              refine ⟨i32 (i + 1), 216 - (i + 1), by omega, ?_, i + 1, by omega, rfl, rfl, fun p hp => ?_⟩
              · show l_X6_isSame_49 σ a b (i32 i) = _
                unfold l_X6_isSame_49
                rw [ha.2.1, hb.2.1, ha.2.2.2, if_neg (show ¬ Int32.ofNat 216 ≤ i32 i from i_nle (b := i) (a := 216) (by omega) (by omega)), e_gI ha.2.2.2 (by omega) (by omega), e_gI hb.2.2.2 (by omega) (by omega), if_pos hq, i32_1, i32_add]
              · by_cases h5 : p = i
                · rw [h5]; exact hq
                · exact hv p (by omega)
            · right
              refine ⟨false, ?_, ⟨fun z => absurd z (by decide), fun z => absurd (z i (by omega)) hq⟩⟩
              show l_X6_isSame_49 σ a b (i32 i) = _
              unfold l_X6_isSame_49
              rw [ha.2.1, hb.2.1, ha.2.2.2, if_neg (show ¬ Int32.ofNat 216 ≤ i32 i from i_nle (b := i) (a := 216) (by omega) (by omega)), e_gI ha.2.2.2 (by omega) (by omega), e_gI hb.2.2.2 (by omega) (by omega), if_neg hq]
      · rw [e1, e_bs]
        exact ⟨false, rfl, ⟨fun z => absurd z (by decide), fun z => absurd z.2.1 h1⟩⟩
    · rintro n z ⟨i, hi, rfl, rfl, hv⟩
      by_cases hi6 : i = 6
      · right
        subst hi6
        refine ⟨Sum.inl (), ?_, Or.inl ⟨rfl, hv⟩⟩
        show l_X6_isSame_15 σ a b (i32 6) = _
        unfold l_X6_isSame_15
        rw [ha.1, ha.2.2.1, if_pos (show Int32.ofNat 6 ≤ i32 6 by decide)]
      · by_cases hq : σ.1 (a + 1) i = σ.1 (b + 1) i
        · left
          refine ⟨i32 (i + 1), 6 - (i + 1), by omega, ?_, i + 1, by omega, rfl, rfl, fun p hp => ?_⟩
          · show l_X6_isSame_15 σ a b (i32 i) = _
            unfold l_X6_isSame_15
            rw [ha.1, hb.1, ha.2.2.1, if_neg (show ¬ Int32.ofNat 6 ≤ i32 i from i_nle (b := i) (a := 6) (by omega) (by omega)), e_gI ha.2.2.1 (by omega) (by omega), e_gI hb.2.2.1 (by omega) (by omega), if_pos hq, i32_1, i32_add]
          · by_cases h5 : p = i
            · rw [h5]; exact hq
            · exact hv p (by omega)
        · right
          refine ⟨Sum.inr false, ?_, Or.inr ⟨rfl, fun z => hq (z i (by omega))⟩⟩
          show l_X6_isSame_15 σ a b (i32 i) = _
          unfold l_X6_isSame_15
          rw [ha.1, hb.1, ha.2.2.1, if_neg (show ¬ Int32.ofNat 6 ≤ i32 i from i_nle (b := i) (a := 6) (by omega) (by omega)), e_gI ha.2.2.1 (by omega) (by omega), e_gI hb.2.2.1 (by omega) (by omega), if_neg hq]
  · rw [if_neg h0]
    exact ⟨false, rfl, ⟨fun z => absurd z (by decide), fun z => absurd z.1 h0⟩⟩
/-- what the class's law knows of its rules -/
def LawSt (σ : Mem) (G : GD) : Prop := ∃ c, σ.1 40 3 = b2i c ∧ (c = true ↔ Cons G) ∧ (c = true → CPoly G σ) ∧ (c = false → ∀ k, k < 6 → CT G σ k [])
theorem c_clearSums : ∃ τ, loopO (fun (z12 : (Mem × Int32)) => l_X4_follow_40 z12.1 z12.2) (σ, 0) = some τ ∧ τ.2 = σ.2 ∧ (∀ x, x < 48 ∨ 71 < x → τ.1 x = σ.1 x) ∧ ∀ k, k < 6 → τ.1 (48 + 4 * k) 0 = 0 := by
  refine loop_inv (body := fun (z12 : (Mem × Int32)) => l_X4_follow_40 z12.1 z12.2) (fun n z => ∃ k τ, k ≤ 6 ∧ n = 6 - k ∧ z = (τ, i32 k) ∧ τ.2 = σ.2 ∧ (∀ x, x < 48 ∨ 71 < x → τ.1 x = σ.1 x) ∧ ∀ p, p < k → τ.1 (48 + 4 * p) 0 = 0) _ ?_ 6 (σ, 0) ⟨0, σ, by omega, rfl, rfl, rfl, fun _ _ => rfl, fun p hp => absurd hp (Nat.not_lt_zero _)⟩
  rintro n z ⟨k, τ, hk, rfl, rfl, o1, o2, v⟩
  by_cases hk6 : k = 6
  · right
    subst hk6
    refine ⟨τ, ?_, o1, o2, v⟩
    show l_X4_follow_40 τ (i32 6) = _
    unfold l_X4_follow_40
    rw [if_pos (by decide)]
  · left
    refine ⟨(wI τ (48 + 4 * k) 0 0, i32 (k + 1)), 6 - (k + 1), by omega, ?_, k + 1, _, by omega, rfl, rfl, o1, fun x hx => ?_, fun p hp => ?_⟩
    · show l_X4_follow_40 τ (i32 k) = _
      unfold l_X4_follow_40
      rw [i32_6, if_neg (i_nle (by omega) (by omega)), e_gR ln_44 (by omega) (by omega), rf_44 (by omega), e_pF, i32_1, i32_add]
    · funext y; rw [wI_1, if_neg (by omega), o2 x hx]
    · rw [wI_1]
      by_cases h1 : p = k
      · rw [if_pos (by omega)]
      · rw [if_neg (by omega)]; exact v p (by omega)
/-- what following changes: the collector and the law alone -/
def FWo (σ τ : Mem) : Prop := ∀ x, x < 35 ∨ 71 < x → τ.1 x = σ.1 x ∧ τ.2 x = σ.2 x
theorem FWo.refl : FWo σ σ := fun _ _ => ⟨rfl, rfl⟩
theorem FWo.trans {τ υ : Mem} (h : FWo σ τ) (k : FWo τ υ) : FWo σ υ := fun x hx => ⟨(k x hx).1.trans (h x hx).1, (k x hx).2.trans (h x hx).2⟩
theorem c_follow (hG : GOK G) (h : CG σ 2 G) {ed : Nat} (hed : σ.1 40 4 = i32 ed) (hL : CG σ 41 G → LawSt σ G) :
    ∃ τ, f_X4_follow σ 2 = some τ ∧ FWo σ τ ∧ CG τ 41 G ∧ LawSt τ G ∧ (τ = σ ∨ τ.1 40 4 = i32 (ed + 1)) := by
  have hn := hG.2.1
  unfold f_X4_follow
  obtain ⟨b, e1, hb⟩ := c_isSame (σ := σ) 41 2 RR2_41 RR2_2
  rw [e1, e_bs]
  cases b with
  | true =>
    rw [if_pos rfl]
    have h1 := hb.mp rfl
    have m := h.copied (τ := σ) (a := 41) h1.1 h1.2.1 h1.2.2
    exact ⟨σ, rfl, FWo.refl, m, hL m, Or.inl rfl⟩
  | false =>
    rw [if_neg (by decide)]
    obtain ⟨σ2, e2, l2, i2, _, a0, a1, a2⟩ := c_takeRules (σ := σ) RR2_41 RR2_2 (by omega)
    have m2 : CG σ2 41 G := h.copied a0 a1 a2
    have hed2 : σ2.1 40 4 = i32 ed := by rw [i2 40 (by omega) (by omega) (by omega)]; exact hed
    rw [e2, e_bs, e_gF, hed2, e_pF, i32_1, i32_add]
    have F4 : ∀ x, x ≠ 40 → (wI σ2 40 4 (i32 (ed + 1))).1 x = σ2.1 x := fun x hx => by funext y; rw [wI_1, if_neg (fun z => hx z.1)]
    have m4 : CG (wI σ2 40 4 (i32 (ed + 1))) 41 G := by
      unfold CG
      rw [F4 41 (by omega), F4 (41 + 1) (by omega), F4 (41 + 2) (by omega)]
      exact m2
    have ed4 : (wI σ2 40 4 (i32 (ed + 1))).1 40 4 = i32 (ed + 1) := by rw [wI_1, if_pos ⟨rfl, rfl⟩]
    have W4 : FWo σ (wI σ2 40 4 (i32 (ed + 1))) := fun x hx => ⟨by rw [F4 x (by omega), i2 x (by omega) (by omega) (by omega)], by rw [wI_2, l2]⟩
    generalize wI σ2 40 4 (i32 (ed + 1)) = σ4 at F4 m4 ed4 W4
    obtain ⟨c, σ6, e6, f6, hc⟩ := c_overlaps hG m4
    rw [e6, e_bq, e_pF]
    have F7 : ∀ x, x ≠ 40 → (wI σ6 40 3 (b2i c)).1 x = σ6.1 x := fun x hx => by funext y; rw [wI_1, if_neg (fun z => hx z.1)]
    have W7 : FWo σ (wI σ6 40 3 (b2i c)) := W4.trans (fun x hx => ⟨by rw [F7 x (by omega), f6.2 x (by omega) (by omega) (by omega) (by omega) (by omega) (by omega)], by rw [wI_2, f6.1]⟩)
    have ed7 : (wI σ6 40 3 (b2i c)).1 40 4 = i32 (ed + 1) := by
      rw [wI_1, if_neg (by omega), f6.2 40 (by omega) (by omega) (by omega) (by omega) (by omega) (by omega)]; exact ed4
    have c7 : (wI σ6 40 3 (b2i c)).1 40 3 = b2i c := by rw [wI_1, if_pos ⟨rfl, rfl⟩]
    have m7 : CG (wI σ6 40 3 (b2i c)) 41 G := by
      have := m4.fo f6
      unfold CG
      rw [F7 41 (by omega), F7 (41 + 1) (by omega), F7 (41 + 2) (by omega)]
      exact this
    generalize wI σ6 40 3 (b2i c) = σ7 at F7 W7 ed7 c7 m7
    obtain ⟨σ8, e8, l8, i8, z8⟩ := c_clearSums (σ := σ7)
    have m8 : CG σ8 41 G := by
      unfold CG
      rw [i8 41 (by omega), i8 (41 + 1) (by omega), i8 (41 + 2) (by omega)]
      exact m7
    have W8 : FWo σ σ8 := W7.trans (fun x hx => ⟨i8 x (by omega), by rw [l8]⟩)
    have c8 : σ8.1 40 3 = b2i c := by rw [i8 40 (by omega)]; exact c7
    have ed8 : σ8.1 40 4 = i32 (ed + 1) := by rw [i8 40 (by omega)]; exact ed7
    rw [e8, e_bs]
    unfold j_X4_follow_62
    rw [e_gZ c8]
    cases c with
    | false =>
      rw [if_neg (by decide)]
      exact ⟨σ8, rfl, W8, m8, ⟨false, c8, hc, fun z => absurd z (by decide), fun _ k hk => ⟨by rw [z8 k hk]; rfl, fun t e he => by simp at he⟩⟩, Or.inr ed8⟩
    | true =>
      rw [if_pos rfl]
      obtain ⟨σ9, e9, w9, i9, g9, p9⟩ := c_findTerms hG m8 z8
      rw [e9, e_bs]
      refine ⟨σ9, rfl, W8.trans (fun x hx => w9 x hx), ?_, ⟨true, by rw [g9 3 (by omega)]; exact c8, hc, fun _ => p9, fun z => absurd z (by decide)⟩, Or.inr (by rw [g9 4 (by omega)]; exact ed8)⟩
      unfold CG
      rw [i9 41 (by omega) (by omega), i9 (41 + 1) (by omega) (by omega), i9 (41 + 2) (by omega) (by omega)]
      exact m8
end FW

