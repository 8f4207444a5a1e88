/-! the reference's alike: the call ends -/
section RCL
variable {σ : Mem} {G : GD} {f : SF}
theorem in30 {z : Int} (h : -999 ≤ z ∧ z ≤ 999) : f_X11_isIn σ (oi z) (-30) 30 = some (decide (-30 ≤ z ∧ z ≤ 30)) := by
  have := r_inL (σ := σ) (x := oi z) (l := -30) (u := 30) ⟨by omega, by omega⟩ ⟨by omega, by omega⟩
  rw [oi_toInt (by omega) (by omega)] at this
  exact this
theorem r_in30 (hG : GOK G) (hM : MG σ G) (hA : ∀ i, -999 ≤ f 0 i ∧ f 0 i ≤ 999) (hY : ∀ i, -999 ≤ f 1 i ∧ f 1 i ≤ 999) : ∃ x, loopO (fun (z10 : Int32) => l_X11_alike_44 (PS σ f) z10) 0 = some x ∧ ((x = Sum.inl () ∧ (∀ i, i < gn G → -30 ≤ f 0 i ∧ f 0 i ≤ 30) ∧ ∀ i, i < gn G → -30 ≤ f 1 i ∧ f 1 i ≤ 30) ∨ (x = Sum.inr (-2, PS σ f) ∧ ¬ ∀ i, i < gn G → (-30 ≤ f 0 i ∧ f 0 i ≤ 30) ∧ -30 ≤ f 1 i ∧ f 1 i ≤ 30)) := by
  have hn := hG.2.1
  refine loop_inv (body := fun (z10 : Int32) => l_X11_alike_44 (PS σ f) z10) (fun n z => ∃ i, i ≤ gn G ∧ n = gn G - i ∧ z = i32 i ∧ ∀ k, k < i → (-30 ≤ f 0 k ∧ f 0 k ≤ 30) ∧ -30 ≤ f 1 k ∧ f 1 k ≤ 30) _ ?_ (gn G) 0 ⟨0, by omega, rfl, rfl, fun k hk => absurd hk (Nat.not_lt_zero _)⟩
  rintro n z ⟨i, hi, rfl, rfl, hz⟩
  by_cases hin : i = gn G
  · right
    subst hin
    refine ⟨_, ?_, Or.inl ⟨rfl, fun i hi => (hz i hi).1, fun i hi => (hz i hi).2⟩⟩
    unfold l_X11_alike_44
    rw [e_n (PS_MG hM), e_bs, if_pos (i_le (Nat.le_refl _) (by omega))]
  · have p0 : f_X11_of (PS σ f) 0 (i32 i) = some (oi (f 0 i)) := p_of (s := 0) (by omega) (by omega)
    have p1 : f_X11_of (PS σ f) 1 (i32 i) = some (oi (f 1 i)) := p_of (s := 1) (by omega) (by omega)
    by_cases h1 : -30 ≤ f 0 i ∧ f 0 i ≤ 30
    · by_cases h2 : -30 ≤ f 1 i ∧ f 1 i ≤ 30
      · left
        refine ⟨i32 (i + 1), gn G - (i + 1), by omega, ?_, i + 1, by omega, rfl, rfl, fun k hk => ?_⟩
        · unfold l_X11_alike_44
          rw [e_n (PS_MG hM), e_bs, if_neg (i_nle (by omega) (by omega)), p0, e_bs, in30 (hA i), e_bs, decide_eq_true h1, if_pos rfl, p1, e_bs, in30 (hY i), e_bs, decide_eq_true h2, if_pos rfl, i32_1, i32_add]
        · by_cases hki : k = i
          · rw [hki]; exact ⟨h1, h2⟩
          · exact hz k (by omega)
      · right
        refine ⟨_, ?_, Or.inr ⟨rfl, fun q => h2 (q i (by omega)).2⟩⟩
        unfold l_X11_alike_44
        rw [e_n (PS_MG hM), e_bs, if_neg (i_nle (by omega) (by omega)), p0, e_bs, in30 (hA i), e_bs, decide_eq_true h1, if_pos rfl, p1, e_bs, in30 (hY i), e_bs, decide_eq_false h2, if_neg (by decide)]
    · right
      refine ⟨_, ?_, Or.inr ⟨rfl, fun q => h1 (q i (by omega)).1⟩⟩
      unfold l_X11_alike_44
      rw [e_n (PS_MG hM), e_bs, if_neg (i_nle (by omega) (by omega)), p0, e_bs, in30 (hA i), e_bs, decide_eq_false h1, if_neg (by decide)]
theorem r_alikeC {S : AS} {x y : Int32} (ok : OKS S) (hr : IRef S σ) : ∃ r τ, f_X11_alike σ x y = some (r, τ) ∧ IRef S τ ∧ LO σ τ := by
  have hG : GOK (aG S) := ok.1.1
  have hn : gn (aG S) ≤ 6 := hG.2.1
  have f0 : LO σ (wI σ 306 0 0) := LO.row (by omega)
  unfold f_X11_alike
  rw [e_pF, r_isReg, e_bs]
  cases hx : isReg x with
  | false => exact ⟨-1, _, by rw [if_neg (by decide)], hr.told, f0⟩
  | true =>
    rw [if_pos rfl, r_isReg, e_bs]
    cases hy : isReg y with
    | false => exact ⟨-1, _, by rw [if_neg (by decide)], hr.told, f0⟩
    | true =>
      obtain ⟨b3, τ, e3, q3, l3, _, _, hc3⟩ := r_cons hr.told ok
      rw [if_pos rfl, e3, e_bq]
      cases hb : b3 with
      | false => exact ⟨-1, τ, by rw [if_neg (by decide)], q3, f0.trans l3⟩
      | true =>
        have hJ := Cons.jac hG (hc3.mp hb)
        obtain ⟨p, hp, rfl⟩ := isReg_idx hx
        obtain ⟨q, hq, rfl⟩ := isReg_idx hy
        obtain ⟨⟨f, hf⟩, hI, hL, hM, h0, hRB⟩ := at_slots q3
        have a1 : f_X11_laysRegister τ 0 (i32 p) = some (PS τ (uS f 0 (aR S p))) := by
          have := p_lays (σ := τ) (f := f) hRB ok (s := 0) (by omega) hp
          rw [hf] at this
          exact this
        have a2 : f_X11_laysRegister (PS τ (uS f 0 (aR S p))) 1 (i32 q) = some (PS τ (uS (uS f 0 (aR S p)) 1 (aR S q))) := p_lays (σ := τ) (f := uS f 0 (aR S p)) hRB ok (s := 1) (by omega) hq
        rw [if_pos rfl, a1, e_bs, a2, e_bs]
        have v0 : uS (uS f 0 (aR S p)) 1 (aR S q) 0 = aR S p := by rw [uS_ne (by omega), uS_self]
        have v1 : uS (uS f 0 (aR S p)) 1 (aR S q) 1 = aR S q := uS_self
        generalize uS (uS f 0 (aR S p)) 1 (aR S q) = g at v0 v1 ⊢
        obtain ⟨x, e4, hxx⟩ := r_in30 (σ := τ) (f := g) hG hM (by rw [v0]; exact fun i => ok.1.2.1 p i) (by rw [v1]; exact fun i => ok.1.2.1 q i)
        rw [e4, e_bs]
        rcases hxx with ⟨rfl, hA, hY⟩ | ⟨rfl, _⟩
        · obtain ⟨b, τ2, e5, fr⟩ := r_areAlikeT (σ := τ) (f := g) hG hJ hM h0 hA hY
          show ∃ r τ', j_X11_alike_99 (PS τ g) = some (r, τ') ∧ _
          unfold j_X11_alike_99
          rw [e5, e_bq]
          cases b with
          | true => exact ⟨1, τ2, by rw [if_pos rfl], q3.sr fr.sr, f0.trans (l3.trans fr.sr.lo)⟩
          | false => exact ⟨0, τ2, by rw [if_neg (by decide)], q3.sr fr.sr, f0.trans (l3.trans fr.sr.lo)⟩
        · exact ⟨-2, PS τ g, rfl, hI g, f0.trans (l3.trans (hL g))⟩
end RCL
