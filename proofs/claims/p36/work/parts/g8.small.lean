/-! the reference's alike: its small steps end -/
section SML
variable {σ : Mem} {G : GD} {f : SF}
theorem r_upTo (hG : GOK G) (hM : MG σ G) {w s y : Nat} (hs : s < 100) (hy : y < 100) (hw : w ≤ 3) : ∃ b, f_X11_areAlikeUpTo (PS σ f) (i32 w) (i32 s) (i32 y) = some b ∧ (b = true → ∀ k, k < gn G → gw G k ≤ w → oi (f s k) = oi (f y k)) := by
  have hn := hG.2.1
  unfold f_X11_areAlikeUpTo
  refine loop_inv (body := fun (z1 : Int32) => l_X11_areAlikeUpTo_3 (PS σ f) (i32 w) (i32 s) (i32 y) z1) (fun n z => ∃ i, i ≤ gn G ∧ n = gn G - i ∧ z = i32 i ∧ ∀ k, k < i → gw G k ≤ w → oi (f s k) = oi (f y k)) _ ?_ (gn G) 0 ⟨0, by omega, rfl, rfl, fun k hk => absurd hk (Nat.not_lt_zero _)⟩
  rintro n z ⟨i, hi, rfl, rfl, hz⟩
  by_cases hin : i = gn G
  · right
    subst hin
    refine ⟨true, ?_, fun _ => hz⟩
    unfold l_X11_areAlikeUpTo_3
    rw [e_n (PS_MG hM), e_bs, if_pos (i_le (Nat.le_refl _) (by omega))]
  · have hgw := (hG.2.2.1 i (by omega)).2
    have next : (gw G i ≤ w → oi (f s i) = oi (f y i)) → l_X11_areAlikeUpTo_3 (PS σ f) (i32 w) (i32 s) (i32 y) (i32 i) = some (Sum.inl (i32 (i + 1))) → (∃ s' n', n' < gn G - i ∧ l_X11_areAlikeUpTo_3 (PS σ f) (i32 w) (i32 s) (i32 y) (i32 i) = some (Sum.inl s') ∧ ∃ i, i ≤ gn G ∧ n' = gn G - i ∧ s' = i32 i ∧ ∀ k, k < i → gw G k ≤ w → oi (f s k) = oi (f y k)) := fun q e => ⟨i32 (i + 1), gn G - (i + 1), by omega, e, i + 1, by omega, rfl, rfl, fun k hk hk1 => by
      by_cases hki : k = i
      · rw [hki] at hk1 ⊢; exact q hk1
      · exact hz k (by omega) hk1⟩
    by_cases h1 : w < gw G i
    · left
      refine next (fun q => by omega) ?_
      unfold l_X11_areAlikeUpTo_3
      rw [e_n (PS_MG hM), e_bs, if_neg (i_nle (by omega) (by omega)), e_weight (PS_MG hM) (by omega), e_bs, if_pos (i_lt h1 (by omega)), e_bs]
      show j_X11_areAlikeUpTo_42 (i32 i) = _
      unfold j_X11_areAlikeUpTo_42
      rw [i32_1, i32_add]
    · by_cases h2 : oi (f s i) = oi (f y i)
      · left
        refine next (fun _ => h2) ?_
        unfold l_X11_areAlikeUpTo_3
        rw [e_n (PS_MG hM), e_bs, if_neg (i_nle (by omega) (by omega)), e_weight (PS_MG hM) (by omega), e_bs, if_neg (i_nlt (by omega) (by omega)), p_of hs (by omega), e_bs, p_of hy (by omega), e_bs, if_pos h2, e_bs]
        show j_X11_areAlikeUpTo_42 (i32 i) = _
        unfold j_X11_areAlikeUpTo_42
        rw [i32_1, i32_add]
      · right
        refine ⟨false, ?_, fun q => absurd q (by decide)⟩
        unfold l_X11_areAlikeUpTo_3
        rw [e_n (PS_MG hM), e_bs, if_neg (i_nle (by omega) (by omega)), e_weight (PS_MG hM) (by omega), e_bs, if_neg (i_nlt (by omega) (by omega)), p_of hs (by omega), e_bs, p_of hy (by omega), e_bs, if_neg h2, e_bs]
        rfl
theorem e_putD {g : Nat → Int64} {k : Nat} {v : Int64} {α : Type} {h : Mem → Option α} (hk : k < 18) : pL (PS (rwL σ 321 g) f) 321 (i32 k) v h = h (PS (rwL σ 321 (fun y => if y = k then v else g y)) f) := by
  rw [e_pL ln_321 hk (by omega), ← PS_rwL (by omega), rwL_w, PS_rwL (by omega)]
def AD (σ : Mem) (f : SF) (τ : Mem) : Prop := ∃ g, τ = PS (rwL σ 321 g) f
theorem r_laysDueT (hG : GOK G) (hM : MG σ G) {w s y : Nat} (hs : s < 100) (hy : y < 100) : ∃ g, f_X11_laysDue (PS σ f) (i32 s) (i32 y) (i32 w) = some (PS (rwL σ 321 g) f) := by
  have hn := hG.2.1
  unfold f_X11_laysDue
  obtain ⟨τ, e, g, rfl⟩ := cnt_inv (body := fun (z11 : (Mem × Int32)) => l_X11_laysDue_3 z11.1 z11.2) (P := fun _ τ => AD σ f τ) (Q := AD σ f) (a := 0) (b := 18) (s := PS σ f) (by omega) ⟨σ.2 321, by rw [rwL_id (fun _ => rfl)]⟩ (by
    rintro i τ _ h2 ⟨g, rfl⟩
    left
    show ∃ s', l_X11_laysDue_3 (PS (rwL σ 321 g) f) (i32 i) = _ ∧ _
    unfold l_X11_laysDue_3
    rw [i32_18, if_neg (i_nle h2 (by omega)), e_putD h2, i32_1, i32_add]
    exact ⟨_, rfl, _, rfl⟩) (by
    rintro τ ⟨g, rfl⟩
    show ∃ x, l_X11_laysDue_3 (PS (rwL σ 321 g) f) (i32 18) = _ ∧ _
    unfold l_X11_laysDue_3
    rw [if_pos (by decide)]
    exact ⟨_, rfl, g, rfl⟩)
  rw [show (0 : Int32) = i32 0 from rfl, e, e_bs]
  unfold j_X11_laysDue_24
  obtain ⟨τ, e2, g2, rfl⟩ := cnt_inv (body := fun (z3 : (Mem × Int32)) => l_X11_laysDue_27 (i32 s) (i32 y) (i32 w) z3.1 z3.2) (P := fun _ τ => AD σ f τ) (Q := AD σ f) (a := 0) (b := gn G) (s := PS (rwL σ 321 g) f) (by omega) ⟨g, rfl⟩ (by
    rintro i τ _ h2 ⟨g, rfl⟩
    left
    show ∃ s', l_X11_laysDue_27 (i32 s) (i32 y) (i32 w) (PS (rwL σ 321 g) f) (i32 i) = _ ∧ _
    have hM' : MG (PS (rwL σ 321 g) f) G := hM
    unfold l_X11_laysDue_27
    rw [e_n hM', e_bs, if_neg (i_nle h2 (by omega)), e_weight hM' (by omega), e_bs]
    split
    · rw [p_of hy (by omega), e_bs, p_of hs (by omega), e_bs, e_putD (by omega), e_bs]
      unfold j_X11_laysDue_68
      rw [i32_1, i32_add]
      exact ⟨_, rfl, _, rfl⟩
    · rw [e_bs]
      unfold j_X11_laysDue_68
      rw [i32_1, i32_add]
      exact ⟨_, rfl, _, rfl⟩) (by
    rintro τ ⟨g, rfl⟩
    show ∃ x, l_X11_laysDue_27 (i32 s) (i32 y) (i32 w) (PS (rwL σ 321 g) f) (i32 (gn G)) = _ ∧ _
    have hM' : MG (PS (rwL σ 321 g) f) G := hM
    unfold l_X11_laysDue_27
    rw [e_n hM', e_bs, if_pos (i_le (Nat.le_refl _) (by omega))]
    exact ⟨_, rfl, g, rfl⟩)
  exact ⟨g2, e2⟩
theorem r_letterAt {s i : Nat} (hs : s < 100) (hi : i < 6) : ∃ f', f_X11_letterAt (PS σ f) (i32 s) (i32 i) 1 = some (PS σ f') ∧ f' s = uV (fun _ => 0) i 1 ∧ ∀ q, q ≠ s → f' q = f q := by
  unfold f_X11_letterAt
  rw [p_ones hs, e_bs, show (1 : Int64) = oi 1 from rfl, p_puts hs hi, e_bs]
  exact ⟨_, rfl, by rw [uS_self, uS_self], fun q hq => by rw [uS_ne hq, uS_ne hq]⟩
theorem r_canMakeZ {X : Int} {m lo hi : Nat} {T Z : Nat → Prop} {C0 : Nat → Nat → Int} (hX : 1 ≤ X) (hm : m ≤ 20) (hC : Cl σ C0 m) (h31 : σ.1 306 31 = i32 m) (h0 : Gro X m lo hi T 0 0 C0) (hz : ∀ c, c < m → ∀ j, Z j → C0 c j = 0) (hfit : ∀ p, p + 1 ≤ m → p + lo + 1 ≤ hi → gG X p ≤ 2 ^ 62) : ∃ b τ, f_X11_canMake σ = some (b, τ) ∧ FCm σ τ ∧ (b = true → ∃ k C, k ≤ m ∧ τ.1 306 34 = i32 k ∧ Cl τ C m ∧ Gro X m lo hi T 6 k C ∧ ∀ c, k ≤ c → c < m → ∀ j, Z j → C c j = 0) := by
  refine r_canMakeT (Bd := fun k f C => Gro X m lo hi T k f C ∧ ∀ c, f ≤ c → c < m → ∀ j, Z j → C c j = 0) hm hC h31 (fun k f C hk hf h => ⟨fun c c1 c2 => ?_, fun D pv hc ho => ⟨h.1.next hX hk hc ho, fun c c1 c2 j hj => hc.zero (fun c c1 c2 => h.2 c c1 c2 j hj) c (by omega) c2⟩⟩) ⟨h0, fun c _ c2 j hj => hz c c2 j hj⟩
  by_cases hin : k < lo ∨ hi ≤ k
  · rw [h.1.2.1 c c1 c2 k hk hin]
    exact ⟨by omega, by omega⟩
  · refine (h.1.2.2.1 c c1 c2 k hk).mono (hfit f (by omega) ?_)
    rcases h.1.1 with q | q
    · omega
    · omega
end SML
