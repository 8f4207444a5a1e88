/-! the reference's alike: who moves nothing of weight 2 -/
section QUI
variable {σ : Mem} {G : GD} {f : SF}
def qzF (r q : Nat → Int64) (c v i : Nat) : Nat → Int64 := fun y => if 6 * v ≤ y ∧ y < 6 * v + i then r (18 * c + 12 + (y - 6 * v)) else q y
theorem r_quiet1 {c v : Nat} (hc : c < 20) (hv : v < 12) (h36 : σ.1 306 36 = i32 v) : loopO (fun (z28 : (Mem × Int32)) => l_X11_areAlike_97 (i32 c) z28.1 z28.2) (σ, 0) = some (rwL σ 322 (qzF (σ.2 320) (σ.2 322) c v 6)) := by
  refine loop_at (body := fun (z28 : (Mem × Int32)) => l_X11_areAlike_97 (i32 c) z28.1 z28.2) (fun i => (rwL σ 322 (qzF (σ.2 320) (σ.2 322) c v i), i32 i)) 0 6 ?_ (by omega) (fun i _ hi => ?_) ?_
  · refine Prod.ext ?_ rfl
    exact rwL_id (f := qzF (σ.2 320) (σ.2 322) c v 0) (fun y => by
      unfold qzF
      rw [if_neg (by omega)])
  · show l_X11_areAlike_97 (i32 c) (rwL σ 322 (qzF (σ.2 320) (σ.2 322) c v i)) (i32 i) = _
    unfold l_X11_areAlike_97
    have g36 : (rwL σ 322 (qzF (σ.2 320) (σ.2 322) c v i)).1 306 36 = i32 v := h36
    have hval : (rwL σ 322 (qzF (σ.2 320) (σ.2 322) c v i)).2 320 (18 * c + (12 + i)) = σ.2 320 (18 * c + 12 + i) := by
      rw [rwL_x (by omega), show 18 * c + (12 + i) = 18 * c + 12 + i by omega]
    rw [i32_6, if_neg (i_nle hi (by omega)), e_gF, g36, i32_12, i32_add, r_ofColumn hc (by omega), e_bs, i32_mul, i32_add, e_pL ln_322 (by omega) (by omega), hval, rwL_w, i32_1, i32_add]
    refine congrArg (fun τ => some (Sum.inl (τ, i32 (i + 1)))) (rwL_congr (fun y => ?_))
    unfold qzF
    by_cases hy : y = 6 * v + i
    · rw [if_pos hy, if_pos (by omega), hy, show 6 * v + i - 6 * v = i by omega]
    · rw [if_neg hy]
      by_cases h2 : 6 * v ≤ y ∧ y < 6 * v + i
      · rw [if_pos h2, if_pos (by omega)]
      · rw [if_neg h2, if_neg (by omega)]
  · show l_X11_areAlike_97 (i32 c) _ (i32 6) = _
    unfold l_X11_areAlike_97
    rw [if_pos (by decide)]
theorem r_quiet {m k : Nat} (hm : m ≤ 6) (hk : k ≤ m) (h31 : σ.1 306 31 = i32 m) (h36 : σ.1 306 36 = 0) : ∃ τ, loopO (fun (z22 : (Mem × Int32)) => l_X11_areAlike_87 z22.1 z22.2) (σ, i32 k) = some τ ∧ FCa σ τ ∧ τ.2 313 = σ.2 313 ∧ τ.2 321 = σ.2 321 ∧ τ.1 306 36 = i32 (m - k) ∧ ∀ e, e < m - k → ∀ i, i < 6 → τ.2 322 (6 * e + i) = σ.2 320 (18 * (k + e) + 12 + i) := by
  refine cnt_inv (body := fun (z22 : (Mem × Int32)) => l_X11_areAlike_87 z22.1 z22.2) (P := fun c τ => FCa σ τ ∧ τ.1 306 31 = i32 m ∧ τ.2 320 = σ.2 320 ∧ τ.2 313 = σ.2 313 ∧ τ.2 321 = σ.2 321 ∧ τ.1 306 36 = i32 (c - k) ∧ ∀ e, e < c - k → ∀ i, i < 6 → τ.2 322 (6 * e + i) = σ.2 320 (18 * (k + e) + 12 + i)) (a := k) (b := m) hk ⟨FCa.refl, h31, rfl, rfl, rfl, by rw [h36, Nat.sub_self]; rfl, fun e he => by omega⟩ ?_ ?_
  · rintro c τ c1 c2 ⟨fr, g31, r320, r313, r321, g36, hq⟩
    left
    show ∃ s', l_X11_areAlike_87 τ (i32 c) = _ ∧ _
    unfold l_X11_areAlike_87
    rw [e_gF, g31, if_neg (i_nle c2 (by omega)), r_quiet1 (by omega) (by omega) g36, e_bs]
    unfold j_X11_areAlike_132
    have g36' : (rwL τ 322 (qzF (τ.2 320) (τ.2 322) c (c - k) 6)).1 306 36 = i32 (c - k) := g36
    rw [e_gF, g36', e_pF, i32_1, i32_add, i32_add]
    refine ⟨_, rfl, (fr.trans (FCa.row (by omega))).trans (FCa.fld (by omega)), ?_, ?_, ?_, ?_, ?_, fun e he i hi => ?_⟩
    · rw [wI_1, if_neg (by omega)]; exact g31
    · exact (rwL_x (σ := τ) (a := 322) (x := 320) (f := qzF (τ.2 320) (τ.2 322) c (c - k) 6) (by omega)).trans r320
    · exact (rwL_x (σ := τ) (a := 322) (x := 313) (f := qzF (τ.2 320) (τ.2 322) c (c - k) 6) (by omega)).trans r313
    · exact (rwL_x (σ := τ) (a := 322) (x := 321) (f := qzF (τ.2 320) (τ.2 322) c (c - k) 6) (by omega)).trans r321
    · rw [wI_1, if_pos ⟨rfl, rfl⟩, show c - k + 1 = c + 1 - k by omega]
    · refine (rwL_a (σ := τ) (a := 322) (f := qzF (τ.2 320) (τ.2 322) c (c - k) 6) (y := 6 * e + i)).trans ?_
      unfold qzF
      by_cases hec : e = c - k
      · rw [if_pos (by omega), r320, hec, show 18 * c + 12 + (6 * (c - k) + i - 6 * (c - k)) = 18 * (k + (c - k)) + 12 + i by omega]
      · rw [if_neg (by omega)]
        exact hq e (by omega) i hi
  · rintro τ ⟨fr, g31, r320, r313, r321, g36, hq⟩
    show ∃ x, l_X11_areAlike_87 τ (i32 m) = _ ∧ _
    unfold l_X11_areAlike_87
    rw [e_gF, g31, if_pos (i_le (Nat.le_refl _) (by omega))]
    exact ⟨_, rfl, fr, r313, r321, g36, hq⟩
theorem p_putsA {s i : Nat} {v : Int64} (hs : s < 100) (hi : i < 6) : f_X11_puts (PS σ f) (i32 s) (i32 i) v = some (PS σ (uS f s (uV (f s) i v.toInt))) := by
  have := p_puts (σ := σ) (f := f) (s := s) (i := i) (x := v.toInt) hs hi
  rw [show oi v.toInt = v from Int64.ofInt_toInt v] at this
  exact this
theorem r_duePuts (hG : GOK G) (hM : MG σ G) : ∃ τ, loopO (fun (z17 : (Mem × Int32)) => l_X11_areAlike_156 z17.1 z17.2) (PS σ f, i32 0) = some τ ∧ ∃ f', τ = PS σ f' ∧ ∀ q, q ≠ 41 → f' q = f q := by
  have hn := hG.2.1
  refine cnt_inv (body := fun (z17 : (Mem × Int32)) => l_X11_areAlike_156 z17.1 z17.2) (P := fun _ τ => ∃ f', τ = PS σ f' ∧ ∀ q, q ≠ 41 → f' q = f q) (a := 0) (b := gn G) (by omega) ⟨f, rfl, fun _ _ => rfl⟩ ?_ ?_
  · rintro i τ _ h2 ⟨f', rfl, hf⟩
    left
    show ∃ s', l_X11_areAlike_156 (PS σ f') (i32 i) = _ ∧ _
    unfold l_X11_areAlike_156
    rw [e_n (PS_MG hM), e_bs, if_neg (i_nle h2 (by omega)), i32_12, i32_add, e_gL ln_321 (by omega) (by omega), show (41 : Int32) = i32 41 from rfl, p_putsA (by omega) (by omega), e_bs, i32_1, i32_add]
    exact ⟨_, rfl, _, rfl, fun q hq => by rw [uS_ne hq, hf q hq]⟩
  · rintro τ ⟨f', rfl, hf⟩
    show ∃ x, l_X11_areAlike_156 (PS σ f') (i32 (gn G)) = _ ∧ _
    unfold l_X11_areAlike_156
    rw [e_n (PS_MG hM), e_bs, if_pos (i_le (Nat.le_refl _) (by omega))]
    exact ⟨_, rfl, f', rfl, hf⟩
theorem r_quietPuts {c : Nat} {D : Nat → Int} (hc : c < 12) (hD : ∀ i, i < 6 → σ.2 322 (6 * c + i) = oi (D i)) : ∃ τ, loopO (fun (z21 : (Mem × Int32)) => l_X11_areAlikeInLast_29 (i32 c) z21.1 z21.2) (PS σ f, i32 0) = some τ ∧ ∃ f', τ = PS σ f' ∧ (∀ q, q ≠ 40 → f' q = f q) ∧ ∀ i, i < 6 → f' 40 i = D i := by
  refine cnt_inv (body := fun (z21 : (Mem × Int32)) => l_X11_areAlikeInLast_29 (i32 c) z21.1 z21.2) (P := fun i τ => ∃ f', τ = PS σ f' ∧ (∀ q, q ≠ 40 → f' q = f q) ∧ ∀ x, x < i → f' 40 x = D x) (a := 0) (b := 6) (by omega) ⟨f, rfl, fun _ _ => rfl, fun x hx => by omega⟩ ?_ ?_
  · rintro i τ _ h2 ⟨f', rfl, hf, hd⟩
    left
    show ∃ s', l_X11_areAlikeInLast_29 (i32 c) (PS σ f') (i32 i) = _ ∧ _
    unfold l_X11_areAlikeInLast_29
    have hv : (PS σ f').2 322 (6 * c + i) = oi (D i) := by
      rw [PS_2 (by omega)]
      exact hD i h2
    rw [i32_6, if_neg (i_nle h2 (by omega)), i32_mul, i32_add, e_gL ln_322 (by omega) (by omega), hv, i32_40, p_puts (by omega) (by omega), e_bs, i32_1, i32_add]
    refine ⟨_, rfl, _, rfl, fun q hq => by rw [uS_ne hq, hf q hq], fun x hx => ?_⟩
    rw [uS_self]
    unfold uV
    by_cases hxi : x = i
    · rw [if_pos hxi, hxi]
    · rw [if_neg hxi]
      exact hd x (by omega)
  · rintro τ ⟨f', rfl, hf, hd⟩
    show ∃ x, l_X11_areAlikeInLast_29 (i32 c) (PS σ f') (i32 6) = _ ∧ _
    unfold l_X11_areAlikeInLast_29
    rw [if_pos (by decide)]
    exact ⟨_, rfl, f', rfl, hf, hd⟩
end QUI
