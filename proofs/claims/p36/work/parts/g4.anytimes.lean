/-! the reference's slots: multiplying ends whatever the numbers are -/
section ANY
theorem cnt_inv {S R : Type} {body : S × Int32 → Option ((S × Int32) ⊕ R)} {P : Nat → S → Prop} {Q : R → Prop} {a b : Nat} {s : S} (hab : a ≤ b) (h0 : P a s) (hs : ∀ i s, a ≤ i → i < b → P i s → (∃ s', body (s, i32 i) = some (Sum.inl (s', i32 (i + 1))) ∧ P (i + 1) s') ∨ ∃ x, body (s, i32 i) = some (Sum.inr x) ∧ Q x) (he : ∀ s, P b s → ∃ x, body (s, i32 b) = some (Sum.inr x) ∧ Q x) : ∃ x, loopO body (s, i32 a) = some x ∧ Q x := by
  refine loop_inv (body := body) (fun n z => ∃ i s, a ≤ i ∧ i ≤ b ∧ n = b - i ∧ z = (s, i32 i) ∧ P i s) Q ?_ (b - a) (s, i32 a) ⟨a, s, Nat.le_refl _, hab, rfl, rfl, h0⟩
  rintro n z ⟨i, s, h1, h2, rfl, rfl, hp⟩
  by_cases hi : i = b
  · right
    subst hi
    exact he s hp
  · rcases hs i s h1 (by omega) hp with ⟨s', e, hp'⟩ | ⟨x, e, q⟩
    · exact Or.inl ⟨(s', i32 (i + 1)), b - (i + 1), by omega, e, i + 1, s', by omega, by omega, rfl, rfl, hp'⟩
    · exact Or.inr ⟨x, e, q⟩
variable {σ : Mem} {G : GD}
theorem e_putA {M : Nat → Int} {m : Nat} {v : Int64} {α : Type} {f : Mem → Option α} (h : m < 6) : pL (moreM σ M) 314 (i32 m) v f = f (moreM σ (up M m (v.toInt - M m))) := by
  refine e_putM h ?_
  rw [show M m + (v.toInt - M m) = v.toInt by omega]
  exact (Int64.ofInt_toInt v).symm
def AM (σ τ : Mem) : Prop := ∃ M, τ = moreM σ M
theorem a_pOne157 (h : MG σ G) (hG : GOK G) {s j k m : Nat} {y x : Int64} {t : Int32} {M : Nat → Int} (hs : s < 100) (hj : j < gn G) (hk : k < 6) (hm : m < 6) : ∃ τ, loopO (fun (z24 : Mem × Int32) => l_X11_passesOne_157 (i32 s) y x (i32 k) t (i32 m) z24.1 z24.2) (moreM σ M, i32 (j + 1)) = some τ ∧ AM σ τ := by
  have hn := hG.2.1
  refine cnt_inv (body := fun (z24 : Mem × Int32) => l_X11_passesOne_157 (i32 s) y x (i32 k) t (i32 m) z24.1 z24.2) (P := fun _ τ => AM σ τ) (b := gn G) (by omega) ⟨M, rfl⟩ ?_ ?_
  · rintro q τ h1 h2 ⟨M, rfl⟩
    show (∃ s', l_X11_passesOne_157 (i32 s) y x (i32 k) t (i32 m) (moreM σ M) (i32 q) = _ ∧ _) ∨ ∃ x', l_X11_passesOne_157 (i32 s) y x (i32 k) t (i32 m) (moreM σ M) (i32 q) = _ ∧ _
    unfold l_X11_passesOne_157
    rw [e_n (moreM_MG h), e_bs, if_neg (i_nle (by omega) (by omega)), e_weight (moreM_MG h) (by omega), e_bs]
    by_cases hw : gw G q = 1
    · left
      rw [hw, if_pos i32_1.symm, e_getM hm, e_tail (moreM_MG h) hk (by omega) hm, e_bs, e_of hs (by omega), e_bs, e_putA hm, i32_1, i32_add]
      exact ⟨_, rfl, _, rfl⟩
    · right
      rw [if_neg (i_ne1 hw (by have := (hG.2.2.1 q h2).2; omega))]
      exact ⟨_, rfl, M, rfl⟩
  · rintro τ ⟨M, rfl⟩
    show ∃ x', l_X11_passesOne_157 (i32 s) y x (i32 k) t (i32 m) (moreM σ M) (i32 (gn G)) = _ ∧ _
    unfold l_X11_passesOne_157
    rw [e_n (moreM_MG h), e_bs, if_pos (i_le (Nat.le_refl _) (by omega))]
    exact ⟨_, rfl, M, rfl⟩
theorem a_pOne83 (h : MG σ G) (hG : GOK G) {s j i k : Nat} {y x : Int64} {t : Int32} {M : Nat → Int} (hs : s < 100) (hj : j < gn G) (hi : i < 6) (hk : k < gn G) : ∃ τ, loopO (fun (z13 : Mem × Int32) => l_X11_passesOne_83 (i32 s) (i32 j) (i32 i) y x (i32 k) t z13.1 z13.2) (moreM σ M, i32 (k + 1)) = some τ ∧ AM σ τ := by
  have hn := hG.2.1
  refine cnt_inv (body := fun (z13 : Mem × Int32) => l_X11_passesOne_83 (i32 s) (i32 j) (i32 i) y x (i32 k) t z13.1 z13.2) (P := fun _ τ => AM σ τ) (b := gn G) (by omega) ⟨M, rfl⟩ ?_ ?_
  · rintro m τ h1 h2 ⟨M, rfl⟩
    left
    show ∃ s', l_X11_passesOne_83 (i32 s) (i32 j) (i32 i) y x (i32 k) t (moreM σ M) (i32 m) = _ ∧ _
    unfold l_X11_passesOne_83
    rw [e_n (moreM_MG h), e_bs, if_neg (i_nle h2 (by omega)), e_getM (by omega), e_tail (moreM_MG h) (by omega) hi (by omega), e_bs, e_two, e_bs, e_tail (moreM_MG h) (by omega) (by omega) (by omega), e_bs, e_two, e_bs, e_putA (by omega), e_bd, i32_1, i32_add]
    obtain ⟨τ, e, M', rfl⟩ := a_pOne157 (M := up M m _) h hG (y := y) (x := x) (t := t) hs hj (show k < 6 by omega) (show m < 6 by omega)
    rw [e, e_bs]
    unfold j_X11_passesOne_226
    rw [i32_1, i32_add]
    exact ⟨_, rfl, M', rfl⟩
  · rintro τ ⟨M, rfl⟩
    show ∃ x', l_X11_passesOne_83 (i32 s) (i32 j) (i32 i) y x (i32 k) t (moreM σ M) (i32 (gn G)) = _ ∧ _
    unfold l_X11_passesOne_83
    rw [e_n (moreM_MG h), e_bs, if_pos (i_le (Nat.le_refl _) (by omega))]
    exact ⟨_, rfl, M, rfl⟩
theorem a_passesOne (h : MG σ G) (hG : GOK G) {s j i : Nat} {y : Int64} {M : Nat → Int} (hs : s < 100) (hj : j < gn G) (hi : i < 6) : ∃ τ, f_X11_passesOne (moreM σ M) (i32 s) (i32 j) (i32 i) y = some τ ∧ AM σ τ := by
  have hn := hG.2.1
  unfold f_X11_passesOne
  rw [e_of hs (by omega), e_bs, e_bd, i32_1, i32_add]
  generalize vec (moreM σ M) s j = x
  refine cnt_inv (body := fun (z4 : Mem × Int32) => l_X11_passesOne_13 (i32 s) (i32 j) (i32 i) y x z4.1 z4.2) (P := fun _ τ => AM σ τ) (b := gn G) (by omega) ⟨M, rfl⟩ ?_ ?_
  · rintro k τ h1 h2 ⟨M, rfl⟩
    left
    show ∃ s', l_X11_passesOne_13 (i32 s) (i32 j) (i32 i) y x (moreM σ M) (i32 k) = _ ∧ _
    unfold l_X11_passesOne_13
    rw [e_n (moreM_MG h), e_bs, if_neg (i_nle h2 (by omega)), e_tail (moreM_MG h) (by omega) hi (by omega), e_bs]
    split
    · rw [e_bs]
      unfold j_X11_passesOne_232
      rw [i32_1, i32_add]
      exact ⟨_, rfl, M, rfl⟩
    · rw [e_getM (by omega), e_putA (by omega), e_weight (moreM_MG h) (by omega), e_bs]
      split
      · rw [e_bd, i32_1, i32_add]
        obtain ⟨τ, e, M', rfl⟩ := a_pOne83 (M := up M k _) h hG (y := y) (x := x) (t := i32 (gt G j i k)) hs hj hi h2
        rw [e, e_bs]
        unfold j_X11_passesOne_232
        rw [i32_1, i32_add]
        exact ⟨_, rfl, M', rfl⟩
      · rw [e_bs]
        unfold j_X11_passesOne_232
        rw [i32_1, i32_add]
        exact ⟨_, rfl, _, rfl⟩
  · rintro τ ⟨M, rfl⟩
    show ∃ x', l_X11_passesOne_13 (i32 s) (i32 j) (i32 i) y x (moreM σ M) (i32 (gn G)) = _ ∧ _
    unfold l_X11_passesOne_13
    rw [e_n (moreM_MG h), e_bs, if_pos (i_le (Nat.le_refl _) (by omega))]
    exact ⟨_, rfl, M, rfl⟩
theorem a_tl91 (h : MG σ G) (hG : GOK G) {s i : Nat} {y : Int64} (hs : s < 100) (hi : i < gn G) (h0 : M0 σ) : ∃ τ, loopO (fun (z16 : Mem × Int32) => l_X11_timesLetter_91 (i32 s) (i32 i) y z16.1 z16.2) (σ, i32 (i + 1)) = some τ ∧ AM σ τ := by
  have hn := hG.2.1
  refine cnt_inv (body := fun (z16 : Mem × Int32) => l_X11_timesLetter_91 (i32 s) (i32 i) y z16.1 z16.2) (P := fun _ τ => AM σ τ) (b := gn G) (by omega) ⟨_, h0.more.symm⟩ ?_ ?_
  · rintro j τ h1 h2 ⟨M, rfl⟩
    show (∃ s', l_X11_timesLetter_91 (i32 s) (i32 i) y (moreM σ M) (i32 j) = _ ∧ _) ∨ ∃ x', l_X11_timesLetter_91 (i32 s) (i32 i) y (moreM σ M) (i32 j) = _ ∧ _
    unfold l_X11_timesLetter_91
    rw [e_n (moreM_MG h), e_bs, if_neg (i_nle (by omega) (by omega)), e_weight (moreM_MG h) (by omega), e_bs]
    by_cases hw : gw G j = 1
    · left
      obtain ⟨τ, e, M', rfl⟩ := a_passesOne (M := M) h hG (y := y) hs h2 (show i < 6 by omega)
      rw [hw, if_pos i32_1.symm, e, e_bs, i32_1, i32_add]
      exact ⟨_, rfl, M', rfl⟩
    · right
      rw [if_neg (i_ne1 hw (by have := (hG.2.2.1 j h2).2; omega))]
      exact ⟨_, rfl, M, rfl⟩
  · rintro τ ⟨M, rfl⟩
    show ∃ x', l_X11_timesLetter_91 (i32 s) (i32 i) y (moreM σ M) (i32 (gn G)) = _ ∧ _
    unfold l_X11_timesLetter_91
    rw [e_n (moreM_MG h), e_bs, if_pos (i_le (Nat.le_refl _) (by omega))]
    exact ⟨_, rfl, M, rfl⟩
theorem a_timesLetter (h : MG σ G) (hG : GOK G) {a : Nat → Int} {s i : Nat} {y : Int} (hs : s < 100) (hi : i < gn G) (hv : ∀ i, i < 6 → vec σ s i = oi (a i)) (h0 : M0 σ) : ∃ c, f_X11_timesLetter σ (i32 s) (i32 i) (oi y) = some (setI σ s c) := by
  have hn := hG.2.1
  unfold f_X11_timesLetter
  by_cases hy0 : oi y = 0
  · exact ⟨a, by rw [if_pos hy0, setI_id hv]⟩
  · rw [if_neg hy0, e_weight h (by omega), e_bs]
    have hw3 := (hG.2.2.1 i hi).2
    have last : ∀ (τ : Mem) (c : Nat → Int), (∀ i, i < 6 → vec τ s i = oi (c i)) → j_X11_timesLetter_171 (i32 s) (i32 i) (oi y) τ = some (setI τ s (fun m => c m + if m = i then y else 0)) := by
      intro τ c hc
      unfold j_X11_timesLetter_171
      rw [e_of hs (by omega), e_bs, hc i (by omega), oi_add, e_puts hs (by omega), e_bs]
      congr 1
      unfold setI
      refine setV_congr (fun m hm => ?_)
      unfold upv
      dsimp only
      by_cases h1 : m = i
      · rw [if_pos h1, if_pos h1, h1]
      · rw [if_neg h1, if_neg h1, hc m hm, Int.add_zero]
    by_cases hw : gw G i = 1
    · obtain ⟨τ, e, M, rfl⟩ := a_tl91 (σ := setI σ s (tlTwo G a i y)) (setI_MG h) hG (y := oi y) hs hi h0.setI
      rw [hw, if_pos i32_1.symm, e_bd, i32_1, i32_add, e_tl21 h hG hs hi hv, e_bs]
      unfold j_X11_timesLetter_77
      rw [e_weight (setI_MG h) (by omega), e_bs, hw, if_pos i32_1.symm, e_bd, i32_1, i32_add, e, e_bs]
      unfold j_X11_timesLetter_125
      rw [e_tl128 hs (fun i hi => setI_vec hi) h0.setI, e_bs, setI_setI, last _ _ (fun i hi => setI_vec hi), setI_setI]
      exact ⟨_, rfl⟩
    · rw [if_neg (i_ne1 hw (by omega)), e_bs]
      unfold j_X11_timesLetter_77
      rw [e_weight h (by omega), e_bs, if_neg (i_ne1 hw (by omega)), e_bs, last _ _ hv]
      exact ⟨_, rfl⟩
theorem a_times (h : MG σ G) (hG : GOK G) (h0 : M0 σ) {f : SF} {s r : Nat} (hs : s < 100) (hr : r < 100) (hne : r ≠ s) : ∃ c, f_X11_times (PS σ f) (i32 s) (i32 r) = some (PS σ (uS f s c)) := by
  have hn := hG.2.1
  unfold f_X11_times
  obtain ⟨x, e, c, rfl⟩ := cnt_inv (body := fun (z2 : Mem × Int32) => l_X11_times_2 (i32 s) (i32 r) z2.1 z2.2) (P := fun _ τ => ∃ c, τ = PS σ (uS f s c)) (Q := fun τ => ∃ c, τ = PS σ (uS f s c)) (a := 0) (b := gn G) (s := PS σ f) (Nat.zero_le _) ⟨f s, by
    congr 1
    funext q
    unfold uS
    by_cases hq : q = s
    · rw [if_pos hq, hq]
    · rw [if_neg hq]⟩ (by
    rintro k τ _ h2 ⟨c, rfl⟩
    left
    show ∃ s', l_X11_times_2 (i32 s) (i32 r) (PS σ (uS f s c)) (i32 k) = _ ∧ _
    unfold l_X11_times_2
    obtain ⟨c', e⟩ := a_timesLetter (σ := PS σ (uS f s c)) (a := c) (s := s) (i := k) (y := f r k) (PS_MG h) hG hs h2 (fun i hi => by rw [PS_vec hs hi, uS_self]) (PS_M0 h0)
    rw [e_n (PS_MG h), e_bs, if_neg (i_nle h2 (by omega)), p_of hr (by omega), e_bs, uS_ne hne, e, e_bs, i32_1, i32_add, PS_setI hs]
    refine ⟨_, rfl, c', ?_⟩
    congr 1
    funext q
    unfold uS
    by_cases hq : q = s
    · rw [if_pos hq, if_pos hq]
    · rw [if_neg hq, if_neg hq, if_neg hq]) (by
    rintro τ ⟨c, rfl⟩
    show ∃ x', l_X11_times_2 (i32 s) (i32 r) (PS σ (uS f s c)) (i32 (gn G)) = _ ∧ _
    unfold l_X11_times_2
    rw [e_n (PS_MG h), e_bs, if_pos (i_le (Nat.le_refl _) (by omega))]
    exact ⟨_, rfl, c, rfl⟩)
  exact ⟨c, e⟩
theorem a_inverse (h : MG σ G) (hG : GOK G) (h0 : M0 σ) {f : SF} {s t : Nat} (hs : s < 100) (ht : t + 1 < 100) (hne : s ≠ t) (hne2 : s ≠ t + 1) : ∃ f', f_X11_inverse (PS σ f) (i32 s) (i32 t) = some (PS σ f') ∧ ∀ q, q ≠ t → q ≠ t + 1 → f' q = f q := by
  have hn := hG.2.1
  unfold f_X11_inverse
  rw [p_ones (by omega), e_bs]
  obtain ⟨x, e, f', rfl, hf⟩ := cnt_inv (body := fun (z3 : Mem × Int32) => l_X11_inverse_7 (i32 s) (i32 t) z3.1 z3.2) (P := fun _ τ => ∃ f', τ = PS σ f' ∧ ∀ q, q ≠ t → q ≠ t + 1 → f' q = f q) (Q := fun τ => ∃ f', τ = PS σ f' ∧ ∀ q, q ≠ t → q ≠ t + 1 → f' q = f q) (a := 0) (b := gn G) (s := PS σ (uS f t (fun _ => 0))) (Nat.zero_le _) ⟨_, rfl, fun q hq _ => uS_ne hq⟩ (by
    rintro k τ _ h2 ⟨f', rfl, hf⟩
    left
    show ∃ s', l_X11_inverse_7 (i32 s) (i32 t) (PS σ f') (i32 k) = _ ∧ _
    unfold l_X11_inverse_7
    obtain ⟨c, e⟩ := a_times (σ := σ) (f := uS f' (t + 1) (f' s)) (s := t + 1) (r := t) h hG h0 (by omega) (by omega) (by omega)
    rw [e_n (PS_MG h), e_bs, if_neg (i_nle h2 (by omega)), i32_1, i32_add, p_copies hs (by omega) hne2, e_bs, e, e_bs, p_of (by omega) (by omega), e_bs, oi_neg, p_puts (by omega) (by omega), e_bs, i32_add]
    exact ⟨_, rfl, _, rfl, fun q q1 q2 => by rw [uS_ne q1, uS_ne q2, uS_ne q2, hf q q1 q2]⟩) (by
    rintro τ ⟨f', rfl, hf⟩
    show ∃ x', l_X11_inverse_7 (i32 s) (i32 t) (PS σ f') (i32 (gn G)) = _ ∧ _
    unfold l_X11_inverse_7
    rw [e_n (PS_MG h), e_bs, if_pos (i_le (Nat.le_refl _) (by omega))]
    exact ⟨_, rfl, f', rfl, hf⟩)
  exact ⟨f', e, hf⟩
theorem a_conjugates (h : MG σ G) (hG : GOK G) (h0 : M0 σ) {f : SF} {s r t : Nat} (hs : s < 100) (hr : r < 100) (ht : t + 1 < 100) (hst : s < t ∨ t + 1 < s) (hrt : r < t ∨ t + 1 < r) : ∃ f', f_X11_conjugates (PS σ f) (i32 s) (i32 r) (i32 t) = some (PS σ f') ∧ ∀ q, q < t ∨ t + 1 < q → f' q = f q := by
  unfold f_X11_conjugates
  obtain ⟨f1, e1, k1⟩ := a_inverse (f := f) h hG h0 hr (t := t) (by omega) (by omega) (by omega)
  obtain ⟨c2, e2⟩ := a_times (f := f1) h hG h0 (s := t) (r := s) (by omega) (by omega) (by omega)
  obtain ⟨c3, e3⟩ := a_times (f := uS f1 t c2) h hG h0 (s := t) (r := r) (by omega) (by omega) (by omega)
  rw [e1, e_bs, e2, e_bs, e3, e_bs]
  exact ⟨_, rfl, fun q hq => by rw [uS_ne (by omega), uS_ne (by omega), k1 q (by omega) (by omega)]⟩
end ANY
