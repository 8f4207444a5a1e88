/-! the reference's alike: columns of weight 2 -/
section SG1
variable {σ : Mem} {G : GD} {f : SF} {m t : Nat}
theorem beq_t {a b : Nat} (h : a = b) : Nat.beq a b = true := by rw [Nat.beq_eq]; exact h
theorem XN_le {n i k : Nat} (hi : i < n) (hk : k < n) (h1 : wS m t i = 1) (h2 : wS m t k = 2) : cbN (wS m t) n k c30 (u1 i) ≤ XN m t n := by
  unfold XN
  refine Nat.le_trans ?_ (Nat.le_max_right _ _)
  refine Nat.le_trans ?_ (mxN_le n i hi)
  refine Nat.le_trans ?_ (mxN_le n k hk)
  rw [beq_t h1, beq_t h2]
  exact Nat.le_refl _
theorem QN_le1 {n k h : Nat} (hk : k < n) (h3 : wS m t k = 3) : cbN (wS m t) n k c30 (hq m t h) ≤ QN m t n h := by
  unfold QN
  refine Nat.le_trans ?_ (Nat.le_max_right _ _)
  refine Nat.le_trans ?_ (Nat.le_max_left _ _)
  refine Nat.le_trans ?_ (mxN_le n k hk)
  rw [beq_t h3]
  exact Nat.le_refl _
theorem QN_le2 {n i k h : Nat} (hi : i < n) (hk : k < n) (h2 : wS m t i = 2) (h3 : wS m t k = 3) : cbN (wS m t) n k c30 (u1 i) ≤ QN m t n h := by
  unfold QN
  refine Nat.le_trans ?_ (Nat.le_max_right _ _)
  refine Nat.le_trans ?_ (Nat.le_max_right _ _)
  refine Nat.le_trans ?_ (mxN_le n i hi)
  refine Nat.le_trans ?_ (mxN_le n k hk)
  rw [beq_t h2, beq_t h3]
  exact Nat.le_refl _
theorem XN_pos {n : Nat} : (1 : Int) ≤ (XN m t n : Nat) := by
  have : 1 ≤ XN m t n := by unfold XN; exact Nat.le_max_left _ _
  omega
theorem QN_pos {n h : Nat} : (1 : Int) ≤ (QN m t n h : Nat) := by
  have : 1 ≤ QN m t n h := by unfold QN; exact Nat.le_max_left _ _
  omega
/-- one letter -/
def e1V (i : Nat) : Nat → Int := uV (fun _ => 0) i 1
theorem e1V_at {i k : Nat} : e1V i k = if k = i then 1 else 0 := rfl
theorem e1V_ab {i k : Nat} : (e1V i k).natAbs ≤ u1 i k := by
  rw [e1V_at]
  unfold u1
  by_cases h : k = i
  · rw [if_pos h, beq_t h]
    exact Nat.le_refl _
  · rw [if_neg h]
    exact Nat.zero_le _
theorem e1V_sb {i : Nat} : SB G 30 (e1V i) := fun j _ _ => by
  rw [e1V_at]
  by_cases h : j = i
  · rw [if_pos h]; omega
  · rw [if_neg h]; omega
theorem wi_ab {x : Int} {b c : Nat} (h : x.natAbs ≤ b) (hb : b ≤ c) : Wi ((c : Nat) : Int) x := ⟨by omega, by omega⟩
theorem gro1 {C : Nat → Nat → Int} {A : Nat → Int} (hG : GOK G) (hJ : Jac G) (hsh : ∀ i, i < gn G → gw G i = wS m t i) (hmt : m + t ≤ gn G) (hA : ∀ k, k < gn G → -30 ≤ A k ∧ A k ≤ 30) (hC : ∀ c, c < m → C c = vcl G 2 A (e1V c)) : Gro (XN m t (gn G) : Nat) m m (m + t) (fun j => 12 ≤ j ∧ j < 18) 0 0 C := by
  have hn := hG.2.1
  have ent : ∀ c, c < m → ∀ j, j < 6 → Wi ((XN m t (gn G) : Nat) : Int) (C c j) := fun c hc j hj => by
    rw [hC c hc]
    unfold vcl
    rw [if_pos hj]
    by_cases h1 : j < gn G ∧ gw G j = 2
    · rw [if_pos h1]
      refine wi_ab (cmm_ab hG hJ hsh h1.1 (x := c30) (y := u1 c) (fun i hi _ => ?_) (fun i _ _ => e1V_ab)) (XN_le (by omega) h1.1 (wS_1.mpr hc) ((hsh j h1.1).symm.trans h1.2))
      have := hA i hi
      show _ ≤ 30
      omega
    · rw [if_neg h1]
      have := XN_pos (m := m) (t := t) (n := gn G)
      exact ⟨by omega, by omega⟩
  have idn : ∀ c, c < m → ∀ j, 12 ≤ j → C c j = if j = 12 + c then 1 else 0 := fun c hc j hj => by
    rw [hC c hc]
    unfold vcl
    rw [if_neg (by omega)]
    by_cases h1 : 12 ≤ j ∧ j < 12 + gn G
    · rw [if_pos h1, e1V_at]
      by_cases h2 : j = 12 + c
      · rw [if_pos h2, if_pos (by omega)]
      · rw [if_neg h2, if_neg (by omega)]
    · rw [if_neg h1, if_neg (by omega)]
  refine ⟨Or.inl rfl, fun c _ hc j hj hr => ?_, fun c _ hc j hj => ent c hc j hj, fun c _ hc j hj => ?_, fun _ c e hc he i j hi hj => ?_⟩
  · rw [hC c hc]
    unfold vcl
    rw [if_pos hj, if_neg (fun q => by
      have a := wS_2.mp ((hsh j q.1).symm.trans q.2)
      omega)]
  · show Wi 1 (C c j)
    rw [idn c hc j hj.1]
    split
    · exact ⟨by omega, by omega⟩
    · exact ⟨by omega, by omega⟩
  · rw [idn c hc j hj.1, idn e he j hj.1]
    have w1 := ent c hc i hi
    have w2 := ent e he i hi
    by_cases h1 : j = 12 + e
    · by_cases h2 : j = 12 + c
      · rw [if_pos h1, if_pos h2, show c = e by omega, Int.sub_self]
        have := XN_pos (m := m) (t := t) (n := gn G)
        exact ⟨by omega, by omega⟩
      · rw [if_pos h1, if_neg h2, Int.mul_one, Int.mul_zero, Int.sub_zero]
        exact w1
    · by_cases h2 : j = 12 + c
      · rw [if_neg h1, if_pos h2, Int.mul_one, Int.mul_zero]
        exact ⟨by have := w2.2; omega, by have := w2.1; omega⟩
      · rw [if_neg h1, if_neg h2, Int.mul_zero, Int.mul_zero, Int.sub_zero]
        have := XN_pos (m := m) (t := t) (n := gn G)
        exact ⟨by omega, by omega⟩
theorem i32_40 : (40 : Int32) = i32 40 := rfl
theorem r_stage1 (hG : GOK G) (hM : MG σ G) (h0 : M0 σ) (hsh : ∀ i, i < gn G → gw G i = wS m t i) (hmt : m + t ≤ gn G) (hA : ∀ k, k < gn G → -30 ≤ f 0 k ∧ f 0 k ≤ 30) (h31 : σ.1 306 31 = 0) : ∃ τ, loopO (fun (z33 : (Mem × Int32)) => l_X11_areAlike_19 z33.1 z33.2) (PS σ f, i32 0) = some τ ∧ ∃ σ' f' C, τ = PS σ' f' ∧ FCa σ σ' ∧ σ'.1 306 31 = i32 m ∧ (∀ q, q < 40 → f' q = f q) ∧ Cl σ' C m ∧ ∀ c, c < m → C c = vcl G 2 (f 0) (e1V c) := by
  have hn := hG.2.1
  refine cnt_inv (body := fun (z33 : (Mem × Int32)) => l_X11_areAlike_19 z33.1 z33.2) (P := fun i τ => ∃ σ' f' C, τ = PS σ' f' ∧ FCa σ σ' ∧ σ'.1 306 31 = i32 (min i m) ∧ (∀ q, q < 40 → f' q = f q) ∧ Cl σ' C (min i m) ∧ ∀ c, c < min i m → C c = vcl G 2 (f 0) (e1V c)) (a := 0) (b := gn G) (by omega) ⟨σ, f, fun _ _ => 0, rfl, FCa.refl, by rw [h31, Nat.zero_min]; rfl, fun _ _ => rfl, fun c j hc _ => by omega, fun c hc => by omega⟩ ?_ ?_
  · rintro i τ _ h2 ⟨σ', f', C, rfl, fr, q31, hf, hC, hCc⟩
    left
    have hM' := hM.ca fr
    have hg := hsh i h2
    have hg3 := (hG.2.2.1 i h2).2
    show ∃ s', l_X11_areAlike_19 (PS σ' f') (i32 i) = _ ∧ _
    unfold l_X11_areAlike_19
    rw [e_n (PS_MG hM'), e_bs, if_neg (i_nle h2 (by omega)), e_weight (PS_MG hM') (by omega), e_bs]
    by_cases him : i < m
    · rw [hg, wS_1.mpr him, i32_1, if_pos (i_le (Nat.le_refl 1) (by omega))]
      obtain ⟨f1, e1, a1, b1⟩ := r_letterAt (σ := σ') (f := f') (s := 40) (i := i) (by omega) (by omega)
      have c0 : f1 0 = f 0 := (b1 0 (by omega)).trans (hf 0 (by omega))
      obtain ⟨σ2, f2, e2, fr2, g31, k2, hC2, _, _⟩ := r_adds (σ := σ') (f := f1) (C := C) (m := min i m) (s := 0) (b := 40) (w := 2) hG hM' (h0.ca fr) (by omega) hC q31 (by omega) (by omega) (by omega) (B := 30) (by omega) (by omega) (by rw [c0]; exact fun j hj _ => hA j hj) (by rw [a1]; exact e1V_sb)
      have e1' : f_X11_letterAt (PS σ' f') 40 (i32 i) 1 = some (PS σ' f1) := e1
      have e2' : f_X11_adds (PS σ' f1) 0 40 2 = some (PS σ2 f2) := e2
      have hmin : min i m = i := by omega
      have hmin2 : min (i + 1) m = i + 1 := by omega
      rw [e1', e_bs, e2', e_bs, e_bs]
      unfold j_X11_areAlike_55
      rw [i32_1, i32_add]
      rw [hmin] at g31 hC2
      refine ⟨_, rfl, σ2, f2, adC C i (vcl G 2 (f1 0) (f1 40)), rfl, fr.trans fr2, by rw [hmin2]; exact g31, fun q hq => by rw [k2 q (by omega), b1 q (by omega), hf q hq], by rw [hmin2]; exact hC2, fun c hc => ?_⟩
      by_cases hci : c = i
      · rw [hci, adC_m, c0, a1]
        rfl
      · rw [adC_n hci]
        exact hCc c (by omega)
    · have hmin : min (i + 1) m = min i m := by omega
      have hg2 : ¬ gw G i = 1 := fun q => him (wS_1.mp (hg.symm.trans q))
      have hg1 := (hG.2.2.1 i h2).1
      rw [if_neg (show ¬ i32 (gw G i) ≤ 1 from i_nle (b := 1) (by omega) (by omega)), e_bs]
      unfold j_X11_areAlike_55
      rw [i32_1, i32_add]
      exact ⟨_, rfl, σ', f', C, rfl, fr, by rw [hmin]; exact q31, hf, by rw [hmin]; exact hC, by rw [hmin]; exact hCc⟩
  · rintro τ ⟨σ', f', C, rfl, fr, q31, hf, hC, hCc⟩
    have hM' := hM.ca fr
    have hmin : min (gn G) m = m := by omega
    rw [hmin] at q31 hC hCc
    show ∃ x, l_X11_areAlike_19 (PS σ' f') (i32 (gn G)) = _ ∧ _
    unfold l_X11_areAlike_19
    rw [e_n (PS_MG hM'), e_bs, if_pos (i_le (Nat.le_refl _) (by omega))]
    exact ⟨_, rfl, σ', f', C, rfl, fr, q31, hf, hC, hCc⟩
end SG1
