/-! the reference's alike: columns of weight 3 -/
section SG2
variable {σ : Mem} {G : GD} {f : SF} {m t : Nat}
def GoodC (Q : Int) (lo hi : Nat) (v : Nat → Int) : Prop := (∀ j, j < 6 → (j < lo ∨ hi ≤ j) → v j = 0) ∧ ∀ j, j < 6 → Wi Q (v j)
theorem good3 {Q : Int} {A u : Nat → Int} (hG : GOK G) (hsh : ∀ i, i < gn G → gw G i = wS m t i) (hQ : 0 ≤ Q) (h : ∀ k, k < gn G → gw G k = 3 → Wi Q (cmm G A u k)) : GoodC Q (m + t) (gn G) (vcl G 3 A u) := by
  have hn := hG.2.1
  refine ⟨fun j hj hr => ?_, fun j hj => ?_⟩
  · unfold vcl
    rw [if_pos hj, if_neg (fun q => by
      have a := wS_3.mp ((hsh j q.1).symm.trans q.2)
      omega)]
  · unfold vcl
    rw [if_pos hj]
    by_cases h1 : j < gn G ∧ gw G j = 3
    · rw [if_pos h1]
      exact h j h1.1 h1.2
    · rw [if_neg h1]
      exact ⟨by omega, by omega⟩
theorem goodQ {A u : Nat → Int} {h : Nat} (hG : GOK G) (hJ : Jac G) (hsh : ∀ i, i < gn G → gw G i = wS m t i) (hA : ∀ i, i < gn G → gw G i ≤ 2 → (A i).natAbs ≤ 30) (hu : ∀ i, i < gn G → (u i).natAbs ≤ hq m t h i) : GoodC (QN m t (gn G) h : Nat) (m + t) (gn G) (vcl G 3 A u) := by
  refine good3 hG hsh (by have := QN_pos (m := m) (t := t) (n := gn G) (h := h); omega) (fun k hk h3 => ?_)
  exact wi_ab (cmm_ab hG hJ hsh hk (x := c30) (y := hq m t h) hA (fun i hi _ => hu i hi)) (QN_le1 hk ((hsh k hk).symm.trans h3))
theorem goodL {A : Nat → Int} {h x : Nat} (hG : GOK G) (hJ : Jac G) (hsh : ∀ i, i < gn G → gw G i = wS m t i) (hA : ∀ i, i < gn G → gw G i ≤ 2 → (A i).natAbs ≤ 30) (hx : x < gn G) (hx2 : gw G x = 2) : GoodC (QN m t (gn G) h : Nat) (m + t) (gn G) (vcl G 3 A (e1V x)) := by
  refine good3 hG hsh (by have := QN_pos (m := m) (t := t) (n := gn G) (h := h); omega) (fun k hk h3 => ?_)
  exact wi_ab (cmm_ab hG hJ hsh hk (x := c30) (y := u1 x) hA (fun i hi _ => e1V_ab)) (QN_le2 hx hk ((hsh x hx).symm.trans hx2) ((hsh k hk).symm.trans h3))
theorem r_stage2a {D : Nat → Nat → Int} {h qm : Nat} (hG : GOK G) (hJ : Jac G) (hM : MG σ G) (h0 : M0 σ) (hsh : ∀ i, i < gn G → gw G i = wS m t i) (hA : ∀ i, i < gn G → gw G i ≤ 2 → (f 2 i).natAbs ≤ 30) (hqm : qm ≤ 6) (hh : h ≤ 2 ^ 28) (h31 : σ.1 306 31 = 0) (h36 : σ.1 306 36 = i32 qm) (hD : ∀ e, e < qm → ∀ i, i < 6 → σ.2 322 (6 * e + i) = oi (D e i)) (hDb : ∀ e, e < qm → ∀ i, i < gn G → (D e i).natAbs ≤ hq m t h i) : ∃ τ, loopO (fun (z16 : (Mem × Int32)) => l_X11_areAlikeInLast_19 z16.1 z16.2) (PS σ f, i32 0) = some τ ∧ ∃ σ' f' C, τ = PS σ' f' ∧ FCa σ σ' ∧ σ'.1 306 31 = i32 qm ∧ (∀ q, q < 40 → f' q = f q) ∧ Cl σ' C qm ∧ ∀ e, e < qm → GoodC (QN m t (gn G) h : Nat) (m + t) (gn G) (C e) := by
  have hn := hG.2.1
  refine cnt_inv (body := fun (z16 : (Mem × Int32)) => l_X11_areAlikeInLast_19 z16.1 z16.2) (P := fun c τ => ∃ σ' f' C, τ = PS σ' f' ∧ FCa σ σ' ∧ σ'.2 322 = σ.2 322 ∧ σ'.1 306 36 = i32 qm ∧ σ'.1 306 31 = i32 c ∧ (∀ q, q < 40 → f' q = f q) ∧ Cl σ' C c ∧ ∀ e, e < c → GoodC (QN m t (gn G) h : Nat) (m + t) (gn G) (C e)) (a := 0) (b := qm) (by omega) ⟨σ, f, fun _ _ => 0, rfl, FCa.refl, rfl, h36, h31, fun _ _ => rfl, fun c j hc _ => by omega, fun c hc => by omega⟩ ?_ ?_
  · rintro c τ _ h2 ⟨σ', f', C, rfl, fr, r322, g36, g31, hf, hC, hCc⟩
    left
    have hM' := hM.ca fr
    obtain ⟨τ1, e1, f1, rfl, k1, d1⟩ := r_quietPuts (σ := σ') (f := f') (c := c) (D := D c) (by omega) (fun i hi => by rw [r322]; exact hD c h2 i hi)
    have c2 : f1 2 = f 2 := (k1 2 (by omega)).trans (hf 2 (by omega))
    have hu : ∀ i, i < gn G → (f1 40 i).natAbs ≤ hq m t h i := fun i hi => by
      rw [d1 i (by omega)]
      exact hDb c h2 i hi
    obtain ⟨σ2, f2, e2, fr2, q31, k2, hC2, r2, q36⟩ := r_adds (σ := σ') (f := f1) (C := C) (m := c) (s := 2) (b := 40) (w := 3) hG hM' (h0.ca fr) (by omega) hC g31 (by omega) (by omega) (by omega) (B := 2 ^ 28) (by omega) (by omega) (by
      rw [c2]
      intro j hj hj1
      have := hA j hj (by omega)
      omega) (by
      intro j hj hj1
      have a := hu j hj
      have b : hq m t h j ≤ h := by
        unfold hq
        rw [beq_t ((hsh j hj).symm.trans hj1)]
        exact Nat.le_refl _
      omega)
    have e2' : f_X11_adds (PS σ' f1) 2 40 3 = some (PS σ2 f2) := e2
    have g36' : (PS σ' f').1 306 36 = i32 qm := g36
    show ∃ s', l_X11_areAlikeInLast_19 (PS σ' f') (i32 c) = _ ∧ _
    unfold l_X11_areAlikeInLast_19
    rw [e_gF, g36', if_neg (i_nle h2 (by omega)), show (0 : Int32) = i32 0 from rfl, e1, e_bs]
    unfold j_X11_areAlikeInLast_59
    rw [e2', e_bs, i32_1, i32_add]
    refine ⟨_, rfl, σ2, f2, _, rfl, fr.trans fr2, r2.trans r322, q36.trans g36, q31, fun q hq => by rw [k2 q (by omega), k1 q (by omega), hf q hq], hC2, fun e he => ?_⟩
    by_cases hec : e = c
    · rw [hec, adC_m]
      exact goodQ hG hJ hsh (by rw [c2]; exact hA) hu
    · rw [adC_n hec]
      exact hCc e (by omega)
  · rintro τ ⟨σ', f', C, rfl, fr, r322, g36, g31, hf, hC, hCc⟩
    have g36' : (PS σ' f').1 306 36 = i32 qm := g36
    show ∃ x, l_X11_areAlikeInLast_19 (PS σ' f') (i32 qm) = _ ∧ _
    unfold l_X11_areAlikeInLast_19
    rw [e_gF, g36', if_pos (i_le (Nat.le_refl _) (by omega))]
    exact ⟨_, rfl, σ', f', C, rfl, fr, g31, hf, hC, hCc⟩
theorem r_stage2b {C0 : Nat → Nat → Int} {h qm : Nat} (hG : GOK G) (hJ : Jac G) (hM : MG σ G) (h0 : M0 σ) (hsh : ∀ i, i < gn G → gw G i = wS m t i) (hmt : m + t ≤ gn G) (hA : ∀ i, i < gn G → gw G i ≤ 2 → (f 2 i).natAbs ≤ 30) (hqm : qm ≤ 6) (h31 : σ.1 306 31 = i32 qm) (hC0 : Cl σ C0 qm) (hg0 : ∀ e, e < qm → GoodC (QN m t (gn G) h : Nat) (m + t) (gn G) (C0 e)) : ∃ τ, loopO (fun (z9 : (Mem × Int32)) => l_X11_areAlikeInLast_75 z9.1 z9.2) (PS σ f, i32 0) = some τ ∧ ∃ σ' f' C, τ = PS σ' f' ∧ FCa σ σ' ∧ σ'.1 306 31 = i32 (qm + t) ∧ (∀ q, q < 40 → f' q = f q) ∧ Cl σ' C (qm + t) ∧ ∀ e, e < qm + t → GoodC (QN m t (gn G) h : Nat) (m + t) (gn G) (C e) := by
  have hn := hG.2.1
  refine cnt_inv (body := fun (z9 : (Mem × Int32)) => l_X11_areAlikeInLast_75 z9.1 z9.2) (P := fun i τ => ∃ σ' f' C, τ = PS σ' f' ∧ FCa σ σ' ∧ σ'.1 306 31 = i32 (qm + (min i (m + t) - min i m)) ∧ (∀ q, q < 40 → f' q = f q) ∧ Cl σ' C (qm + (min i (m + t) - min i m)) ∧ ∀ e, e < qm + (min i (m + t) - min i m) → GoodC (QN m t (gn G) h : Nat) (m + t) (gn G) (C e)) (a := 0) (b := gn G) (by omega) ⟨σ, f, C0, rfl, FCa.refl, by rw [h31, Nat.zero_min, Nat.zero_min]; rfl, fun _ _ => rfl, by rw [Nat.zero_min, Nat.zero_min]; exact hC0, fun e he => hg0 e (by omega)⟩ ?_ ?_
  · rintro i τ _ h2 ⟨σ', f', C, rfl, fr, q31, hf, hC, hCc⟩
    left
    have hM' := hM.ca fr
    have hg := hsh i h2
    have hg3 := (hG.2.2.1 i h2).2
    show ∃ s', l_X11_areAlikeInLast_75 (PS σ' f') (i32 i) = _ ∧ _
    unfold l_X11_areAlikeInLast_75
    rw [e_n (PS_MG hM'), e_bs, if_neg (i_nle h2 (by omega)), e_weight (PS_MG hM') (by omega), e_bs]
    by_cases him : m ≤ i ∧ i < m + t
    · have hw2 : gw G i = 2 := hg.trans (wS_2.mpr him)
      obtain ⟨f1, e1, a1, b1⟩ := r_letterAt (σ := σ') (f := f') (s := 40) (i := i) (by omega) (by omega)
      have c2 : f1 2 = f 2 := (b1 2 (by omega)).trans (hf 2 (by omega))
      obtain ⟨σ2, f2, e2, fr2, g31, k2, hC2, _, _⟩ := r_adds (σ := σ') (f := f1) (C := C) (m := qm + (min i (m + t) - min i m)) (s := 2) (b := 40) (w := 3) hG hM' (h0.ca fr) (by omega) hC q31 (by omega) (by omega) (by omega) (B := 30) (by omega) (by omega) (by
        rw [c2]
        intro j hj hj1
        have := hA j hj (by omega)
        omega) (by rw [a1]; exact e1V_sb)
      have e1' : f_X11_letterAt (PS σ' f') 40 (i32 i) 1 = some (PS σ' f1) := e1
      have e2' : f_X11_adds (PS σ' f1) 2 40 3 = some (PS σ2 f2) := e2
      have hmin : qm + (min (i + 1) (m + t) - min (i + 1) m) = qm + (min i (m + t) - min i m) + 1 := by omega
      rw [hw2, if_pos i32_2.symm, e1', e_bs, e2', e_bs, e_bs]
      unfold j_X11_areAlikeInLast_111
      rw [i32_1, i32_add]
      refine ⟨_, rfl, σ2, f2, _, rfl, fr.trans fr2, by rw [hmin]; exact g31, fun q hq => by rw [k2 q (by omega), b1 q (by omega), hf q hq], by rw [hmin]; exact hC2, fun e he => ?_⟩
      by_cases hec : e = qm + (min i (m + t) - min i m)
      · rw [hec, adC_m, a1]
        exact goodL hG hJ hsh (by rw [c2]; exact hA) h2 hw2
      · rw [adC_n hec]
        exact hCc e (by omega)
    · have hmin : qm + (min (i + 1) (m + t) - min (i + 1) m) = qm + (min i (m + t) - min i m) := by omega
      have hg2 : ¬ gw G i = 2 := fun q => him (wS_2.mp (hg.symm.trans q))
      rw [if_neg (i_ne2 hg2 (by omega)), e_bs]
      unfold j_X11_areAlikeInLast_111
      rw [i32_1, i32_add]
      exact ⟨_, rfl, σ', f', C, rfl, fr, by rw [hmin]; exact q31, hf, by rw [hmin]; exact hC, by rw [hmin]; exact hCc⟩
  · rintro τ ⟨σ', f', C, rfl, fr, q31, hf, hC, hCc⟩
    have hM' := hM.ca fr
    have hmin : qm + (min (gn G) (m + t) - min (gn G) m) = qm + t := by omega
    rw [hmin] at q31 hC hCc
    show ∃ x, l_X11_areAlikeInLast_75 (PS σ' f') (i32 (gn G)) = _ ∧ _
    unfold l_X11_areAlikeInLast_75
    rw [e_n (PS_MG hM'), e_bs, if_pos (i_le (Nat.le_refl _) (by omega))]
    exact ⟨_, rfl, σ', f', C, rfl, fr, q31, hf, hC, hCc⟩
end SG2
