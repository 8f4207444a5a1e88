/-! the class's next point -/
section NP
variable {G : GD} {σ : Mem}
def topG (G : GD) : Nat := gw G (gn G - 1)
theorem c_top (hG : GOK G) {a : Nat} (h : CG σ a G) (hr : rf a 1 = a + 1) (hl : ln (a + 1) = 6) : f_X6_top σ a = some (i32 (topG G)) := by
  have hn := hG.2.1
  have h1 := hG.1
  unfold f_X6_top
  rw [e_gF, h.1, if_neg (show ¬ i32 (gn G) ≤ 0 from i_nle (b := 0) (by omega) (by omega)), e_gF, h.1, hr, i32_1, i32_sub h1, e_gI hl (by omega) (by omega), h.2.1 _ (by omega)]
  rfl
theorem topG_ge (hG : GOK G) {i : Nat} (hi : i < gn G) : gw G i ≤ topG G := hG.2.2.2.1 i (gn G - 1) (by omega) (by omega)
theorem topG_le (hG : GOK G) : 1 ≤ topG G ∧ topG G ≤ 3 := hG.2.2.1 _ (by have := hG.1; omega)
/-- the class's point -/
def PT (G : GD) (σ : Mem) (e : List Nat) : Prop := ∀ v, v < 12 → σ.1 45 v = i32 (dg G e v)
/-- one place of a point -/
theorem dg_set (hG : GOK G) {e r : List Nat} {p : Nat} (hp : p < 2 * gn G) (h : ∀ q, q ≠ p → r.getD q 0 = e.getD q 0) {v : Nat} (hv : v < 12) : dg G r v = if v = vp G p then r.getD p 0 else dg G e v := by
  have hn := hG.2.1
  by_cases h1 : v = vp G p
  · rw [if_pos h1, h1, dg_vp hG hp]
  · rw [if_neg h1]
    unfold vp at h1
    unfold dg
    by_cases h2 : v < 6
    · rw [if_pos h2, if_pos h2]
      by_cases h3 : v < gn G
      · rw [if_pos h3, if_pos h3]
        refine h v (fun z => h1 ?_)
        rw [if_pos (by omega)]; exact z
      · rw [if_neg h3, if_neg h3]
    · rw [if_neg h2, if_neg h2]
      by_cases h3 : v - 6 < gn G
      · rw [if_pos h3, if_pos h3]
        refine h _ (fun z => h1 ?_)
        rw [if_neg (by omega)]; omega
      · rw [if_neg h3, if_neg h3]
theorem getD_mid {A B : List Nat} {d q : Nat} : (A ++ d :: B).getD q 0 = if q < A.length then A.getD q 0 else if q = A.length then d else B.getD (q - A.length - 1) 0 := by
  by_cases h1 : q < A.length
  · rw [if_pos h1, List.getD_eq_getElem?_getD, List.getElem?_append_left h1, ← List.getD_eq_getElem?_getD]
  · rw [if_neg h1, List.getD_eq_getElem?_getD, List.getElem?_append_right (by omega)]
    by_cases h2 : q = A.length
    · rw [if_pos h2, h2, Nat.sub_self]; rfl
    · rw [if_neg h2, show q - A.length = (q - A.length - 1) + 1 by omega, List.getElem?_cons_succ, ← List.getD_eq_getElem?_getD]
      rfl
theorem vp_lt (hG : GOK G) {p : Nat} (hp : p < 2 * gn G) : vp G p < 12 := by
  have hn := hG.2.1
  unfold vp
  split <;> omega
def FN (σ τ : Mem) : Prop := τ.2 = σ.2 ∧ (∀ x, x ≠ 40 → x ≠ 45 → τ.1 x = σ.1 x) ∧ ∀ c, c ≠ 6 → τ.1 40 c = σ.1 40 c
theorem FN.refl : FN σ σ := ⟨rfl, fun _ _ _ => rfl, fun _ _ => rfl⟩
theorem FN.trans {τ υ : Mem} (h : FN σ τ) (k : FN τ υ) : FN σ υ := ⟨k.1.trans h.1, fun x h1 h2 => (k.2.1 x h1 h2).trans (h.2.1 x h1 h2), fun c h1 => (k.2.2 c h1).trans (h.2.2 c h1)⟩
theorem CG.fn {τ : Mem} (h : CG σ 41 G) (k : FN σ τ) : CG τ 41 G := by
  unfold CG
  rw [k.2.1 41 (by omega) (by omega), k.2.1 (41 + 1) (by omega) (by omega), k.2.1 (41 + 2) (by omega) (by omega)]
  exact h
theorem FN.put {p : Nat} {v w : Int32} : FN σ (wI (wI σ 45 p v) 40 6 w) := ⟨rfl, fun x h1 h2 => by funext y; rw [wI_1, if_neg (fun z => h1 z.1), wI_1, if_neg (fun z => h2 z.1)], fun c hc => by rw [wI_1, if_neg (fun z => hc z.2), wI_1, if_neg (by omega)]⟩
theorem FN.put2 {p : Nat} {v w : Int32} : FN σ (wI (wI σ 40 6 w) 45 p v) := ⟨rfl, fun x h1 h2 => by funext y; rw [wI_1, if_neg (fun z => h2 z.1), wI_1, if_neg (fun z => h1 z.1)], fun c hc => by rw [wI_1, if_neg (by omega), wI_1, if_neg (fun z => hc z.2)]⟩
theorem c_next (hG : GOK G) (h : CG σ 41 G) {e : List Nat} (he : e.length = 2 * gn G) (hw : pwt (wl G) e ≤ topG G) (hp : PT G σ e) (hpw : σ.1 40 6 = i32 (pwt (wl G) e)) :
    ∃ b τ, f_X4_goToNextPoint σ = some (b, τ) ∧ FN σ τ ∧ ((b = true ∧ ∃ r, nx (wl G) (topG G) e = some r ∧ PT G τ r ∧ τ.1 40 6 = i32 (pwt (wl G) r) ∧ pwt (wl G) r ≤ topG G) ∨ (b = false ∧ nx (wl G) (topG G) e = none)) := by
  have hn := hG.2.1
  have h1 := hG.1
  have ht := topG_le hG
  have hwl : (wl G).length = 2 * gn G := wl_len
  unfold f_X4_goToNextPoint
  rw [e_gF, h.1, e_bd, i32_2, i32_mul]
  have hl := loop_inv (body := fun (z12 : (Mem × Int32)) => l_X4_goToNextPoint_12 z12.1 z12.2) (fun n z => ∃ A B WA WB τ, e = A ++ B ∧ wl G = WA ++ WB ∧ A.length = WA.length ∧ n = A.length ∧ z = (τ, i32 A.length - 1) ∧ FN σ τ ∧ PT G τ (A ++ zs WB) ∧ τ.1 40 6 = i32 (pwt WA A) ∧ nx WB (topG G - pwt WA A) B = none) (fun r => (∃ τ A' d w WA' WB, r = Sum.inl (τ, i32 (A'.length % gn G), i32 (vp G A'.length)) ∧ wl G = WA' ++ w :: WB ∧ A'.length = WA'.length ∧ nx (wl G) (topG G) e = some (A' ++ (d + 1) :: zs WB) ∧ FN σ τ ∧ PT G τ (A' ++ d :: zs WB) ∧ τ.1 40 6 = i32 (pwt WA' A' + d * w) ∧ pwt WA' A' + (d + 1) * w ≤ topG G) ∨ (∃ τ, r = Sum.inr (false, τ) ∧ FN σ τ ∧ nx (wl G) (topG G) e = none)) ?_ e.length (σ, i32 (2 * gn G) - 1) ⟨e, [], wl G, [], σ, (List.append_nil e).symm, (List.append_nil _).symm, by rw [he, hwl], rfl, by rw [he], FN.refl, by
      rw [show e ++ zs [] = e from List.append_nil e]; exact hp, hpw, rfl⟩
  · obtain ⟨r, e1, ⟨τ, A', d, w, WA', WB, rfl, hW, hA, hnx, f, pt, pw, hle⟩ | ⟨τ, rfl, f, hnx⟩⟩ := hl
    · rw [e1, e_bs]
      have hpl : A'.length < 2 * gn G := by
        have := congrArg List.length hW
        rw [hwl, List.length_append, List.length_cons] at this
        omega
      have hwg : gw G (A'.length % gn G) = w := by
        have h2 : (wl G).getD A'.length 0 = w := by
          rw [hW, List.getD_eq_getElem?_getD, List.getElem?_append_right (by omega), hA, Nat.sub_self]; rfl
        rw [← h2]
        unfold wl
        rw [lst_getD hpl, Nat.zero_add]
      have hmod : A'.length % gn G < gn G := Nat.mod_lt _ (by omega)
      have hv := vp_lt hG hpl
      have hdv : dg G (A' ++ d :: zs WB) (vp G A'.length) = d := by
        rw [dg_vp hG hpl, getD_mid, if_neg (Nat.lt_irrefl _), if_pos rfl]
      have m7 := h.fn f
      have hw1 : 1 ≤ w := wl_pos hG w (by rw [hW]; exact List.mem_append_right _ (List.mem_cons_self ..))
      have hd3 : d ≤ 3 := by
        have := Nat.le_mul_of_pos_right (d + 1) hw1
        omega
      have hwt : pwt (wl G) (A' ++ (d + 1) :: zs WB) = pwt WA' A' + (d + 1) * w := by
        rw [hW, wt_app _ _ _ _ hA]
        show _ + ((d + 1) * w + pwt WB (zs WB)) = _
        rw [wt_zs]; omega
      show ∃ b υ, j_X4_goToNextPoint_85 τ (i32 (A'.length % gn G)) (i32 (vp G A'.length)) = some (b, υ) ∧ _
      unfold j_X4_goToNextPoint_85
      refine ⟨true, wI (wI τ 45 (vp G A'.length) (i32 (d + 1))) 40 6 (i32 (pwt WA' A' + d * w + w)), ?_, f.trans FN.put, Or.inl ⟨rfl, _, hnx, fun v hv2 => ?_, ?_, by rw [hwt]; exact hle⟩⟩
      · rw [e_gI ln_45 hv (by omega), pt _ hv, hdv, i32_1, i32_add, e_pI ln_45 hv (by omega), e_gF, wI_1, if_neg (by omega), pw, e_gI ln_42 (by omega) (by omega), wI_1, if_neg (by omega), m7.2.1 _ (by omega), hwg, i32_add, e_pF]
      · rw [wI_1, if_neg (by omega), wI_1]
        rw [dg_set hG (e := A' ++ d :: zs WB) (r := A' ++ (d + 1) :: zs WB) hpl (fun q hq => by
          rw [getD_mid, getD_mid]
          by_cases h5 : q < A'.length
          · rw [if_pos h5, if_pos h5]
          · rw [if_neg h5, if_neg h5, if_neg hq, if_neg hq]) hv2]
        by_cases h5 : v = vp G A'.length
        · rw [if_pos ⟨rfl, h5⟩, if_pos h5, getD_mid, if_neg (Nat.lt_irrefl _), if_pos rfl]
        · rw [if_neg (fun z => h5 z.2), if_neg h5]; exact pt v hv2
      · rw [wI_1, if_pos ⟨rfl, rfl⟩, hwt, Nat.add_mul, Nat.one_mul, Nat.add_assoc]
    · rw [e1, e_bs]
      exact ⟨false, τ, rfl, f, Or.inr ⟨rfl, hnx⟩⟩
  · rintro n z ⟨A, B, WA, WB, τ, hE, hW, hA, rfl, rfl, f, pt, pw, hnx⟩
    rcases List.eq_nil_or_concat A with hA0 | ⟨A', d, hA'⟩
    · right
      subst hA0
      have hWA : WA = [] := List.length_eq_zero_iff.mp hA.symm
      subst hWA
      refine ⟨Sum.inr (false, τ), ?_, Or.inr ⟨τ, rfl, f, ?_⟩⟩
      · show l_X4_goToNextPoint_12 τ (i32 ([] : List Nat).length - 1) = _
        unfold l_X4_goToNextPoint_12
        rw [if_pos (show i32 ([] : List Nat).length - 1 < 0 by decide)]
      · rw [hE, hW]
        exact hnx
    · rw [List.concat_eq_append] at hA'
      subst hA'
      rcases List.eq_nil_or_concat WA with hWA0 | ⟨WA', w, hWA'⟩
      · subst hWA0
        rw [List.length_append] at hA
        simp at hA
      · rw [List.concat_eq_append] at hWA'
        subst hWA'
        simp only [List.length_append, List.length_cons, List.length_nil] at hA
        have hA2 : A'.length = WA'.length := by omega
        rw [List.append_assoc, List.singleton_append] at hE hW pt
        have hwtA : pwt (WA' ++ [w]) (A' ++ [d]) = pwt WA' A' + d * w := by
          rw [wt_app _ _ _ _ hA2]; rfl
        rw [hwtA] at pw hnx
        have hpl : A'.length < 2 * gn G := by
          have := congrArg List.length hW
          rw [hwl, List.length_append, List.length_cons] at this
          omega
        have hwg : gw G (A'.length % gn G) = w := by
          have h2 : (wl G).getD A'.length 0 = w := by
            rw [hW, List.getD_eq_getElem?_getD, List.getElem?_append_right (by omega), hA2, Nat.sub_self]; rfl
          rw [← h2]
          unfold wl
          rw [lst_getD hpl, Nat.zero_add]
        have hwtE : pwt (wl G) e = pwt WA' A' + (d * w + pwt WB B) := by
          rw [hE, hW, wt_app _ _ _ _ hA2]; rfl
        have hmod : A'.length % gn G < gn G := Nat.mod_lt _ (by omega)
        have hv := vp_lt hG hpl
        have hw1 : 1 ≤ w := wl_pos hG w (by rw [hW]; exact List.mem_append_right _ (List.mem_cons_self ..))
        have hw3 : w ≤ 3 := by rw [← hwg]; exact (hG.2.2.1 _ hmod).2
        have m7 := h.fn f
        have hdv : dg G (A' ++ d :: zs WB) (vp G A'.length) = d := by
          rw [dg_vp hG hpl, getD_mid, if_neg (Nat.lt_irrefl _), if_pos rfl]
        have hd3 : d ≤ 3 := by
          have := Nat.le_mul_of_pos_right d hw1
          omega
        have hlast : nx (w :: WB) (topG G - pwt WA' A') (d :: B) = if (d + 1) * w ≤ topG G - pwt WA' A' then some ((d + 1) :: zs WB) else none := nx_last (by rw [Nat.sub_sub]; exact hnx)
        have hdw : (d + 1) * w = d * w + w := by rw [Nat.add_mul, Nat.one_mul]
        have hl1 : (A' ++ [d]).length = A'.length + 1 := by rw [List.length_append]; rfl
        have e13 : i32 (A' ++ [d]).length - 1 = i32 A'.length := by rw [hl1, i32_1, i32_sub (by omega)]; rfl
        have hbody : ∀ y, (if i32 (topG G) < i32 (pwt WA' A' + d * w) + i32 w then (gF τ 40 6 (fun (v20 : Int32) => gI τ 45 (i32 (vp G A'.length)) (fun (v21 : Int32) => gI τ 42 (i32 (A'.length % gn G)) (fun (v22 : Int32) => pF τ 40 6 (v20 - (v21 * v22)) (fun (σ23 : Mem) => pI σ23 45 (i32 (vp G A'.length)) 0 (fun (σ24 : Mem) => some (Sum.inl (σ24, i32 A'.length + (-1))))))))) else (some (Sum.inr (Sum.inl (τ, i32 (A'.length % gn G), i32 (vp G A'.length))))) : Option ((Mem × Int32) ⊕ ((Mem × Int32 × Int32) ⊕ (Bool × Mem)))) = y → l_X4_goToNextPoint_12 τ (i32 (A' ++ [d]).length - 1) = y := by
          intro y hy
          rw [e13]
          unfold l_X4_goToNextPoint_12
          rw [if_neg (show ¬ i32 A'.length < 0 from i_nlt (b := 0) (Nat.zero_le _) (by omega)), e_gF, m7.1]
          have e14 : (if i32 (gn G) ≤ i32 A'.length then (gF τ 41 0 (fun (v25 : Int32) => some (i32 A'.length - v25))) else (some (i32 A'.length)) : Option Int32) = some (i32 (A'.length % gn G)) := by
            by_cases h5 : gn G ≤ A'.length
            · rw [if_pos (i_le h5 (by omega)), e_gF, m7.1, i32_sub h5]
              congr 2
              rw [Nat.mod_eq_sub_mod h5, Nat.mod_eq_of_lt (by omega)]
            · rw [if_neg (i_nle (by omega) (by omega)), Nat.mod_eq_of_lt (by omega)]
          rw [e14, e_bs]
          unfold j_X4_goToNextPoint_40
          have e16 : (if i32 (gn G) ≤ i32 A'.length then (some (6 + i32 (A'.length % gn G))) else (some (i32 (A'.length % gn G))) : Option Int32) = some (i32 (vp G A'.length)) := by
            unfold vp
            by_cases h5 : gn G ≤ A'.length
            · rw [if_pos (i_le h5 (by omega)), if_neg (by omega), i32_6, i32_add]
              congr 3
              rw [Nat.mod_eq_sub_mod h5, Nat.mod_eq_of_lt (by omega)]
            · rw [if_neg (i_nle (by omega) (by omega)), if_pos (by omega), Nat.mod_eq_of_lt (by omega)]
          rw [e_gF, m7.1, e16, e_bs]
          unfold j_X4_goToNextPoint_60
          rw [e_gF, pw, e_gI ln_42 (by omega) (by omega), m7.2.1 _ (by omega), hwg, c_top hG m7 (by decide +kernel) ln_42, e_bs]
          exact hy
        have hmul : d * w ≤ 3 * 3 := Nat.mul_le_mul hd3 hw3
        by_cases hc : pwt WA' A' + (d + 1) * w ≤ topG G
        · right
          refine ⟨Sum.inl (τ, i32 (A'.length % gn G), i32 (vp G A'.length)), ?_, Or.inl ⟨τ, A', d, w, WA', WB, rfl, hW, hA2, ?_, f, pt, pw, hc⟩⟩
          · refine hbody _ ?_
            rw [i32_add, if_neg (i_nlt (by omega) (by omega))]
          · rw [hW, hE]
            refine nx_app A' WA' _ _ _ _ hA2 ?_
            rw [hlast, if_pos (by omega)]
        · left
          refine ⟨(wI (wI τ 40 6 (i32 (pwt WA' A'))) 45 (vp G A'.length) 0, i32 A'.length - 1), A'.length, by omega, ?_, A', d :: B, WA', w :: WB, _, hE, hW, hA2, rfl, rfl, f.trans FN.put2, fun v hv2 => ?_, ?_, ?_⟩
          · refine hbody _ ?_
            rw [i32_add, if_pos (i_lt (by omega) (by omega)), e_gF, pw, e_gI ln_45 hv (by omega), pt _ hv, hdv, e_gI ln_42 (by omega) (by omega), m7.2.1 _ (by omega), hwg, i32_mul, i32_sub (by omega), e_pF, e_pI ln_45 hv (by omega), Int32.add_neg_eq_sub, show pwt WA' A' + d * w - d * w = pwt WA' A' by omega]
          · rw [wI_1]
            show _ = i32 (dg G (A' ++ 0 :: zs WB) v)
            rw [dg_set hG (e := A' ++ d :: zs WB) (r := A' ++ 0 :: zs WB) hpl (fun q hq => by
              rw [getD_mid, getD_mid]
              by_cases h5 : q < A'.length
              · rw [if_pos h5, if_pos h5]
              · rw [if_neg h5, if_neg h5, if_neg hq, if_neg hq]) hv2]
            by_cases h5 : v = vp G A'.length
            · rw [if_pos ⟨rfl, h5⟩, if_pos h5, getD_mid, if_neg (Nat.lt_irrefl _), if_pos rfl]; rfl
            · rw [if_neg (fun z => h5 z.2), if_neg h5, wI_1, if_neg (by omega)]; exact pt v hv2
          · rw [wI_1, if_neg (by omega), wI_1, if_pos ⟨rfl, rfl⟩]
          · rw [hlast, if_neg (by omega)]
end NP

