/-! the reference's collecting follows the machine -/
section RG
variable {G : GD} {σ : Mem}
theorem r_exchange (h : MG σ G) (hG : GOK G) {A B : List Nat} {j i : Nat} (hi : i < j) (hj : j < gn G) (h16 : A.length + B.length + 20 ≤ 16000) (hR : RW σ (A ++ j :: i :: B)) {ex : Nat} (hx : σ.1 306 7 = i32 ex) :
    ∃ τ, f_X11_exchanges σ (i32 A.length) = some τ ∧ FX σ τ ∧ RW τ (A ++ i :: j :: (tw G j i ++ B)) ∧ τ.1 306 7 = i32 (ex + 1) := by
  have hn := hG.2.1
  have h12 := tw_len12 hG hi
  have hlen : (A ++ j :: i :: B).length = A.length + 2 + B.length := by simp only [List.length_append, List.length_cons]; omega
  have gA : ∀ p x, p < A.length → A[p]? = some x → (A ++ j :: i :: B)[p]? = some x := fun p x hp hx => by rw [List.getElem?_append_left hp]; exact hx
  have gj : (A ++ j :: i :: B)[A.length]? = some j := by rw [List.getElem?_append_right (Nat.le_refl _), Nat.sub_self]; rfl
  have gi : (A ++ j :: i :: B)[A.length + 1]? = some i := by rw [List.getElem?_append_right (by omega), show A.length + 1 - A.length = 1 by omega]; rfl
  have gB : ∀ q x, B[q]? = some x → (A ++ j :: i :: B)[A.length + 2 + q]? = some x := fun q x hx => by
    rw [List.getElem?_append_right (by omega), show A.length + 2 + q - A.length = q + 1 + 1 by omega, List.getElem?_cons_succ, List.getElem?_cons_succ]; exact hx
  unfold f_X11_exchanges
  rw [e_gI ln_309 (by omega) (by omega), hR.2 _ _ gj, i32_1, i32_add, e_gI ln_309 (by omega) (by omega), hR.2 _ _ gi, e_bd, i32_add, r_sum h hG hi hj, e_bs]
  unfold j_X11_exchanges_52
  rw [e_gF, hR.1, e_bd, i32_1, i32_sub (by omega)]
  obtain ⟨τ1, e1, f1, g1, a1, b1⟩ := r_shift (σ := σ) (l := A ++ j :: i :: B) (at_ := A.length) (more := (tw G j i).length) (by omega) (by omega) hR
  rw [e1, e_bs]
  unfold j_X11_exchanges_91
  have g6 : τ1.1 306 6 = i32 (A ++ j :: i :: B).length := by rw [g1]; exact hR.1
  have M4 : MG (wI (wI (wI τ1 306 6 (i32 ((A ++ j :: i :: B).length + (tw G j i).length))) 309 A.length (i32 i)) 309 (A.length + 1) (i32 j)) G := by
    have := h.fx f1
    unfold MG at this ⊢
    simp only [wI_1]
    refine ⟨by rw [if_neg (by omega), if_neg (by omega), if_neg (by omega)]; exact this.1, fun i hi => by rw [if_neg (by omega), if_neg (by omega), if_neg (by omega)]; exact this.2.1 i hi, fun j i k h1 h2 h3 => by rw [if_neg (by omega), if_neg (by omega), if_neg (by omega)]; exact this.2.2 j i k h1 h2 h3⟩
  rw [e_gF, g6, e_pF, i32_add, e_pI ln_309 (by omega) (by omega), i32_1, i32_add, e_pI ln_309 (by omega) (by omega), e_bd, i32_2, i32_add, e_bd, i32_add]
  obtain ⟨τ5, e5, f5, v5⟩ := r_fill (σ := wI (wI (wI τ1 306 6 (i32 ((A ++ j :: i :: B).length + (tw G j i).length))) 309 A.length (i32 i)) 309 (A.length + 1) (i32 j)) M4 hG (to := A.length + 2) hi hj (by omega)
  rw [e5, e_bs]
  unfold j_X11_exchanges_179
  have g7 : τ5.1 306 7 = i32 ex := by
    rw [f5.2.1 306 (by omega), wI_1, if_neg (by omega), wI_1, if_neg (by omega), wI_1, if_neg (by omega), g1]; exact hx
  have k309 : ∀ p, p ≠ A.length → p ≠ A.length + 1 → (p < A.length + 2 ∨ A.length + 2 + (tw G j i).length ≤ p) → τ5.1 309 p = τ1.1 309 p := fun p h1 h2 h3 => by
    rw [f5.2.2 p h3, wI_1, if_neg (fun z => h2 z.2), wI_1, if_neg (fun z => h1 z.2), wI_1, if_neg (by omega)]
  refine ⟨wI τ5 306 7 (i32 (ex + 1)), by rw [e_gF, g7, e_pF, i32_1, i32_add], ⟨f5.1.trans f1.1, fun x h1 h2 => ?_, fun c h1 h2 => ?_⟩, ⟨?_, fun p x hp => ?_⟩, by rw [wI_1, if_pos ⟨rfl, rfl⟩]⟩
  · funext q
    rw [wI_1, if_neg (fun z => h1 z.1), f5.2.1 x h2, wI_1, if_neg (fun z => h2 z.1), wI_1, if_neg (fun z => h2 z.1), wI_1, if_neg (fun z => h1 z.1), f1.2.1 x h1 h2]
  · rw [wI_1, if_neg (by omega), f5.2.1 306 (by omega), wI_1, if_neg (by omega), wI_1, if_neg (by omega), wI_1, if_neg (by omega), f1.2.2 c h1 h2]
  · rw [wI_1, if_neg (by omega), f5.2.1 306 (by omega), wI_1, if_neg (by omega), wI_1, if_neg (by omega), wI_1, if_pos ⟨rfl, rfl⟩]
    congr 1
    simp only [List.length_append, List.length_cons]
    omega
  · rw [wI_1, if_neg (by omega)]
    by_cases c1 : p < A.length
    · rw [List.getElem?_append_left c1] at hp
      rw [k309 p (by omega) (by omega) (by omega)]
      exact a1 p x (by omega) (gA p x c1 hp)
    · rw [List.getElem?_append_right (by omega)] at hp
      by_cases c2 : p = A.length
      · subst c2
        rw [Nat.sub_self] at hp
        cases hp
        rw [f5.2.2 _ (by omega), wI_1, if_neg (by omega), wI_1, if_pos ⟨rfl, rfl⟩]
      · by_cases c3 : p = A.length + 1
        · subst c3
          rw [show A.length + 1 - A.length = 1 by omega] at hp
          cases hp
          rw [f5.2.2 _ (by omega), wI_1, if_pos ⟨rfl, rfl⟩]
        · obtain ⟨q, rfl⟩ : ∃ q, p = A.length + 2 + q := ⟨p - (A.length + 2), by omega⟩
          rw [show A.length + 2 + q - A.length = q + 1 + 1 by omega, List.getElem?_cons_succ, List.getElem?_cons_succ] at hp
          by_cases c4 : q < (tw G j i).length
          · rw [List.getElem?_append_left c4] at hp
            exact v5 q x hp
          · rw [List.getElem?_append_right (by omega)] at hp
            rw [k309 _ (by omega) (by omega) (by omega)]
            have := b1 (A.length + 2 + (q - (tw G j i).length)) x (by omega) (gB _ x hp)
            rw [show A.length + 2 + (q - (tw G j i).length) + (tw G j i).length = A.length + 2 + q by omega] at this
            exact this
theorem r_collects (h : MG σ G) (hG : GOK G) {l : List Nat} {ex0 : Nat} (hl : l.length ≤ 64) (hlg : ∀ x, x ∈ l → x < gn G) (hR : RW σ l) (hx0 : σ.1 306 7 = i32 ex0) (h0 : ex0 ≤ 1000) :
    ∃ b τ, f_X11_collects σ = some (b, τ) ∧ FX σ τ ∧ ((∃ S e, col G 1000 [] l ex0 = some (S, e) ∧ b = true ∧ RW τ S.reverse ∧ τ.1 306 7 = i32 e ∧ e ≤ 1000) ∨ (col G 1000 [] l ex0 = none ∧ b = false)) := by
  have hn := hG.2.1
  unfold f_X11_collects
  cases l with
  | nil =>
    refine ⟨true, σ, ?_, FX.refl, Or.inl ⟨[], ex0, col_nil, rfl, hR, hx0, h0⟩⟩
    rw [loopO_eq]
    show (l_X11_collects_2 σ 0).bind _ = _
    unfold l_X11_collects_2
    rw [e_gF, hR.1, if_pos (show i32 ([] : List Nat).length ≤ 0 + 1 by decide)]
    rfl
  | cons x l =>
    have hc0 : col G 1000 [] (x :: l) ex0 = col G 1000 [x] l ex0 := col_first hG h0
    rw [hc0]
    simp only [List.length_cons] at hl
    have hl' := loop_inv (body := fun (z2 : Mem × Int32) => l_X11_collects_2 z2.1 z2.2) (fun n z => ∃ j S W ex τ, z = (τ, i32 S.length) ∧ n = 14 * (1000 - ex) + W.length ∧ ex ≤ 1000 ∧ S.length + 1 + W.length ≤ 64 + 12 * ex ∧ (∀ x, x ∈ j :: S → x < gn G) ∧ (∀ x, x ∈ W → x < gn G) ∧ col G 1000 (j :: S) W ex = col G 1000 [x] l ex0 ∧ FX σ τ ∧ RW τ (S.reverse ++ j :: W) ∧ τ.1 306 7 = i32 ex) (fun r => ∃ b τ, r = (b, τ) ∧ FX σ τ ∧ ((∃ S e, col G 1000 [x] l ex0 = some (S, e) ∧ b = true ∧ RW τ S.reverse ∧ τ.1 306 7 = i32 e ∧ e ≤ 1000) ∨ (col G 1000 [x] l ex0 = none ∧ b = false))) ?_ (14 * (1000 - ex0) + l.length) (σ, 0) ⟨x, [], l, ex0, σ, rfl, rfl, h0, by simp only [List.length_nil]; omega, fun y hy => hlg y (by rw [List.mem_singleton.mp hy]; exact List.mem_cons_self ..), fun y hy => hlg y (List.mem_cons_of_mem _ hy), rfl, FX.refl, hR, hx0⟩
    · obtain ⟨r, e, b, τ, rfl, f, c⟩ := hl'
      exact ⟨b, τ, e, f, c⟩
    · rintro n z ⟨j, S, W, ex, τ, rfl, rfl, hex, hlen, hSg, hWg, hc, f, hR, hx⟩
      have hj := hSg j (List.mem_cons_self ..)
      have hlw : (S.reverse ++ j :: W).length = S.length + 1 + W.length := by simp only [List.length_append, List.length_cons, List.length_reverse]; omega
      have gj : (S.reverse ++ j :: W)[S.length]? = some j := by rw [List.getElem?_append_right (by rw [List.length_reverse]; omega), List.length_reverse, Nat.sub_self]; rfl
      cases W with
      | nil =>
        right
        refine ⟨(true, τ), ?_, true, τ, rfl, f, Or.inl ⟨j :: S, ex, by rw [← hc, col_nil], rfl, by rw [List.reverse_cons]; exact hR, hx, hex⟩⟩
        show l_X11_collects_2 τ (i32 S.length) = _
        unfold l_X11_collects_2
        rw [e_gF, hR.1, hlw, i32_1, i32_add, if_pos (i_le (by simp only [List.length_nil]; omega) (by omega))]
      | cons i W =>
        have hi := hWg i (List.mem_cons_self ..)
        have hWg' : ∀ x, x ∈ W → x < gn G := fun x hx => hWg x (List.mem_cons_of_mem _ hx)
        simp only [List.length_cons] at hlen hlw
        have gi : (S.reverse ++ j :: i :: W)[S.length + 1]? = some i := by rw [List.getElem?_append_right (by rw [List.length_reverse]; omega), List.length_reverse, show S.length + 1 - S.length = 1 by omega]; rfl
        have hstart : ∀ {y}, (if i32 i < i32 j then (gF τ 306 7 (fun (v6 : Int32) => if v6 = 1000 then (some (Sum.inr (false, τ))) else ((f_X11_exchanges τ (i32 S.length)).bind (fun (σ7 : Mem) => (if i32 S.length ≤ 0 then (some 0) else (some (i32 S.length - 1)) : Option Int32).bind (fun (z8 : Int32) => j_X11_collects_64 σ7 z8))))) else (bd (i32 S.length + 1) (fun (v9 : Int32) => some (Sum.inl (τ, v9)))) : Option ((Mem × Int32) ⊕ (Bool × Mem))) = y → l_X11_collects_2 τ (i32 S.length) = y := by
          intro y hy
          unfold l_X11_collects_2
          rw [e_gF, hR.1, hlw, show i32 S.length + 1 = i32 (S.length + 1) by rw [i32_1, i32_add], if_neg (i_nle (by omega) (by omega)), e_gI ln_309 (by omega) (by omega), hR.2 _ _ gj, e_gI ln_309 (by omega) (by omega), hR.2 _ _ gi]
          rw [show i32 S.length + 1 = i32 (S.length + 1) by rw [i32_1, i32_add]] at hy
          exact hy
        by_cases hij : i < j
        · by_cases hL : ex = 1000
          · right
            subst hL
            refine ⟨(false, τ), ?_, false, τ, rfl, f, Or.inr ⟨by rw [← hc, col_limit hij], rfl⟩⟩
            show l_X11_collects_2 τ (i32 S.length) = _
            refine hstart ?_
            rw [if_pos (i_lt hij (by omega)), e_gF, hx, if_pos (show i32 1000 = 1000 from rfl)]
          · left
            obtain ⟨υ, e, f2, R2, x2⟩ := r_exchange (σ := τ) (h.fx f) hG (A := S.reverse) (B := W) hij hj (by rw [List.length_reverse]; omega) hR hx
            rw [List.length_reverse] at e
            have l12 := tw_len12 hG hij
            have nL : ¬ i32 ex = 1000 := i_ne (b := 1000) hL (by omega) (by omega)
            have hc2 := col_exch (S := S) (W := W) hG (show ex < 1000 by omega) hij
            have mem2 : ∀ x, x ∈ j :: (tw G j i ++ W) → x < gn G := fun x hx => by
              rcases List.mem_cons.mp hx with h6 | h6
              · rw [h6]; exact hj
              · rcases List.mem_append.mp h6 with h7 | h7
                · exact (tw_mem hj h7).2.1
                · exact hWg' x h7
            cases S with
            | nil =>
              refine ⟨(υ, i32 0), 14 * (1000 - (ex + 1)) + (j :: (tw G j i ++ W)).length, by simp only [List.length_cons, List.length_append]; omega, ?_, i, [], j :: (tw G j i ++ W), ex + 1, υ, rfl, rfl, by omega, by simp only [List.length_cons, List.length_append, List.length_nil] at hlen ⊢; omega, fun y hy => by rw [List.mem_singleton.mp hy]; exact hi, mem2, by rw [← hc, hc2, col_first hG (by omega)], f.trans f2, R2, x2⟩
              show l_X11_collects_2 τ (i32 ([] : List Nat).length) = _
              refine hstart ?_
              rw [if_pos (i_lt hij (by omega)), e_gF, hx, if_neg nL, e, e_bs, if_pos (show i32 ([] : List Nat).length ≤ 0 by decide), e_bs]
              rfl
            | cons k S =>
              refine ⟨(υ, i32 S.length), 14 * (1000 - (ex + 1)) + (i :: j :: (tw G j i ++ W)).length, by simp only [List.length_cons, List.length_append]; omega, ?_, k, S, i :: j :: (tw G j i ++ W), ex + 1, υ, rfl, rfl, by omega, by simp only [List.length_cons, List.length_append] at hlen ⊢; omega, fun y hy => hSg y (List.mem_cons_of_mem _ hy), fun y hy => ?_, by rw [← hc, hc2], f.trans f2, ?_, x2⟩
              · show l_X11_collects_2 τ (i32 (k :: S).length) = _
                refine hstart ?_
                rw [if_pos (i_lt hij (by omega)), e_gF, hx, if_neg nL, e, e_bs, if_neg (show ¬ i32 (k :: S).length ≤ 0 from i_nle (b := 0) (by simp only [List.length_cons]; omega) (by omega)), e_bs, List.length_cons, i32_1, i32_sub (by omega)]
                rfl
              · rcases List.mem_cons.mp hy with h6 | h6
                · rw [h6]; exact hi
                · exact mem2 y h6
              · rw [List.reverse_cons, List.append_assoc] at R2
                exact R2
        · left
          refine ⟨(τ, i32 (S.length + 1)), 14 * (1000 - ex) + W.length, by simp only [List.length_cons]; omega, ?_, i, j :: S, W, ex, τ, rfl, rfl, hex, by simp only [List.length_cons]; omega, fun y hy => ?_, hWg', by rw [← hc, col_move hG hex (by omega)], f, ?_, hx⟩
          · show l_X11_collects_2 τ (i32 S.length) = _
            refine hstart ?_
            rw [if_neg (i_nlt (by omega) (by omega)), e_bd, i32_1, i32_add]
          · rcases List.mem_cons.mp hy with h6 | h6
            · rw [h6]; exact hi
            · exact hSg y h6
          · rw [List.reverse_cons, List.append_assoc]
            exact hR
end RG
