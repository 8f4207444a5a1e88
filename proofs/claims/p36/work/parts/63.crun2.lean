/-! the class's exchange and its whole run -/
section CD
variable {G : GD} {σ : Mem}
/-- an address of rules -/
def RA (a : Nat) : Prop := (rf a 2 = a + 2 ∧ ln (a + 2) = 216) ∧ (a ≠ 35 ∧ a ≠ 37 ∧ a ≠ 38 ∧ a + 1 ≠ 35 ∧ a + 1 ≠ 37 ∧ a + 1 ≠ 38 ∧ a + 2 ≠ 35 ∧ a + 2 ≠ 37 ∧ a + 2 ≠ 38)
theorem c_exchange {a : Nat} (hG : GOK G) (ra : RA a) (h : CG σ a G) {i j : Nat} {S W : List Nat} (hi : i < j) (hj : j < gn G) (hS : stk σ 3 37 (j :: S)) (hW : stk σ 5 38 (i :: W)) (hl : W.length + 20 < 12076) (hl2 : S.length < 12076) :
    ∃ τ, f_X2_exchange σ a (i32 j) (i32 i) = some τ ∧ FR σ τ ∧ stk τ 3 37 S ∧ stk τ 5 38 (i :: j :: (tw G j i ++ W)) := by
  have hn := hG.2.1
  unfold f_X2_exchange
  have e1 : (wI σ 35 3 (i32 S.length)).1 35 5 = i32 (W.length + 1) := by rw [wI_1, if_neg (by omega)]; exact hW.1
  have f0 : FR σ (wI (wI σ 35 3 (i32 S.length)) 35 5 (i32 W.length)) := by
    refine ⟨rfl, fun y h1 _ _ => ?_, fun c h1 h2 => ?_⟩
    · funext k; rw [wI_1, if_neg (by omega), wI_1, if_neg (by omega)]
    · rw [wI_1, if_neg (by omega), wI_1, if_neg (by omega)]
  have s0 : stk (wI (wI σ 35 3 (i32 S.length)) 35 5 (i32 W.length)) 3 37 S := by
    refine ⟨by rw [wI_1, if_neg (by omega), wI_1, if_pos ⟨rfl, rfl⟩], hS.2.2.keep (fun p _ => by rw [wI_1, if_neg (by omega), wI_1, if_neg (by omega)])⟩
  have w0 : stk (wI (wI σ 35 3 (i32 S.length)) 35 5 (i32 W.length)) 5 38 W := by
    refine ⟨by rw [wI_1, if_pos ⟨rfl, rfl⟩], hW.2.2.keep (fun p _ => by rw [wI_1, if_neg (by omega), wI_1, if_neg (by omega)])⟩
  have en : (wI (wI σ 35 3 (i32 S.length)) 35 5 (i32 W.length)).1 a 0 = i32 (gn G) := (h.keep f0 ra.2).1
  have hS1 : σ.1 35 3 = i32 (S.length + 1) := hS.1
  rw [e_gF, hS1, e_pF, show (1 : Int32) = i32 1 from rfl, i32_sub (by omega), e_gF, show S.length + 1 - 1 = S.length by omega, e1, e_pF, i32_sub (by omega), show W.length + 1 - 1 = W.length by omega, e_gF, en, e_bd, i32_sub hG.1]
  generalize wI (wI σ 35 3 (i32 S.length)) 35 5 (i32 W.length) = σ0 at f0 s0 w0
  have h0 : CG σ0 a G := h.keep f0 ra.2
  have hl' := loop_inv (body := fun (z11 : Mem × Int32) => l_X2_exchange_28 a (i32 j) (i32 i) z11.1 z11.2) (fun n z => ∃ d τ, d ≤ gn G - 1 - j ∧ n = gn G - 1 - j - d ∧ z = (τ, i32 (gn G - 1 - d)) ∧ FR σ0 τ ∧ stk τ 3 37 S ∧ stk τ 5 38 (twD G j i d ++ W)) (fun τ => FR σ0 τ ∧ stk τ 3 37 S ∧ stk τ 5 38 (tw G j i ++ W)) ?_ (gn G - 1 - j) (σ0, i32 (gn G - 1)) ⟨0, σ0, by omega, by omega, rfl, FR.refl, s0, w0⟩
  · obtain ⟨τ, e, f1, s1, w1⟩ := hl'
    rw [e, e_bs]
    unfold j_X2_exchange_67
    have l12 := tw_len12 hG hi
    obtain ⟨τ2, e2, f2, s2, w2⟩ := c_putAhead (x := j) s1 w1 (by rw [List.length_append]; omega)
    obtain ⟨τ3, e3, f3, s3, w3⟩ := c_putAhead (x := i) s2 w2 (by rw [List.length_cons, List.length_append]; omega)
    rw [e2, e_bs, e3, e_bs]
    exact ⟨τ3, rfl, f0.trans (f1.trans (f2.trans f3)), s3, w3⟩
  · rintro n z ⟨d, τ, hd, hnd, rfl, f, s1, w1⟩
    by_cases hdd : d = gn G - 1 - j
    · right
      refine ⟨τ, ?_, f, s1, by unfold tw; rw [← hdd]; exact w1⟩
      show l_X2_exchange_28 _ _ _ _ _ = _
      unfold l_X2_exchange_28
      rw [if_pos (i_le (by omega) (by omega))]
    · left
      have ht3 := hG.2.2.2.2.2.1 j i (gn G - 1 - d)
      have hlen := tw_len hG (j := j) (i := i) d
      obtain ⟨υ, e, f2, s2, w2⟩ := c_putMany (σ := τ) (x := gn G - 1 - d) ht3 s1 w1 (by rw [List.length_append]; omega)
      refine ⟨(υ, i32 (gn G - 1 - (d + 1))), gn G - 1 - j - (d + 1), by omega, ?_, d + 1, υ, by omega, rfl, rfl, f.trans f2, s2, ?_⟩
      · show l_X2_exchange_28 _ _ _ _ _ = _
        unfold l_X2_exchange_28
        rw [if_neg (i_nle (by omega) (by omega)), c_read hG (h0.keep f ra.2) ra.1.1 ra.1.2 (by omega) (by omega) (by omega), e_bs, e, e_bs]
        unfold j_X2_exchange_61
        have e2 : i32 (gn G - 1 - d) + (-1) = i32 (gn G - 1 - (d + 1)) := by
          rw [show gn G - 1 - d = (gn G - 1 - (d + 1)) + 1 by omega, ← i32_add, ← i32_1, Int32.add_neg_eq_sub, Int32.add_sub_cancel]
        rw [e2]
      · show stk υ 5 38 ((List.replicate _ _ ++ twD G j i d) ++ W)
        rw [List.append_assoc]
        exact w2
theorem i32_add_one {a : Nat} (h : 1 ≤ a) : i32 a + (-1) = i32 (a - 1) := by
  rw [show a = (a - 1) + 1 by omega, ← i32_add, ← i32_1, Int32.add_neg_eq_sub, Int32.add_sub_cancel]
  rfl
/-- the word that waits, put on the stack -/
theorem c_load {w : List Nat} (hw : w.length ≤ 64) (h36 : ∀ p (h : p < w.length), σ.1 36 p = i32 (w[p])) (hS : stk σ 3 37 []) (hW : stk σ 5 38 []) :
    ∃ τ, loopO (fun (z25 : Mem × Int32) => l_X2_run_17 z25.1 z25.2) (σ, i32 w.length - 1) = some τ ∧ FR σ τ ∧ stk τ 3 37 [] ∧ stk τ 5 38 w := by
  have hl := loop_inv (body := fun (z25 : Mem × Int32) => l_X2_run_17 z25.1 z25.2) (fun n z => ∃ k τ, k ≤ w.length ∧ n = k ∧ z = (τ, i32 k - 1) ∧ FR σ τ ∧ stk τ 3 37 [] ∧ stk τ 5 38 (w.drop k)) (fun τ => FR σ τ ∧ stk τ 3 37 [] ∧ stk τ 5 38 w) ?_ w.length (σ, i32 w.length - 1) ⟨w.length, σ, Nat.le_refl _, rfl, rfl, FR.refl, hS, by rw [List.drop_length]; exact hW⟩
  · exact hl
  · rintro n z ⟨k, τ, hk, hn, rfl, f, s1, w1⟩
    cases k with
    | zero =>
      right
      refine ⟨τ, ?_, f, s1, w1⟩
      show l_X2_run_17 _ _ = _
      unfold l_X2_run_17
      rw [if_pos (show i32 0 - 1 < 0 by decide)]
    | succ k =>
      left
      have e1 : i32 (k + 1) - 1 = i32 k := by rw [i32_1, i32_sub (by omega)]; rfl
      obtain ⟨υ, e, f2, s2, w2⟩ := c_putAhead (σ := τ) (x := w[k]) s1 w1 (by rw [List.length_drop]; omega)
      refine ⟨(υ, i32 k - 1), k, by omega, ?_, k, υ, by omega, rfl, rfl, f.trans f2, s2, ?_⟩
      · show l_X2_run_17 _ _ = _
        unfold l_X2_run_17
        rw [e1, if_neg (show ¬ i32 k < 0 from i_nlt (b := 0) (by omega) (by omega)), e_gI ln_36 (by omega) (by omega), f.2.1 36 (by omega) (by omega) (by omega), h36 k (by omega), e, e_bs, Int32.add_neg_eq_sub]
      · rw [List.drop_eq_getElem_cons (by omega)]
        exact w2
theorem stkA_get {r : Nat} {S : List Nat} : stkA σ r S → ∀ p (h : p < S.length), σ.1 r p = i32 (S[S.length - 1 - p]'(by omega)) := by
  induction S with
  | nil => intro _ p h; simp at h
  | cons x S ih =>
    intro hs p h
    simp only [List.length_cons] at h
    by_cases h1 : p = S.length
    · subst h1
      rw [hs.1]
      congr 1
      simp only [List.length_cons]
      have e : S.length + 1 - 1 - S.length = 0 := by omega
      simp only [e, List.getElem_cons_zero]
    · rw [ih hs.2 p (by omega)]
      congr 1
      simp only [List.length_cons]
      have e : S.length + 1 - 1 - p = (S.length - 1 - p) + 1 := by omega
      simp only [e, List.getElem_cons_succ]
/-- the whole run -/
theorem c_loop {a : Nat} (hG : GOK G) (ra : RA a) (h : CG σ a G) {L : Nat} (hL : L ≤ 1000) {w : List Nat} (hw : w.length ≤ 64) (hwg : ∀ x, x ∈ w → x < gn G) (hS : stk σ 3 37 []) (hW : stk σ 5 38 w) :
    ∃ r, loopO (fun (z11 : Mem × Int32 × Int32) => l_X2_run_42 a (i32 L) z11.1 z11.2.1 z11.2.2) (σ, 0, 0) = some r ∧ ((∃ τ S e, r = Sum.inl (τ, i32 e) ∧ col G L [] w 0 = some (S, e) ∧ e ≤ L ∧ FR σ τ ∧ stk τ 3 37 S ∧ S.length < 12076) ∨ (∃ τ, r = Sum.inr (-1, τ) ∧ col G L [] w 0 = none ∧ FR σ τ)) := by
  have hn := hG.2.1
  refine loop_inv (body := fun (z11 : Mem × Int32 × Int32) => l_X2_run_42 a (i32 L) z11.1 z11.2.1 z11.2.2) (fun n z => ∃ S W ex st τ, z = (τ, i32 ex, i32 st) ∧ n = 14 * (L - ex) + W.length ∧ ex ≤ L ∧ st + n ≤ 14 * L + 64 ∧ S.length + W.length ≤ 64 + 12 * ex ∧ (∀ x, x ∈ S → x < gn G) ∧ (∀ x, x ∈ W → x < gn G) ∧ col G L S W ex = col G L [] w 0 ∧ FR σ τ ∧ stk τ 3 37 S ∧ stk τ 5 38 W) _ ?_ (14 * L + w.length) (σ, 0, 0) ⟨[], w, 0, 0, σ, rfl, rfl, Nat.zero_le _, by omega, by simp only [List.length_nil]; omega, fun x hx => (by cases hx), hwg, rfl, FR.refl, hS, hW⟩
  rintro n z ⟨S, W, ex, st, τ, rfl, rfl, hex, hst, hlen, hSg, hWg, hc, f, s1, w1⟩
  have nst : ¬ (1000000 : Int32) ≤ i32 st := by
    rw [show (1000000 : Int32) = i32 1000000 from rfl]; exact i_nle (by omega) (by omega)
  cases W with
  | nil =>
    right
    refine ⟨Sum.inl (τ, i32 ex), ?_, Or.inl ⟨τ, S, ex, rfl, ?_, hex, f, s1, by simp only [List.length_nil] at hlen; omega⟩⟩
    · show l_X2_run_42 _ _ _ _ _ = _
      unfold l_X2_run_42
      rw [if_neg nst, e_gF, w1.1, if_pos (show i32 ([] : List Nat).length ≤ 0 by decide)]
    · rw [← hc, col_nil]
  | cons i W =>
    have hi := hWg i (List.mem_cons_self ..)
    have hWg' : ∀ x, x ∈ W → x < gn G := fun x hx => hWg x (List.mem_cons_of_mem _ hx)
    simp only [List.length_cons] at hlen hst
    have hW1 : τ.1 35 5 = i32 (W.length + 1) := w1.1
    have nW : ¬ i32 (W.length + 1) ≤ 0 := i_nle (b := 0) (by omega) (by omega)
    have eW : i32 (W.length + 1) - 1 = i32 W.length := by rw [i32_1, i32_sub (by omega)]; rfl
    have tW : τ.1 38 W.length = i32 i := w1.2.1
    have hmove : col G L S (i :: W) ex = col G L (i :: S) W ex → ∃ s' n', n' < 14 * (L - ex) + (i :: W).length ∧ (j_X2_run_92 τ (i32 ex) (i32 i)).bind (Sum.elim (fun (z17 : (Mem × Int32)) => j_X2_run_129 (i32 st) z17.1 z17.2) some) = some (Sum.inl s') ∧ ∃ S W ex st τ, s' = (τ, i32 ex, i32 st) ∧ n' = 14 * (L - ex) + W.length ∧ ex ≤ L ∧ st + n' ≤ 14 * L + 64 ∧ S.length + W.length ≤ 64 + 12 * ex ∧ (∀ x, x ∈ S → x < gn G) ∧ (∀ x, x ∈ W → x < gn G) ∧ col G L S W ex = col G L [] w 0 ∧ FR σ τ ∧ stk τ 3 37 S ∧ stk τ 5 38 W := by
      intro hcm
      obtain ⟨υ, e, f2, s2, w2⟩ := c_moveOn (σ := τ) s1 w1 (by omega) (by omega)
      refine ⟨(υ, i32 ex, i32 (st + 1)), 14 * (L - ex) + W.length, by simp only [List.length_cons]; omega, ?_, i :: S, W, ex, st + 1, υ, rfl, rfl, hex, by omega, by simp only [List.length_cons]; omega, fun x hx => ?_, hWg', by rw [← hc, hcm], f.trans f2, s2, w2⟩
      · unfold j_X2_run_92
        rw [e, e_bs, e_bs]
        show j_X2_run_129 _ _ _ = _
        unfold j_X2_run_129
        rw [i32_1, i32_add]
      · rcases List.mem_cons.mp hx with h1 | h1
        · rw [h1]; exact hi
        · exact hSg x h1
    have hstart : ∀ {y}, ((if τ.1 35 3 = 0 then (some (Sum.inl ())) else (gF τ 35 3 (fun (v19 : Int32) => gI τ 37 (v19 - 1) (fun (v20 : Int32) => if i32 i < v20 then (if i32 ex = i32 L then (some (Sum.inr (Sum.inr (Sum.inr (Sum.inr ((-1), τ)))))) else (gF τ 35 3 (fun (v21 : Int32) => gI τ 37 (v21 - 1) (fun (v22 : Int32) => (f_X2_exchange τ a v22 (i32 i)).bind (fun (σ23 : Mem) => some (Sum.inr (Sum.inl (σ23, i32 ex + 1)))))))) else (some (Sum.inl ()))))) : Option (Unit ⊕ ((Mem × Int32) ⊕ ((Mem × Int32 × Int32) ⊕ ((Mem × Int32) ⊕ (Int32 × Mem)))))).bind (Sum.elim (fun (z17 : Unit) => j_X2_run_92 τ (i32 ex) (i32 i)) some) : Option ((Mem × Int32) ⊕ ((Mem × Int32 × Int32) ⊕ ((Mem × Int32) ⊕ (Int32 × Mem))))).bind (Sum.elim (fun (z17 : (Mem × Int32)) => j_X2_run_129 (i32 st) z17.1 z17.2) some) = y → l_X2_run_42 a (i32 L) τ (i32 ex) (i32 st) = y := by
      intro y hy
      unfold l_X2_run_42
      rw [if_neg nst, e_gF, hW1, if_neg nW, e_gF, hW1, eW, e_gI ln_38 (by omega) (by omega), tW, e_gF]
      exact hy
    cases S with
    | nil =>
      left
      obtain ⟨s', n', h1, h2, h3⟩ := hmove (by rw [col_first hG hex])
      refine ⟨s', n', h1, ?_, h3⟩
      show l_X2_run_42 _ _ _ _ _ = _
      refine hstart ?_
      rw [if_pos (show τ.1 35 3 = 0 from s1.1), e_bs]
      exact h2
    | cons j S =>
      have hS1 : τ.1 35 3 = i32 (S.length + 1) := s1.1
      simp only [List.length_cons] at hlen
      have nS : ¬ i32 (S.length + 1) = 0 := i_ne0 (by omega) (by omega)
      have eS : i32 (S.length + 1) - 1 = i32 S.length := by rw [i32_1, i32_sub (by omega)]; rfl
      have tS : τ.1 37 S.length = i32 j := s1.2.1
      have hj := hSg j (List.mem_cons_self ..)
      by_cases hij : i < j
      · by_cases hx : ex = L
        · right
          subst hx
          refine ⟨Sum.inr (-1, τ), ?_, Or.inr ⟨τ, rfl, by rw [← hc, col_limit hij], f⟩⟩
          show l_X2_run_42 _ _ _ _ _ = _
          refine hstart ?_
          rw [hS1, if_neg nS, e_gF, hS1, eS, e_gI ln_37 (by omega) (by omega), tS, if_pos (i_lt hij (by omega)), if_pos rfl]
          rfl
        · left
          obtain ⟨υ, e, f2, s2, w2⟩ := c_exchange (σ := τ) hG ra (h.keep f ra.2) hij hj s1 w1 (by omega) (by omega)
          have l12 := tw_len12 hG hij
          have ll : (i :: j :: (tw G j i ++ W)).length = 2 + (tw G j i).length + W.length := by
            simp only [List.length_cons, List.length_append]; omega
          refine ⟨(υ, i32 (ex + 1), i32 (st + 1)), 14 * (L - (ex + 1)) + (i :: j :: (tw G j i ++ W)).length, by simp only [List.length_cons] at ll ⊢; omega, ?_, S, i :: j :: (tw G j i ++ W), ex + 1, st + 1, υ, rfl, rfl, by omega, by omega, by omega, fun x hx => hSg x (List.mem_cons_of_mem _ hx), fun x hx => ?_, by rw [← hc, col_exch hG (by omega) hij], f.trans f2, s2, w2⟩
          · show l_X2_run_42 _ _ _ _ _ = _
            refine hstart ?_
            rw [hS1, if_neg nS, e_gF, hS1, eS, e_gI ln_37 (by omega) (by omega), tS, if_pos (i_lt hij (by omega)), if_neg (i_ne hx (by omega) (by omega)), e_gF, hS1, eS, e_gI ln_37 (by omega) (by omega), tS, e, e_bs, e_bs]
            show (some (Sum.inl (υ, i32 ex + 1)) : Option ((Mem × Int32) ⊕ ((Mem × Int32 × Int32) ⊕ ((Mem × Int32) ⊕ (Int32 × Mem))))).bind _ = _
            rw [e_bs]
            show j_X2_run_129 _ _ _ = _
            unfold j_X2_run_129
            rw [i32_1, i32_add, i32_add]
          · rcases List.mem_cons.mp hx with h5 | h5
            · rw [h5]; exact hi
            · rcases List.mem_cons.mp h5 with h6 | h6
              · rw [h6]; exact hj
              · rcases List.mem_append.mp h6 with h7 | h7
                · exact (tw_mem hj h7).2.1
                · exact hWg' x h7
      · left
        obtain ⟨s', n', h1, h2, h3⟩ := hmove (by rw [col_move hG hex (by omega)])
        refine ⟨s', n', h1, ?_, h3⟩
        show l_X2_run_42 _ _ _ _ _ = _
        refine hstart ?_
        rw [hS1, if_neg nS, e_gF, hS1, eS, e_gI ln_37 (by omega) (by omega), tS, if_neg (i_nlt (by omega) (by omega)), e_bs]
        exact h2
end CD

