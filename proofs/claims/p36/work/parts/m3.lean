/-! p36: registers up to 2^64, products of them; the law's group and sets -/
section RPR
variable {σ : Mem} {S : AS} {c : Nat}
/-- register r is A, as far as longs tell -/
def rep (S : AS) (r : Nat) (A : Nat → Int) : Prop := (∀ k, k < 6 → oi (aR S r k) = oi (A k)) ∧ Z6 (aG S) A ∧ SB (aG S) 4000 A
theorem rep.self (ok : OKS S) (r : Nat) : rep S r (aR S r) := ⟨fun _ _ => rfl, reg_z6 ok r, fun j hj hw => by have := reg_sb ok r j hj hw; omega⟩
theorem rep.new {r : Nat} {A : Nat → Int} (zA : Z6 (aG S) A) (sA : SB (aG S) 4000 A) : rep (nS S r A) r A := by
  refine ⟨fun k hk => ?_, zA, sA⟩
  show oi (upR (aG S) (aR S) r A r k) = _
  unfold upR
  rw [if_pos rfl]
  by_cases h : k < gn (aG S)
  · rw [if_pos h]; exact Int64.ofInt_toInt _
  · rw [if_neg h, zA k (Nat.le_of_not_lt h) hk]
theorem rep.keep {r q : Nat} {A B : Nat → Int} (h : rep S q B) (hne : q ≠ r) : rep (nS S r A) q B := by
  refine ⟨fun k hk => ?_, h.2⟩
  show oi (upR (aG S) (aR S) r A q k) = _
  unfold upR
  rw [if_neg hne]
  exact h.1 k hk
theorem rep.over {q : Nat} {B : Nat → Int} (h : rep S q B) : rep (ovS S) q B := h
theorem rep.row {r : Nat} {A : Nat → Int} (ok : OKS S) (h : rep S r A) (hs : ∀ k, k < gn (aG S) → -2 ^ 62 ≤ A k ∧ A k ≤ 2 ^ 62) : ∀ k, k < gn (aG S) → aR S r k = A k := fun k hk => by
  have hn : gn (aG S) ≤ 6 := ok.1.1.2.1
  have h1 := congrArg Int64.toInt (h.1 k (by omega))
  have h2 : -999 ≤ aR S r k ∧ aR S r k ≤ 999 := ok.1.2.1 r k
  have h3 := hs k hk
  have e : ∀ z : Int, -2 ^ 62 ≤ z → z ≤ 2 ^ 62 → (oi z).toInt = z := fun z a b => by
    show (Int64.ofInt z).toInt = z
    rw [Int64.toInt_ofInt, show Int64.size = 18446744073709551616 from rfl]
    exact Int.bmod_eq_of_le (by omega) (by omega)
  rw [e _ (by omega) (by omega), e _ h3.1 h3.2] at h1
  exact h1
theorem s_multR (h : ICls c S σ) (ok : OKS S) (hc : Cons (aG S)) {r p q : Nat} {A B : Nat → Int} (hr : r < 10) (hp : p < 10) (hq : q < 10) (hA : rep S p A) (hB : rep S q B) : ∃ τ, f_X10_multiply σ (i32 r) (i32 p) (i32 q) = some (isEl (aG S) (mul (aG S) A B), τ) ∧ ICls (c + 1) (if isEl (aG S) (mul (aG S) A B) = true then nS S r (mul (aG S) A B) else ovS S) τ := by
  have hG : GOK (aG S) := ok.1.1
  obtain ⟨b, hb, hBc⟩ := c_cons h
  have hbt : b = true := hBc.mpr hc
  subst hbt
  have cA : H6 σ (6 + p) A := fun k hk => (c_reg h hp k hk).trans (hA.1 k hk)
  have cB : H6 σ (6 + q) B := fun k hk => (c_reg h hq k hk).trans (hB.1 k hk)
  obtain ⟨σ1, e1, o1, r1⟩ := c_product hG (c_poly h ok hc) (out := 176) (a := 6 + p) (b := 6 + q) ln_176 (ln_reg hp) (ln_reg hq) cA cB (by omega) ns176 (by omega) (by omega) (hA.2.2.w hG (by omega)) (hB.2.2.w hG (by omega)) hA.2.1
  have s1 := o1.sc (fun x hx => by omega)
  obtain ⟨σ2, e2, i2, hi2⟩ := c_keepCounted (h.sc s1) ok r1 (hA.2.1.muls hG) hr
  unfold f_X10_multiply
  rw [c_areUsable hb, e_bs, isReg_of hr, isReg_of hp, Bool.and_self, Bool.and_self, if_pos rfl, c_isReg, e_bs, isReg_of hq, if_pos rfl, e_gR ln_5 hp (by omega), rf_5 hp, e_gR ln_5 hq (by omega), rf_5 hq, e1, e_bs, e2, e_bq]
  exact ⟨σ2, rfl, i2⟩
theorem s_makesR (h : ICls c S σ) (ok : OKS S) (hc : Cons (aG S)) {r p q : Nat} {A B : Nat → Int} (hr : r < 10) (hp : p < 10) (hq : q < 10) (hA : rep S p A) (hB : rep S q B) : (isEl (aG S) (mul (aG S) A B) = true ∧ ∃ τ, f_L_makes σ (i32 r) (i32 p) (i32 q) = some (1, τ) ∧ ICls (c + 1) (nS S r (mul (aG S) A B)) τ ∧ OKS (nS S r (mul (aG S) A B))) ∨ (isEl (aG S) (mul (aG S) A B) = false ∧ ∃ τ, f_L_makes σ (i32 r) (i32 p) (i32 q) = some (0, τ) ∧ ICls (c + 1) (ovS S) τ ∧ OKS (ovS S)) := by
  obtain ⟨τ, e, i⟩ := s_multR h ok hc hr hp hq hA hB
  unfold f_L_makes
  rw [s_look8 h, e_bs, e, e_bq]
  cases hel : isEl (aG S) (mul (aG S) A B) with
  | true =>
    left
    rw [hel, if_pos rfl] at i
    exact ⟨rfl, τ, by rw [if_pos rfl], i, nS_ok ok hel⟩
  | false =>
    right
    rw [hel, if_neg (by decide)] at i
    have i8 : f_X10_look τ 8 = some ((aT S).1 + 1) := s_look8 i
    exact ⟨rfl, τ, by rw [if_neg (by decide), i8, e_bs, if_pos rfl], i, ovS_ok ok⟩
theorem s_invertsR (h : ICls c S σ) (ok : OKS S) (hc : Cons (aG S)) {r p : Nat} (hr : r < 10) (hp : p < 10) : (isEl (aG S) (inv (aG S) (aR S p)) = true ∧ ∃ τ, f_L_inverts σ (i32 r) (i32 p) = some (1, τ) ∧ ICls (c + 1) (nS S r (inv (aG S) (aR S p))) τ ∧ OKS (nS S r (inv (aG S) (aR S p)))) ∨ (isEl (aG S) (inv (aG S) (aR S p)) = false ∧ ∃ τ, f_L_inverts σ (i32 r) (i32 p) = some (0, τ) ∧ ICls (c + 1) (ovS S) τ ∧ OKS (ovS S)) := by
  obtain ⟨τ, e, i⟩ := s_inv h ok hc hr hp
  unfold f_L_inverts
  rw [s_look8 h, e_bs, e, e_bq]
  cases hel : isEl (aG S) (inv (aG S) (aR S p)) with
  | true =>
    left
    rw [hel, if_pos rfl] at i
    exact ⟨rfl, τ, by rw [if_pos rfl], i, nS_ok ok hel⟩
  | false =>
    right
    rw [hel, if_neg (by decide)] at i
    have i8 : f_X10_look τ 8 = some ((aT S).1 + 1) := s_look8 i
    exact ⟨rfl, τ, by rw [if_neg (by decide), i8, e_bs, if_pos rfl], i, ovS_ok ok⟩
end RPR
section LGR
variable {σ : Mem} {S : AS} {c : Nat} {sl : Nat} {sx : Nat → Int32}
/-- weights and their greatest, after i generators -/
def wst : Nat → List (Nat × Nat)
  | 0 => [(0, 1)]
  | i + 1 => (wst i).flatMap (fun q => (q.1 + q.2 * 4 ^ i, q.2) :: (if 1 < i ∧ q.2 < 3 then [(q.1 + (q.2 + 1) * 4 ^ i, q.2 + 1)] else []))
theorem wst_or : (List.range 6).all (fun i => (wst i).all (fun q => decide (q.2 ≤ 3) && (List.range 4).all (fun t => decide (i32 q.1 ||| (i32 t <<< ((2 * i32 i) &&& 31)) = i32 (q.1 + t * 4 ^ i))))) = true := by decide +kernel
theorem wst_okb : (List.range 7).all (fun n => decide (n < 2) || (wst n).all (fun q => decide (q.1 < 4 ^ n) && (List.range n).all (fun i => decide (ah q.1 i ≤ dgt q.1 i)))) = true := by decide +kernel
theorem wst_ok {n : Nat} (h2 : 2 ≤ n) (h6 : n ≤ 6) {q : Nat × Nat} (hq : q ∈ wst n) : OKW n q.1 := by
  have h := List.all_eq_true.mp wst_okb n (List.mem_range.mpr (by omega))
  rw [decide_eq_false (by omega), Bool.false_or] at h
  have h1 := List.all_eq_true.mp h q hq
  rw [Bool.and_eq_true, decide_eq_true_eq] at h1
  exact ⟨by omega, h6, h1.1, fun i hi => of_decide_eq_true (List.all_eq_true.mp h1.2 i (List.mem_range.mpr hi))⟩
theorem wst_step {i : Nat} (hi : i < 6) {q : Nat × Nat} (hq : q ∈ wst i) : q.2 ≤ 3 ∧ ∀ t, t ≤ 3 → i32 q.1 ||| (i32 t <<< ((2 * i32 i) &&& 31)) = i32 (q.1 + t * 4 ^ i) := by
  have h := List.all_eq_true.mp (List.all_eq_true.mp wst_or i (List.mem_range.mpr hi)) q hq
  rw [Bool.and_eq_true, decide_eq_true_eq] at h
  exact ⟨h.1, fun t ht => of_decide_eq_true (List.all_eq_true.mp h.2 t (List.mem_range.mpr (by omega)))⟩
theorem l_weights (hl : sl ≤ 260) {n : Nat} (h2 : 2 ≤ n) (h6 : n ≤ 6) : ∃ w, OKW n w ∧ loopO (fun (z23 : (Int32 × Int32 × Int32)) => l_L_group_49 σ sl sx (i32 n) z23.1 z23.2.1 z23.2.2) (0, 1, 0) = some (i32 w) := by
  obtain ⟨x, e, w, hw, rfl⟩ := loop_inv (body := fun (z23 : (Int32 × Int32 × Int32)) => l_L_group_49 σ sl sx (i32 n) z23.1 z23.2.1 z23.2.2) (fun m z => ∃ i q, i ≤ n ∧ m = n - i ∧ q ∈ wst i ∧ z = (i32 q.1, i32 q.2, i32 i)) (fun x => ∃ w, OKW n w ∧ x = i32 w) (by
    rintro m z ⟨i, q, hi, rfl, hq, rfl⟩
    by_cases hin : i = n
    · right
      subst hin
      refine ⟨i32 q.1, ?_, q.1, wst_ok h2 h6 hq, rfl⟩
      show l_L_group_49 σ sl sx (i32 i) (i32 q.1) (i32 q.2) (i32 i) = _
      unfold l_L_group_49
      rw [if_pos (i_le (Nat.le_refl _) (by omega))]
    · left
      obtain ⟨q3, hor⟩ := wst_step (show i < 6 by omega) hq
      have hn0 : ¬ i32 n ≤ i32 i := i_nle (by omega) (by omega)
      have same : ∀ {y : Option Int32}, y = some (i32 q.2) → l_L_group_49 σ sl sx (i32 n) (i32 q.1) (i32 q.2) (i32 i) = y.bind (fun z24 => j_L_group_85 (i32 q.1) (i32 i) z24) → ∃ s' n', n' < n - i ∧ l_L_group_49 σ sl sx (i32 n) (i32 q.1) (i32 q.2) (i32 i) = some (Sum.inl s') ∧ ∃ i q, i ≤ n ∧ n' = n - i ∧ q ∈ wst i ∧ s' = (i32 q.1, i32 q.2, i32 i) := by
        intro y hy hb
        refine ⟨(i32 (q.1 + q.2 * 4 ^ i), i32 q.2, i32 (i + 1)), n - (i + 1), by omega, ?_, i + 1, (q.1 + q.2 * 4 ^ i, q.2), by omega, rfl, ?_, rfl⟩
        · rw [hb, hy, e_bs]
          unfold j_L_group_85
          rw [e_bd, hor q.2 q3, i32_1, i32_add]
        · exact List.mem_flatMap.mpr ⟨q, hq, List.mem_cons_self⟩
      by_cases hi1 : i ≤ 1
      · refine same (y := some (i32 q.2)) rfl ?_
        unfold l_L_group_49
        rw [if_neg hn0, if_pos (show i32 i ≤ 1 from i_le (b := 1) hi1 (by omega))]
      · obtain ⟨v, ev⟩ := s_cell (σ := σ) (sx := sx) hl (k := 2) (by omega)
        have ev' : f_L_cell σ sl sx 2 = some v := ev
        have hi1' : ¬ i32 i ≤ 1 := i_nle (a := i) (b := 1) (by omega) (by omega)
        by_cases hz : (v >>> ((2 * i32 i) &&& 31)) &&& 3 = 0
        · by_cases h3 : 3 ≤ q.2
          · refine same (y := some (i32 q.2)) rfl ?_
            unfold l_L_group_49
            rw [if_neg hn0, if_neg hi1', ev', e_bs, if_pos hz, if_pos (show 3 ≤ i32 q.2 from i_le (a := 3) h3 (by omega))]
          · refine ⟨(i32 (q.1 + (q.2 + 1) * 4 ^ i), i32 (q.2 + 1), i32 (i + 1)), n - (i + 1), by omega, ?_, i + 1, (q.1 + (q.2 + 1) * 4 ^ i, q.2 + 1), by omega, rfl, ?_, rfl⟩
            · show l_L_group_49 σ sl sx (i32 n) (i32 q.1) (i32 q.2) (i32 i) = _
              unfold l_L_group_49
              rw [if_neg hn0, if_neg hi1', ev', e_bs, if_pos hz, if_neg (show ¬ 3 ≤ i32 q.2 from i_nle (a := 3) (by omega) (by omega)), e_bs]
              unfold j_L_group_85
              rw [i32_1, i32_add, e_bd, hor (q.2 + 1) (by omega), i32_add]
            · refine List.mem_flatMap.mpr ⟨q, hq, List.mem_cons_of_mem _ ?_⟩
              rw [if_pos ⟨by omega, by omega⟩]
              exact List.mem_singleton.mpr rfl
        · refine same (y := some (i32 q.2)) rfl ?_
          unfold l_L_group_49
          rw [if_neg hn0, if_neg hi1', ev', e_bs, if_neg hz]) n (0, 1, 0) ⟨0, (0, 1), by omega, rfl, List.mem_singleton.mpr rfl, rfl⟩
  exact ⟨w, hw, e⟩
theorem l_tails (hl : sl ≤ 260) {n : Nat} (h2 : 2 ≤ n) (h6 : n ≤ 6) (h : ICls c S σ) (ok : OKS S) (hc : c ≤ 400) (hn : gn (aG S) = n) : ∃ S' c' τ, loopO (fun (z9 : (Mem × Int32)) => l_L_group_114 sl sx (i32 n) z9.1 z9.2) (σ, 0) = some (i32 n, τ) ∧ OKS S' ∧ ICls c' S' τ ∧ gn (aG S') = n ∧ aP S' = aP S := by
  obtain ⟨x, e, S', c', τ, rfl, a1, a2, a3, a4⟩ := loop_inv (body := fun (z9 : (Mem × Int32)) => l_L_group_114 sl sx (i32 n) z9.1 z9.2) (fun m z => ∃ i S' c' τ, i ≤ 5 ∧ m = 5 - i ∧ z = (τ, i32 i) ∧ c' ≤ c + 2 * i ∧ OKS S' ∧ ICls c' S' τ ∧ gn (aG S') = n ∧ aP S' = aP S) (fun x => ∃ S' c' τ, x = (i32 n, τ) ∧ OKS S' ∧ ICls c' S' τ ∧ gn (aG S') = n ∧ aP S' = aP S) (by
    rintro m z ⟨i, S', c', τ, hi, rfl, rfl, hc', ok', h', hn', hp'⟩
    by_cases hi5 : i = 5
    · right
      subst hi5
      refine ⟨(i32 n, τ), ?_, S', c', τ, rfl, ok', h', hn', hp'⟩
      show l_L_group_114 sl sx (i32 n) τ (i32 5) = _
      unfold l_L_group_114
      rw [if_pos (by decide)]
    · left
      obtain ⟨v, ev⟩ := s_cell (σ := τ) (sx := sx) hl (k := 3 + i) (by omega)
      have nm : i32 n - 1 + 1 = i32 n := by rw [i32_1, i32_sub (by omega), i32_add, show n - 1 + 1 = n by omega]
      obtain ⟨t1, ht1, e1⟩ := s_between (σ := τ) (x := v) (lo := 1) (hi := i32 n) nm (by omega) (by omega)
      obtain ⟨t2, ht2, e2⟩ := s_between (σ := τ) (x := v >>> (4 &&& 31)) (lo := 1) (hi := i32 n) nm (by omega) (by omega)
      obtain ⟨t3, ht3, e3⟩ := s_between (σ := τ) (x := v >>> (8 &&& 31)) (lo := 1) (hi := i32 n) nm (by omega) (by omega)
      obtain ⟨t4, ht4, e4⟩ := s_between (σ := τ) (x := v >>> (12 &&& 31)) (lo := 0) (hi := 3) (m := 4) (by decide) (by omega) (by omega)
      have fin : ∀ υ S2 c2, c2 ≤ c + 2 * (i + 1) → OKS S2 → ICls c2 S2 υ → gn (aG S2) = n → aP S2 = aP S → l_L_group_114 sl sx (i32 n) τ (i32 i) = some (Sum.inl (υ, i32 (i + 1))) → ∃ s' n', n' < 5 - i ∧ l_L_group_114 sl sx (i32 n) τ (i32 i) = some (Sum.inl s') ∧ ∃ i S' c' τ, i ≤ 5 ∧ n' = 5 - i ∧ s' = (τ, i32 i) ∧ c' ≤ c + 2 * i ∧ OKS S' ∧ ICls c' S' τ ∧ gn (aG S') = n ∧ aP S' = aP S := fun υ S2 c2 b1 b2 b3 b4 b5 b6 => ⟨(υ, i32 (i + 1)), 5 - (i + 1), by omega, b6, i + 1, S2, c2, υ, by omega, rfl, rfl, b1, b2, b3, b4, b5⟩
      have hstart : ∀ {y}, (bq (f_X10_tail τ (1 + i32 t2) (1 + i32 t1) (1 + i32 t3) (0 + i32 t4)) (fun (b15 : Bool) (σ16 : Mem) => (if b15 then (f_X10_consistent σ16).bind (fun (v18 : Int32) => if v18 = 0 then (bq (f_X10_tail σ16 (1 + i32 t2) (1 + i32 t1) (1 + i32 t3) 0) (fun (b19 : Bool) (σ20 : Mem) => if b19 then some (Sum.inl σ20) else some (Sum.inr (Sum.inr ((-1), σ20))))) else (some (Sum.inl σ16))) else some (Sum.inl σ16) : Option (Mem ⊕ ((Mem × Int32) ⊕ (Int32 × Mem)))).bind (Sum.elim (fun (z17 : Mem) => j_L_group_208 (i32 i) z17) some))) = y → l_L_group_114 sl sx (i32 n) τ (i32 i) = y := by
        intro y hy
        unfold l_L_group_114
        rw [if_neg (show ¬ 5 ≤ i32 i from i_nle (a := 5) (by omega) (by omega)), show (3 : Int32) + i32 i = i32 (3 + i) from by rw [i32_3, i32_add], ev, e_bs, e1, e_bs, e2, e_bs, e3, e_bs, e4, e_bs]
        exact hy
      have j208 : ∀ υ, j_L_group_208 (i32 i) υ = some (Sum.inl (υ, i32 (i + 1))) := fun υ => by
        unfold j_L_group_208
        rw [i32_1, i32_add]
      rcases s_tail h' ok' (by omega) (j := 1 + i32 t2) (i := 1 + i32 t1) (k := 1 + i32 t3) (v := 0 + i32 t4) with ⟨hT, υ, G', eT, hG', hgn, hI⟩ | ⟨eT, _⟩
      · have ok2 := newS_ok ok' hG'
        obtain ⟨b, eC, hbC, _⟩ := s_cons hI
        cases b with
        | true =>
          refine fin υ (newS G' S') (c' + 1) (by omega) ok2 hI (hgn.trans hn') hp' (hstart ?_)
          rw [eT, e_bq, if_pos rfl, eC, e_bs, if_pos rfl, if_neg (by decide), e_bs]
          exact j208 υ
        | false =>
          have hT2 : isTl (gn (aG (newS G' S'))) (1 + i32 t2) (1 + i32 t1) (1 + i32 t3) = true := by
            show isTl (gn G') _ _ _ = true
            rw [hgn]; exact hT
          rcases s_tail hI ok2 (by omega) (j := 1 + i32 t2) (i := 1 + i32 t1) (k := 1 + i32 t3) (v := 0) with ⟨_, υ2, G2, eT2, hG2, hgn2, hI2⟩ | ⟨_, hne⟩
          · refine fin υ2 (newS G2 (newS G' S')) (c' + 1 + 1) (by omega) (newS_ok ok2 hG2) hI2 (hgn2.trans (hgn.trans hn')) hp' (hstart ?_)
            rw [eT, e_bq, if_pos rfl, eC, e_bs, if_pos (by decide), eT2, e_bq, if_pos rfl, e_bs]
            exact j208 υ2
          · exact absurd rfl (hne hT2)
      · refine fin τ S' c' (by omega) ok' h' hn' hp' (hstart ?_)
        rw [eT, e_bq, if_neg (by decide), e_bs]
        exact j208 τ) 5 (σ, 0) ⟨0, S, c, σ, by omega, rfl, rfl, by omega, ok, h, hn, rfl⟩
  exact ⟨S', c', τ, e, a1, a2, a3, a4⟩
theorem kn_2 {κ : Nat} (h : κ < 4) : 2 ≤ gn (kf κ 8) ∧ gn (kf κ 8) ≤ 6 := by
  have key : (List.range 4).all (fun κ => decide (2 ≤ gn (kf κ 8) ∧ gn (kf κ 8) ≤ 6)) = true := by decide +kernel
  exact of_decide_eq_true (List.all_eq_true.mp key κ (List.mem_range.mpr h))
theorem s_grp (hl : sl ≤ 260) (h : ICls c S σ) (ok : OKS S) (hc : c ≤ 300) : ∃ S' c' τ, f_L_group σ sl sx = some (i32 (gn (aG S')), τ) ∧ OKS S' ∧ ICls c' S' τ ∧ 2 ≤ gn (aG S') ∧ gn (aG S') ≤ 6 ∧ aP S' = aP S := by
  obtain ⟨v0, t0, e0, ht0, b0⟩ := s_draw (σ := σ) (sx := sx) hl (k := 0) (by omega) (lo := 0) (hi := 5) (m := 6) (by decide) (by omega) (by omega)
  have e0' : f_L_cell σ sl sx 0 = some v0 := e0
  rw [Int32.zero_add] at b0
  unfold f_L_group
  rw [e0', e_bs, b0, e_bs]
  by_cases h4 : 4 ≤ t0
  · obtain ⟨v1, t1, e1, ht1, b1⟩ := s_draw (σ := σ) (sx := sx) hl (k := 1) (by omega) (lo := 2) (hi := 6) (m := 5) (by decide) (by omega) (by omega)
    have e1' : f_L_cell σ sl sx 1 = some v1 := e1
    obtain ⟨w, hw, ew⟩ := l_weights (σ := σ) (sx := sx) hl (n := 2 + t1) (by omega) (by omega)
    obtain ⟨τ1, eg, ig⟩ := s_group h ok (by omega) hw
    obtain ⟨S', c', τ, et, k1, k2, k3, k4⟩ := l_tails (sx := sx) hl (n := 2 + t1) (by omega) (by omega) ig (newS_ok ok (GW_ok hw)) (by omega) rfl
    rw [if_pos (show 4 ≤ i32 t0 from i_le (a := 4) h4 (by omega)), e1', e_bs, b1, show (2 : Int32) + i32 t1 = i32 (2 + t1) from by rw [i32_2, i32_add], e_bs, ew, e_bs]
    unfold j_L_group_103
    rw [eg, e_bq, et]
    exact ⟨S', c', τ, by rw [k3], k1, k2, by omega, by omega, k4⟩
  · obtain ⟨τ, ek, ik⟩ := s_kind h ok (by omega) (κ := t0) (by omega)
    have hk := kn_2 (show t0 < 4 by omega)
    rw [if_neg (show ¬ 4 ≤ i32 t0 from i_nle (a := 4) (by omega) (by omega)), ek, e_bq, s_look0 ik, e_bs]
    exact ⟨newS (kf t0 8) S, c + 1, τ, rfl, newS_ok ok (kf_ok (by omega) 8 (by omega)), ik, hk.1, hk.2, rfl⟩
theorem s_sets (hl : sl ≤ 260) (h : ICls c S σ) (ok : OKS S) (hc : Cons (aG S)) {f r : Nat} (hf : f ≤ 1000) (hr : r < 10) : ∃ S' c' τ, f_L_sets σ sl sx (i32 f) (i32 r) (i32 (gn (aG S))) 3 = some τ ∧ OKS S' ∧ ICls c' S' τ ∧ aG S' = aG S ∧ aP S' = aP S := by
  have hn : gn (aG S) ≤ 6 := ok.1.1.2.1
  obtain ⟨v0, t0, e0, ht0, b0⟩ := s_draw (σ := σ) (sx := sx) hl (k := 0) (by omega) (lo := 0) (hi := 5) (m := 6) (by decide) (by omega) (by omega)
  have e0' : f_L_cell σ sl sx 0 = some v0 := e0
  rw [Int32.zero_add] at b0
  have main : ∀ m : Nat, (m = 2 ∨ m = 3) → ∃ S' c' τ, j_L_sets_20 σ sl sx (i32 f) (i32 r) (i32 (gn (aG S))) (i32 m) = some τ ∧ OKS S' ∧ ICls c' S' τ ∧ aG S' = aG S ∧ aP S' = aP S := by
    intro m hm
    unfold j_L_sets_20
    obtain ⟨x, e, S', c', a1, a2, a3, a4⟩ := loop_inv (body := fun (z5 : (Mem × Int32)) => l_L_sets_25 sl sx (i32 f) (i32 r) (i32 (gn (aG S))) (i32 m) z5.1 z5.2) (fun d z => ∃ i S' c' τ, 1 ≤ i ∧ i ≤ gn (aG S) + 1 ∧ d = gn (aG S) + 1 - i ∧ z = (τ, i32 i) ∧ OKS S' ∧ ICls c' S' τ ∧ aG S' = aG S ∧ aP S' = aP S) (fun τ => ∃ S' c', OKS S' ∧ ICls c' S' τ ∧ aG S' = aG S ∧ aP S' = aP S) (by
      rintro d z ⟨i, S', c', τ, h1, h2, rfl, rfl, ok', h', hg', hp'⟩
      by_cases hin : i = gn (aG S) + 1
      · right
        subst hin
        refine ⟨τ, ?_, S', c', ok', h', hg', hp'⟩
        show l_L_sets_25 sl sx (i32 f) (i32 r) (i32 (gn (aG S))) (i32 m) τ (i32 (gn (aG S) + 1)) = _
        unfold l_L_sets_25
        rw [if_pos (i_lt (by omega) (by omega))]
      · left
        obtain ⟨v, ev⟩ := s_cell (σ := τ) (sx := sx) hl (k := f + i) (by omega)
        have hb : ∃ t : Int32, (-999 ≤ t.toInt ∧ t.toInt ≤ 999) ∧ f_L_between τ v (-(i32 m)) (i32 m) = some t := by
          rcases hm with rfl | rfl
          · obtain ⟨t, ht, e⟩ := s_between (σ := τ) (x := v) (lo := -(i32 2)) (hi := i32 2) (m := 5) (by decide) (by omega) (by omega)
            refine ⟨_, ?_, e⟩
            rcases (show t = 0 ∨ t = 1 ∨ t = 2 ∨ t = 3 ∨ t = 4 by omega) with rfl | rfl | rfl | rfl | rfl <;> decide
          · obtain ⟨t, ht, e⟩ := s_between (σ := τ) (x := v) (lo := -(i32 3)) (hi := i32 3) (m := 7) (by decide) (by omega) (by omega)
            refine ⟨_, ?_, e⟩
            rcases (show t = 0 ∨ t = 1 ∨ t = 2 ∨ t = 3 ∨ t = 4 ∨ t = 5 ∨ t = 6 by omega) with rfl | rfl | rfl | rfl | rfl | rfl | rfl <;> decide
        obtain ⟨t, htv, eb⟩ := hb
        have hA := uV_el (R := aR S' r) (k := i - 1) (ok'.1.2.1 r) htv
        obtain ⟨υ, es, is⟩ := s_set h' ok' (by rw [hg']; exact hc) (r := r) (k := i - 1) hr (by rw [hg']; omega) htv
        rw [show i - 1 + 1 = i by omega] at es
        refine ⟨(υ, i32 (i + 1)), gn (aG S) + 1 - (i + 1), by omega, ?_, i + 1, _, c' + 1, υ, by omega, by omega, rfl, rfl, nS_ok ok' (isEl_small hA), is, hg', hp'⟩
        show l_L_sets_25 sl sx (i32 f) (i32 r) (i32 (gn (aG S))) (i32 m) τ (i32 i) = _
        unfold l_L_sets_25
        rw [if_neg (i_nlt (by omega) (by omega)), i32_add, ev, e_bs, eb, e_bs, es, e_bq, i32_1, i32_add]) (gn (aG S)) (σ, 1) ⟨1, S, c, σ, by omega, by omega, by omega, rfl, ok, h, rfl, rfl⟩
    exact ⟨S', c', x, e, a1, a2, a3, a4⟩
  unfold f_L_sets
  rw [e0', e_bs, b0, e_bs]
  by_cases h4 : 4 ≤ t0
  · rw [if_pos (show 4 ≤ i32 t0 from i_le (a := 4) h4 (by omega)), e_bs]
    exact main 2 (Or.inl rfl)
  · rw [if_neg (show ¬ 4 ≤ i32 t0 from i_nle (a := 4) (by omega) (by omega)), e_bs]
    exact main 3 (Or.inr rfl)
end LGR
