/-! p36: the tape, collecting, told without the reference -/
section SPT
variable {σ : Mem} {S : AS} {c : Nat}
def tpS (S : AS) (w : List Nat) : AS := (aX S, aT S, aA S, aI S, w, aF S)
def tdS (S : AS) (W : List Nat) : AS := (aX S, ((aT S).1, gn (aG S), fun i => i32 (W.count i)), aA S, aI S, [], aF S)
theorem tpS_ok {w : List Nat} (ok : OKS S) (h1 : w.length ≤ 200) (h2 : ∀ x, x ∈ w → x < 256) : OKS (tpS S w) := tape_ok ok h1 h2
theorem tdS_ok {W : List Nat} (ok : OKS S) : OKS (tdS S W) := ⟨ok.1, ok.1.1.2.1, ok.2.2.1, ok.2.2.2.1, Nat.zero_le _, fun x hx => by cases hx⟩
theorem s_feed (h : ICls c S σ) (hle : (aP S).length ≤ 180) {x0 x1 x2 x3 x4 : Int32} : ∃ r τ, f_X10_feed σ x0 x1 x2 x3 x4 = some (r, τ) ∧ ICls (c + 1) (tpS S (aP S ++ bl x0 4 ++ bl x1 4 ++ bl x2 4 ++ bl x3 4 ++ bl x4 4)) τ := by
  have h5 : CTape σ (aP S) := h.2.2.2.2.1
  obtain ⟨σ1, e1, t1, g1⟩ := c_feedNumber (x := x0) h5 (by omega)
  have l1 : (aP S ++ bl x0 4).length = (aP S).length + 4 := by rw [List.length_append, bl_len]
  obtain ⟨σ2, e2, t2, g2⟩ := c_feedNumber (x := x1) t1 (by omega)
  have l2 : (aP S ++ bl x0 4 ++ bl x1 4).length = (aP S).length + 8 := by rw [List.length_append, bl_len, l1]
  obtain ⟨σ3, e3, t3, g3⟩ := c_feedNumber (x := x2) t2 (by omega)
  have l3 : (aP S ++ bl x0 4 ++ bl x1 4 ++ bl x2 4).length = (aP S).length + 12 := by rw [List.length_append, bl_len, l2]
  obtain ⟨σ4, e4, t4, g4⟩ := c_feedNumber (x := x3) t3 (by omega)
  have l4 : (aP S ++ bl x0 4 ++ bl x1 4 ++ bl x2 4 ++ bl x3 4).length = (aP S).length + 16 := by rw [List.length_append, bl_len, l3]
  obtain ⟨σ5, e5, t5, g5⟩ := c_feedNumber (x := x4) t4 (by omega)
  have G := g1.trans (g2.trans (g3.trans (g4.trans g5)))
  unfold f_X10_feed
  rw [e_gF, h5.1, show (180 : Int32) = i32 180 from rfl, if_pos (i_le hle (by omega)), e1, e_bs, e2, e_bs, e3, e_bs, e4, e_bs, e5, e_bs, e_gF]
  exact ⟨_, σ5, rfl, (h.tape G t5).up⟩
theorem s_end (h : ICls c S σ) (hl : (aP S).length ≤ 200) {n : Nat} (hn : n ≤ (aP S).length) : ∃ τ, f_X10_end σ (i32 n) = some (true, τ) ∧ ICls (c + 1) (tpS S ((aP S).take n)) τ := by
  have h5 : CTape σ (aP S) := h.2.2.2.2.1
  obtain ⟨t1, g1⟩ := h5.cut hn
  unfold f_X10_end
  rw [if_neg (show ¬ i32 n < 0 from i_nlt (b := 0) (by omega) (by omega)), e_gF, h5.1, if_pos (i_le hn (by omega)), e_pF]
  exact ⟨_, rfl, (h.tape g1 t1).up⟩
theorem s_collected (h : ICls c S σ) {k : Nat} (hk : k < (aT S).2.1) (hL : (aT S).2.1 ≤ 6) : f_X10_collected σ (i32 (k + 1)) = some ((aT S).2.2 k) := by
  have h2 := h.2.1
  unfold f_X10_collected
  rw [if_neg (show ¬ i32 (k + 1) < 1 from i_nlt (b := 1) (by omega) (by omega)), i32_1, e_gI ln_16 (by omega) (by omega), h2.2.1, if_neg (i_nlt (by omega) (by omega)), if_pos (show i32 (k + 1) ≤ 6 from i_le (b := 6) (by omega) (by omega)), show (2 : Int32) + i32 (k + 1) - i32 1 = i32 (2 + k) from by rw [i32_2, i32_add, i32_sub (by omega)]; rfl, e_gI ln_16 (by omega) (by omega), h2.2.2 k hk]
theorem s_collect (h : ICls c S σ) (ok : OKS S) (h24 : (aP S).length ≤ 24) (hv : ∀ x, x ∈ aP S → vlt (gn (aG S)) x) : (∃ W e τ, col (aG S) 1000 [] (wdof (aP S)) 0 = some (W, e) ∧ e ≤ 1000 ∧ W.length < 12076 ∧ f_X10_collect σ = some (i32 e, τ) ∧ ICls (c + 1) (tdS S W) τ) ∨ ∃ τ, col (aG S) 1000 [] (wdof (aP S)) 0 = none ∧ f_X10_collect σ = some (-2, τ) ∧ ICls (c + 1) (tpS S []) τ := by
  have hG : GOK (aG S) := ok.1.1
  have hn : gn (aG S) ≤ 6 := hG.2.1
  have hB : ∀ x, x ∈ aP S → x < 256 := ok.2.2.2.2.2
  have h5 : CTape σ (aP S) := h.2.2.2.2.1
  obtain ⟨t1, g1⟩ := CTape.cut (n := 0) h5 (Nat.zero_le _)
  have hc1 := h.tape g1 t1
  have w1 : ∀ (p x : Nat), (aP S)[p]? = some x → (wI σ 0 7 (i32 0)).1 34 p = i32 x := fun p x hp => by rw [wI_1, if_neg (by omega)]; exact h5.2 p x hp
  unfold f_X10_collect
  rw [e_gF, h5.1, e_pF]
  have e0 : wI σ 0 7 0 = wI σ 0 7 (i32 0) := rfl
  have c24 : i32 (aP S).length ≤ 24 := (i_le h24 (by omega) : i32 (aP S).length ≤ i32 24)
  rw [e0, if_pos c24]
  obtain ⟨σ2, e2, f2, w2⟩ := c_begin (σ := wI σ 0 7 (i32 0))
  have hc2 := hc1.sc f2.sc
  rw [e2, e_bs]
  obtain ⟨r, e3, σ3, f3, hcase⟩ := c_letters (σ := σ2) (w := aP S) hn hc2.1.1.1 h24 hB (fun p x hp => by rw [f2.2.1 34 (by omega) (by omega)]; exact w1 p x hp) w2
  have hc3 := hc2.sc f3.sc
  rw [e3, e_bs]
  rcases hcase with ⟨_, rfl, hw3⟩ | ⟨hnv, _⟩
  rotate_left
  · exact absurd hv hnv
  have hwl : (wdof (aP S)).length ≤ 24 := by unfold wdof; rw [List.length_map]; exact h24
  have hwg : ∀ x, x ∈ wdof (aP S) → x < gn (aG S) := fun x hx => by
    obtain ⟨y, hy, rfl⟩ := List.mem_map.mp hx
    have := hv y hy
    have h1 := this.1
    have h2 := this.2
    omega
  obtain ⟨σ4, f4, hrun⟩ := c_run (σ := σ3) (a := 2) hG RA2 hc3.1.1 (L := 1000) (by omega) (w := wdof (aP S)) (by omega) hwg hw3.1 (fun p hp => hw3.2 p _ (List.getElem?_eq_getElem hp))
  have hc4 := hc3.sc f4.sc
  rcases hrun with ⟨W, e, hcol, hle, e4, hWl, hW⟩ | ⟨hcol, e4⟩
  · left
    refine ⟨W, e, cpI (wI σ4 16 1 (i32 (gn (aG S)))) 39 16 0 2 6, hcol, hle, hWl, ?_, ?_⟩
    · show j_X10_collect_76 σ3 = _
      unfold j_X10_collect_76
      rw [show (1000 : Int32) = i32 1000 from rfl, e4, e_bq, if_neg (show ¬ i32 e = -1 from fun q => by
        have := congrArg Int32.toInt q
        rw [i32_toInt (by omega)] at this
        have h9 : (-1 : Int32).toInt = -1 := by decide
        rw [h9] at this
        omega), e_gF, hc4.1.1.1, i32_1, e_pI ln_16 (k := 1) (by omega) (by omega), e_cI26]
    · have hcp := cpI26 (σ := wI σ4 16 1 (i32 (gn (aG S))))
      have o16 : OI 16 σ4 (cpI (wI σ4 16 1 (i32 (gn (aG S)))) 39 16 0 2 6) := ⟨hcp.1.1, fun x hx => by rw [hcp.1.2 x hx]; funext y; rw [wI_1, if_neg (fun q => hx q.1)]⟩
      have hT : CTd (cpI (wI σ4 16 1 (i32 (gn (aG S)))) 39 16 0 2 6) 16 ((aT S).1, gn (aG S), fun i => i32 (W.count i)) := by
        refine ⟨?_, ?_, fun i hi => ?_⟩
        · rw [hcp.2.2 0 (by omega), wI_1, if_neg (by omega)]
          exact hc4.2.1.1
        · rw [hcp.2.2 1 (by omega), wI_1, if_pos ⟨rfl, rfl⟩]
        · have hi' : i < gn (aG S) := hi
          rw [hcp.2.1 i (by omega), wI_1, if_neg (by omega)]
          exact hW i (by omega)
      exact (hc4.tell o16 hT).up
  · right
    refine ⟨σ4, hcol, ?_, hc4.up⟩
    show j_X10_collect_76 σ3 = _
    unfold j_X10_collect_76
    rw [show (1000 : Int32) = i32 1000 from rfl, e4, e_bq, if_pos rfl]
/-- what is collected is the product -/
theorem col_prod {G : GD} (hG : GOK G) {a b : Nat → Nat} {W : List Nat} {e : Nat} (h : col G 1000 [] (wordU a (gn G) ++ wordU b (gn G)) 0 = some (W, e)) : ∀ k, k < gn G → (W.count k : Int) = mul G (fun i => (a i : Int)) (fun i => (b i : Int)) k := fun k hk => by
  have hw : ∀ x, x ∈ wordU a (gn G) ++ wordU b (gn G) → x < gn G := fun x hx => by
    rcases List.mem_append.mp hx with h1 | h1
    · exact wordU_mem _ _ h1
    · exact wordU_mem _ _ h1
  have h1 := congrFun (col_cnt hG hw h) k
  have h2 := point_mul hG (a := a) (b := b) k hk
  rw [← h2, ← h1]
  rfl
end SPT
