/-! the reference's differences -/
section RD
variable {G : GD} {σ : Mem}
theorem r_chs {d s : Nat} (hd : d ≤ 3) (hs : s ≤ 3) : (oi (ch d s) * oi ((d : Int) - s)) / (i32 (s + 1)).toInt64 = oi (ch d (s + 1)) := by
  have key : (List.range 4).all (fun d => (List.range 4).all (fun s => decide ((oi (ch d s) * oi ((d : Int) - s)) / (i32 (s + 1)).toInt64 = oi (ch d (s + 1))))) = true := by decide
  have h1 := List.all_eq_true.mp key d (List.mem_range.mpr (by omega))
  have h2 := List.all_eq_true.mp h1 s (List.mem_range.mpr (by omega))
  exact of_decide_eq_true h2
theorem r_sub64 {d s : Nat} (hd : d ≤ 3) (hs : s ≤ 3) : (i32 d - i32 s).toInt64 = oi ((d : Int) - s) := by
  have key : (List.range 4).all (fun d => (List.range 4).all (fun s => decide ((i32 d - i32 s).toInt64 = oi ((d : Int) - s)))) = true := by decide
  have h1 := List.all_eq_true.mp key d (List.mem_range.mpr (by omega))
  have h2 := List.all_eq_true.mp h1 s (List.mem_range.mpr (by omega))
  exact of_decide_eq_true h2
theorem r_choose {d s : Nat} (hd : d ≤ 3) (hs : s ≤ 3) : f_X11_choose σ (i32 d) (i32 s) = some (oi (ch d s)) := by
  unfold f_X11_choose
  refine loop_at (fun k => (oi (ch d k), i32 k)) 0 s ?_ (Nat.zero_le _) (fun k _ hk => ?_) ?_
  · cases d <;> rfl
  · show l_X11_choose_5 (i32 d) (i32 s) (oi (ch d k)) (i32 k) = _
    unfold l_X11_choose_5
    have hne : ¬ (i32 (k + 1)).toInt64 = 0 := by
      have key : (List.range 4).all (fun k => decide (¬ (i32 (k + 1)).toInt64 = 0)) = true := by decide
      exact of_decide_eq_true (List.all_eq_true.mp key k (List.mem_range.mpr (by omega)))
    rw [if_neg (i_nle hk (by omega)), i32_1, i32_add, e_nzL hne, e_bd, r_sub64 hd (by omega), r_chs hd (by omega)]
  · show l_X11_choose_5 (i32 d) (i32 s) (oi (ch d s)) (i32 s) = _
    unfold l_X11_choose_5
    rw [if_pos (i_le (Nat.le_refl _) (by omega))]
theorem r_sign {d s : Nat} (hd : d ≤ 3) (hs : s ≤ 3) (hsd : s ≤ d) : (if ((i32 d - i32 s) - (i32 d - i32 s) / 2 * 2) = 0 then (some 1) else (some (-1)) : Option Int64) = some (oi (if (d - s) % 2 = 0 then 1 else -1)) := by
  have key : (List.range 4).all (fun d => (List.range 4).all (fun s => !(decide (s ≤ d)) || decide ((if ((i32 d - i32 s) - (i32 d - i32 s) / 2 * 2) = 0 then (some 1) else (some (-1)) : Option Int64) = some (oi (if (d - s) % 2 = 0 then 1 else -1))))) = true := by decide
  have h1 := List.all_eq_true.mp key d (List.mem_range.mpr (by omega))
  have h2 := List.all_eq_true.mp h1 s (List.mem_range.mpr (by omega))
  rw [decide_eq_true hsd] at h2
  simpa using h2
/-- a row of ints holds numbers from a place on -/
def RN (σ : Mem) (a s : Nat) (l : List Nat) : Prop := ∀ p x, l[p]? = some x → σ.1 a (s + p) = i32 x
/-- what differences change -/
def FDf (σ τ : Mem) (m : Nat) : Prop := (∀ x, x ≠ 316 → τ.1 x = σ.1 x) ∧ (∀ p, p < m → τ.1 316 p = σ.1 316 p) ∧ ∀ x, x ≠ 313 → τ.2 x = σ.2 x
theorem FDf.refl {m : Nat} : FDf σ σ m := ⟨fun _ _ => rfl, fun _ _ => rfl, fun _ _ => rfl⟩
theorem FDf.trans {τ υ : Mem} {m : Nat} (h : FDf σ τ m) (k : FDf τ υ m) : FDf σ υ m := ⟨fun x hx => (k.1 x hx).trans (h.1 x hx), fun p hp => (k.2.1 p hp).trans (h.2.1 p hp), fun x hx => (k.2.2 x hx).trans (h.2.2 x hx)⟩
theorem FDf.mono {τ : Mem} {m m' : Nat} (h : FDf σ τ m) (hm : m' ≤ m) : FDf σ τ m' := ⟨h.1, fun p hp => h.2.1 p (by omega), h.2.2⟩
theorem MG.fdf {τ : Mem} {m : Nat} (h : MG σ G) (k : FDf σ τ m) : MG τ G := by
  unfold MG
  rw [k.1 307 (by omega)]
  exact h
theorem M0.fdf {τ : Mem} {m : Nat} (h : M0 σ) (k : FDf σ τ m) : M0 τ := fun i hi => by rw [k.2.2 314 (by omega)]; exact h i hi
/-- at the end of the places: a product at small numbers -/
theorem r_diff0 (h : MG σ G) (hG : GOK G) (h0 : M0 σ) {rec : Mem → Int32 → Int32 → Int64 → Option (Int64 × Mem)} {pre : List Nat} (hl : pre.length = 2 * gn G) (h3 : ∀ d, d ∈ pre → d ≤ 3) (ha : RN σ 316 0 pre) {k : Nat} (hk : k < gn G) {s : Int64} {m : Nat} :
    ∃ τ, o_X11_difference rec σ (i32 k) (i32 pre.length) s = some (s * oi (Fk G k (ints pre)), τ) ∧ FDf σ τ m := by
  have hn := hG.2.1
  unfold o_X11_difference
  rw [e_n h, e_bs, hl, i32_2, i32_mul, if_pos rfl]
  have hv : ∀ p, p < 2 * gn G → σ.1 316 p = i32 (pre.getD p 0) := fun p hp => by
    have h1 : pre[p]? = some (pre[p]'(by omega)) := List.getElem?_eq_getElem (by omega)
    have h2 := ha p _ h1
    rw [Nat.zero_add] at h2
    rw [h2, List.getD_eq_getElem?_getD, h1]; rfl
  have hb : ∀ p, pre.getD p 0 ≤ 3 := fun p => by
    rw [List.getD_eq_getElem?_getD]
    by_cases hp : p < pre.length
    · rw [List.getElem?_eq_getElem hp]
      exact h3 _ (List.getElem_mem hp)
    · rw [List.getElem?_eq_none (by omega)]
      exact Nat.zero_le 3
  have hi : ∀ p, (ints pre).getD p 0 = (pre.getD p 0 : Int) := fun p => by
    unfold ints
    rw [List.getD_eq_getElem?_getD, List.getElem?_map, List.getD_eq_getElem?_getD]
    cases pre[p]? <;> rfl
  obtain ⟨f, hf⟩ := PS_any σ
  have hl' := loop_inv (body := fun (z16 : Mem × Int32) => l_X11_difference_13 rec z16.1 z16.2) (fun n z => ∃ i g, i ≤ 6 ∧ n = 6 - i ∧ z = (PS σ g, i32 i) ∧ ∀ q, q < i → g 90 q = (if q < gn G then (pre.getD q 0 : Int) else 0) ∧ g 91 q = (if q < gn G then (pre.getD (gn G + q) 0 : Int) else 0)) (fun τ => ∃ g, τ = PS σ g ∧ ∀ q, q < 6 → g 90 q = (if q < gn G then (pre.getD q 0 : Int) else 0) ∧ g 91 q = (if q < gn G then (pre.getD (gn G + q) 0 : Int) else 0)) ?_ 6 (σ, 0) ⟨0, f, by omega, rfl, by rw [hf]; rfl, fun q hq => absurd hq (Nat.not_lt_zero _)⟩
  · obtain ⟨τ, e, g, rfl, hg⟩ := hl'
    rw [e, e_bs]
    unfold j_X11_difference_89
    have sb : ∀ r, (∀ q, q < 6 → ∃ c : Nat, g r q = (if q < gn G then (pre.getD c 0 : Int) else 0)) → S30 G (g r) := fun r hr j hj _ => by
      obtain ⟨c, hc⟩ := hr j (by omega)
      rw [hc, if_pos hj]
      have := hb c
      omega
    rw [show (90 : Int32) = i32 90 from rfl, show (91 : Int32) = i32 91 from rfl, p_times h hG h0 (by omega) (by omega) (by omega) (sb 90 (fun q hq => ⟨q, (hg q hq).1⟩)) (sb 91 (fun q hq => ⟨gn G + q, (hg q hq).2⟩)), e_bs, p_of (by omega) (by omega), e_bs, uS_self]
    have e1 : mul G (g 90) (g 91) k = Fk G k (ints pre) := by
      unfold Fk
      refine mul_congr (fun i hi2 => ?_) (fun i hi2 => ?_) hk
      · rw [hi, (hg i (by omega)).1, if_pos hi2]
      · rw [hi, (hg i (by omega)).2, if_pos hi2]
    rw [e1]
    exact ⟨_, rfl, fun x _ => rfl, fun p _ => rfl, fun x hx => PS_2 hx⟩
  · rintro n z ⟨i, g, hi6, rfl, rfl, hg⟩
    by_cases hi2 : i = 6
    · right
      subst hi2
      refine ⟨PS σ g, ?_, g, rfl, hg⟩
      show l_X11_difference_13 rec _ (i32 6) = _
      unfold l_X11_difference_13
      rw [if_pos (by decide)]
    · left
      refine ⟨(PS σ (uS (uS g 90 (uV (g 90) i (if i < gn G then (pre.getD i 0 : Int) else 0))) 91 (uV (uS g 90 (uV (g 90) i (if i < gn G then (pre.getD i 0 : Int) else 0)) 91) i (if i < gn G then (pre.getD (gn G + i) 0 : Int) else 0))), i32 (i + 1)), 6 - (i + 1), by omega, ?_, i + 1, _, by omega, rfl, rfl, fun q hq => ?_⟩
      · show l_X11_difference_13 rec (PS σ g) (i32 i) = _
        unfold l_X11_difference_13
        have e1 : (if i32 (gn G) ≤ i32 i then (some 0) else (gI (PS σ g) 316 (i32 i) (fun (v25 : Int32) => some (Int32.toInt64 v25))) : Option Int64) = some (oi (if i < gn G then (pre.getD i 0 : Int) else 0)) := by
          by_cases h4 : i < gn G
          · rw [if_neg (i_nle h4 (by omega)), e_gI ln_316 (by omega) (by omega), if_pos h4]
            show some (σ.1 316 i).toInt64 = _
            rw [hv i (by omega), i32_64 (by have := hb i; omega)]; rfl
          · rw [if_pos (i_le (by omega) (by omega)), if_neg h4]; rfl
        rw [i32_6, if_neg (i_nle (by omega) (by omega)), e_n (PS_MG h), e_bs, e1, e_bs]
        unfold j_X11_difference_46
        have e2 : (if i32 (gn G) ≤ i32 i then (some 0) else ((some (i32 (gn G)) : Option Int32).bind (fun (v23 : Int32) => gI (PS σ (uS g 90 (uV (g 90) i (if i < gn G then (pre.getD i 0 : Int) else 0)))) 316 (v23 + i32 i) (fun (v24 : Int32) => some (Int32.toInt64 v24)))) : Option Int64) = some (oi (if i < gn G then (pre.getD (gn G + i) 0 : Int) else 0)) := by
          by_cases h4 : i < gn G
          · rw [if_neg (i_nle h4 (by omega)), e_bs, i32_add, e_gI ln_316 (by omega) (by omega)]
            show some (σ.1 316 (gn G + i)).toInt64 = _
            rw [hv _ (by omega), i32_64 (by have := hb (gn G + i); omega), if_pos h4]; rfl
          · rw [if_pos (i_le (by omega) (by omega)), if_neg h4]; rfl
        rw [show (90 : Int32) = i32 90 from rfl, p_puts (by omega) (by omega), e_bs, e_n (PS_MG h), e_bs, e2, e_bs]
        unfold j_X11_difference_80
        rw [show (91 : Int32) = i32 91 from rfl, p_puts (by omega) (by omega), e_bs, i32_1, i32_add]
      · rw [uS_self, uS_ne (by omega), uS_self, uS_ne (by omega)]
        unfold uV
        by_cases h5 : q = i
        · subst h5; rw [if_pos rfl, if_pos rfl]; exact ⟨rfl, rfl⟩
        · rw [if_neg h5, if_neg h5]; exact hg q (by omega)
/-- the sum, with signs, over all numbers up to the degrees -/
theorem r_diff (hG : GOK G) {k : Nat} (hk : k < gn G) : ∀ (ds : List Nat) (fuel : Nat) (σ : Mem) (pre : List Nat) (s : Int64), MG σ G → M0 σ → pre.length + ds.length = 2 * gn G → (∀ d, d ∈ pre → d ≤ 3) → (∀ d, d ∈ ds → d ≤ 3) → RN σ 316 0 pre → RN σ 315 pre.length ds → ds.length < fuel →
    ∃ τ, f_X11_difference fuel σ (i32 k) (i32 pre.length) s = some (s * oi (Dd ds (fun xs => Fk G k (ints pre ++ xs))), τ) ∧ FDf σ τ pre.length := by
  have hn := hG.2.1
  intro ds
  induction ds with
  | nil =>
    intro fuel σ pre s h h0 hl h3 _ ha _ hf
    obtain ⟨fuel, rfl⟩ : ∃ q, fuel = q + 1 := ⟨fuel - 1, by simp only [List.length_nil] at hf; omega⟩
    show ∃ τ, o_X11_difference _ σ (i32 k) (i32 pre.length) s = some (s * oi (Fk G k (ints pre ++ [])), τ) ∧ _
    rw [List.append_nil]
    exact r_diff0 h hG h0 (by simpa using hl) h3 ha hk
  | cons d ds ih =>
    intro fuel σ pre s h h0 hl h3 h4 ha hd hf
    simp only [List.length_cons] at hl hf
    obtain ⟨fuel, rfl⟩ : ∃ q, fuel = q + 1 := ⟨fuel - 1, by omega⟩
    show ∃ τ, o_X11_difference (f_X11_difference fuel) σ (i32 k) (i32 pre.length) s = _ ∧ _
    unfold o_X11_difference
    have hd3 := h4 d (List.mem_cons_self ..)
    have hdv : σ.1 315 pre.length = i32 d := hd 0 d rfl
    rw [e_n h, e_bs, i32_2, i32_mul, if_neg (i_ne (by omega) (by omega) (by omega)), e_gI ln_315 (by omega) (by omega), hdv]
    have hl' := loop_inv (body := fun (z5 : (Mem × Int64 × Int32)) => l_X11_difference_121 (f_X11_difference fuel) (i32 k) (i32 pre.length) s (i32 d) z5.1 z5.2.1 z5.2.2) (fun n z => ∃ t τ, t ≤ d + 1 ∧ n = d + 1 - t ∧ z = (τ, s * oi (sm (fun t => sg d t * Dd ds (fun xs => Fk G k (ints pre ++ ((t : Int) :: xs)))) t), i32 t) ∧ FDf σ τ pre.length) (fun r => ∃ τ, r = (s * oi (Dd (d :: ds) (fun xs => Fk G k (ints pre ++ xs))), τ) ∧ FDf σ τ pre.length) ?_ (d + 1) (σ, 0, 0) ⟨0, σ, Nat.zero_le _, rfl, by
        show (σ, (0 : Int64), (0 : Int32)) = (σ, s * oi 0, i32 0)
        rw [show oi 0 = (0 : Int64) from rfl, Int64.mul_zero]; rfl, FDf.refl⟩
    · obtain ⟨r, e, τ, rfl, f⟩ := hl'
      exact ⟨τ, e, f⟩
    · rintro n z ⟨t, τ, ht, rfl, rfl, f⟩
      by_cases htd : t = d + 1
      · right
        subst htd
        refine ⟨_, ?_, τ, rfl, f⟩
        show l_X11_difference_121 (f_X11_difference fuel) (i32 k) (i32 pre.length) s (i32 d) τ _ (i32 (d + 1)) = _
        unfold l_X11_difference_121
        rw [if_pos (i_lt (by omega) (by omega))]
        rfl
      · left
        have f6 : FDf τ (wI τ 316 pre.length (i32 t)) pre.length := ⟨fun x hx => by funext y; rw [wI_1, if_neg (fun z => hx z.1)], fun p hp => by rw [wI_1, if_neg (by omega)], fun x _ => rfl⟩
        have F6 := f.trans f6
        have e4 : RN (wI τ 316 pre.length (i32 t)) 316 0 (pre ++ [t]) := fun p x hp => by
          rw [wI_1]
          by_cases h5 : p < pre.length
          · rw [if_neg (by omega), f.2.1 _ (by omega)]
            rw [List.getElem?_append_left h5] at hp
            exact ha p x hp
          · rw [List.getElem?_append_right (by omega)] at hp
            by_cases h6 : p = pre.length
            · subst h6
              rw [Nat.sub_self] at hp
              cases hp
              rw [if_pos ⟨rfl, by omega⟩]
            · rw [List.getElem?_eq_none (by simp only [List.length_cons, List.length_nil]; omega)] at hp
              cases hp
        have e5 : RN (wI τ 316 pre.length (i32 t)) 315 (pre ++ [t]).length ds := fun p x hp => by
          rw [F6.1 315 (by omega), List.length_append, List.length_cons, List.length_nil]
          have := hd (p + 1) x (by rw [List.getElem?_cons_succ]; exact hp)
          rw [← this, show pre.length + (0 + 1) + p = pre.length + (p + 1) by omega]
        obtain ⟨υ, e, f7⟩ := ih fuel (wI τ 316 pre.length (i32 t)) (pre ++ [t]) ((s * oi (ch d t)) * oi (if (d - t) % 2 = 0 then 1 else -1)) (h.fdf F6) (h0.fdf F6) (by simp only [List.length_append, List.length_cons, List.length_nil]; omega) (fun x hx => by
          rcases List.mem_append.mp hx with h5 | h5
          · exact h3 x h5
          · rw [List.mem_singleton.mp h5]; omega) (fun x hx => h4 x (List.mem_cons_of_mem _ hx)) e4 e5 (by omega)
        rw [List.length_append, List.length_cons, List.length_nil] at e f7
        refine ⟨(υ, s * oi (sm (fun t => sg d t * Dd ds (fun xs => Fk G k (ints pre ++ ((t : Int) :: xs)))) (t + 1)), i32 (t + 1)), d + 1 - (t + 1), by omega, ?_, t + 1, υ, by omega, rfl, rfl, F6.trans (f7.mono (by omega))⟩
        show l_X11_difference_121 (f_X11_difference fuel) (i32 k) (i32 pre.length) s (i32 d) τ _ (i32 t) = _
        unfold l_X11_difference_121
        rw [if_neg (i_nlt (by omega) (by omega)), e_pI ln_316 (by omega) (by omega), r_choose hd3 (by omega), e_bs, e_nzI (by decide), r_sign hd3 (by omega) (by omega), e_bs]
        unfold j_X11_difference_170
        rw [i32_1, i32_add, e, e_bq, e_bd, i32_add]
        have hint : (fun xs => Fk G k (ints (pre ++ [t]) ++ xs)) = fun xs => Fk G k (ints pre ++ ((t : Int) :: xs)) := by
          funext xs
          unfold ints
          rw [List.map_append, List.append_assoc]
          rfl
        rw [hint]
        congr 4
        show s * oi (sm _ t) + _ = s * oi (sm _ t + sg d t * Dd ds (fun xs => Fk G k (ints pre ++ ((t : Int) :: xs))))
        rw [← oi_add, Int64.mul_add]
        congr 1
        unfold sg
        rw [← oi_mul, ← oi_mul]
        simp only [Int64.mul_assoc]
end RD
