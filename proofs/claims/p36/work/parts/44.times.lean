/-! a letter's power, and products, by the reference -/
/-- a place that holds whole numbers -/
def setI (σ : Mem) (s : Nat) (a : Nat → Int) : Mem := setV σ s (fun i => oi (a i))
def M0 (σ : Mem) : Prop := ∀ m, m < 6 → σ.2 314 m = 0
theorem M0.more {σ : Mem} (h : M0 σ) : moreM σ (fun _ => 0) = σ := by
  unfold moreM
  have e : mrow σ (fun _ => 0) = σ.2 314 := by
    funext y
    unfold mrow
    split
    · rename_i hy; rw [h y hy]; rfl
    · rfl
  rw [e, rowL_id]
theorem M0.setI {σ : Mem} {s : Nat} {a : Nat → Int} (h : M0 σ) : M0 (setI σ s a) := fun m hm => (setV_2 (by omega)).trans (h m hm)
theorem setI_vec {σ : Mem} {s i : Nat} {a : Nat → Int} (h : i < 6) : vec (setI σ s a) s i = oi (a i) := setV_self h
theorem setI_ne {σ : Mem} {s r i : Nat} {a : Nat → Int} (h : i < 6) (hr : r ≠ s) : vec (setI σ s a) r i = vec σ r i := setV_ne h hr
theorem setI_congr {σ : Mem} {s : Nat} {a b : Nat → Int} (h : ∀ i, i < 6 → a i = b i) : setI σ s a = setI σ s b := setV_congr (fun i hi => by rw [h i hi])
theorem setI_setI {σ : Mem} {s : Nat} {a b : Nat → Int} : setI (setI σ s a) s b = setI σ s b := setV_setV
theorem setI_id {σ : Mem} {s : Nat} {a : Nat → Int} (h : ∀ i, i < 6 → vec σ s i = oi (a i)) : setI σ s a = σ := by
  unfold setI
  rw [setV_congr (u := vec σ s) (fun i hi => (h i hi).symm), setV_id]
theorem setI_MG {σ : Mem} {G : GD} {s : Nat} {a : Nat → Int} (h : MG σ G) : MG (setI σ s a) G := h
/-- the letters of weight two, first -/
def tlTwo (G : GD) (a : Nat → Int) (i : Nat) (y : Int) (m : Nat) : Int := a m + sm (fun j => if i < j ∧ gw G j = 2 then tI G j i m * (a j * y) else 0) (gn G)
theorem tI_0 {G : GD} (hG : GOK G) {j i m : Nat} (h : ¬ (i < j ∧ j < m ∧ m < gn G ∧ gw G i + gw G j ≤ gw G m)) : tI G j i m = 0 := by
  unfold tI
  by_cases h1 : gt G j i m = 0
  · rw [h1]; rfl
  · exact absurd (hG.2.2.2.2.2.2 j i m h1) h
/-- the letters of weight two do not move what is of weight two at most -/
theorem tlTwo_low {G : GD} (hG : GOK G) {a : Nat → Int} {i m : Nat} {y : Int} (hi : i < gn G) (hm : gw G m ≤ 2) : tlTwo G a i y m = a m := by
  unfold tlTwo
  rw [sm_zero, Int.add_zero]
  intro j _
  by_cases h : i < j ∧ gw G j = 2
  · rw [if_pos h, tI_0 hG (by have := (hG.2.2.1 i hi).1; omega), Int.zero_mul]
  · rw [if_neg h]
theorem e_tl21 {σ : Mem} {G : GD} (h : MG σ G) (hG : GOK G) {a : Nat → Int} {s i : Nat} {y : Int} (hs : s < 100) (hi : i < gn G) (hv : ∀ i, i < 6 → vec σ s i = oi (a i)) :
    loopO (fun (z22 : Mem × Int32) => l_X11_timesLetter_21 (i32 s) (i32 i) (oi y) z22.1 z22.2) (σ, i32 (i + 1)) = some (setI σ s (tlTwo G a i y)) := by
  have hn := hG.2.1
  -- where weight three begins
  have hend : ∃ e, i + 1 ≤ e ∧ e ≤ gn G ∧ (∀ q, i + 1 ≤ q → q < e → gw G q < 3) ∧ (∀ q, e ≤ q → q < gn G → 3 ≤ gw G q) := by
    have key : ∀ d b, d = gn G - b → b ≤ gn G → ∃ e, b ≤ e ∧ e ≤ gn G ∧ (∀ q, b ≤ q → q < e → gw G q < 3) ∧ (∀ q, e ≤ q → q < gn G → 3 ≤ gw G q) := by
      intro d
      induction d with
      | zero => intro b h1 h2; exact ⟨b, Nat.le_refl b, h2, fun q h4 h5 => by omega, fun q h4 h5 => by omega⟩
      | succ d ih =>
        intro b h1 h2
        by_cases hw : gw G b < 3
        · obtain ⟨e, e1, e2, e3, e4⟩ := ih (b + 1) (by omega) (by omega)
          refine ⟨e, by omega, e2, fun q h4 h5 => ?_, e4⟩
          by_cases h6 : q = b
          · rw [h6]; exact hw
          · exact e3 q (by omega) h5
        · refine ⟨b, Nat.le_refl b, h2, fun q h4 h5 => by omega, fun q h4 h5 => ?_⟩
          have h8 := hG.2.2.2.1 b q h4 h5
          omega
    exact key _ (i + 1) rfl (by omega)
  obtain ⟨e, e1, e2, e3, e4⟩ := hend
  generalize hf : (fun (m j : Nat) => if i < j ∧ gw G j = 2 then tI G j i m * (a j * y) else 0) = f
  have hfm : ∀ m j, f m j = if i < j ∧ gw G j = 2 then tI G j i m * (a j * y) else 0 := fun m j => by rw [← hf]
  refine loop_at (fun k => (setI σ s (fun m => a m + sm (f m) k), i32 k)) (i + 1) e ?_ e1 (fun j h1 h2 => ?_) ?_
  · rw [setI_id]
    intro q hq
    rw [hv q hq, sm_zero (fun j hj => by rw [hfm, if_neg (by omega)]), Int.add_zero]
  · show l_X11_timesLetter_21 _ _ _ _ _ = _
    unfold l_X11_timesLetter_21
    have hw3 := e3 j h1 h2
    have hj0 : sm (f j) j = 0 := sm_zero (fun q hq => by
      rw [hfm]
      by_cases h5 : i < q ∧ gw G q = 2
      · rw [if_pos h5, tI_0 hG (by have := (hG.2.2.1 i hi).1; omega), Int.zero_mul]
      · rw [if_neg h5])
    rw [e_n (setI_MG h), e_bs, if_neg (i_nle (by omega) (by omega)), e_weight (setI_MG h) (by omega), e_bs, if_neg (show ¬ 3 ≤ i32 (gw G j) from i_nle (a := 3) (by omega) (by decide)), e_of hs (by omega), e_bs, setI_vec (by omega), e_bs, hj0, Int.add_zero]
    by_cases hw : gw G j = 2
    · rw [hw, if_pos i32_2.symm, oi_mul, e_passesTwo (setI_MG h) hG hs (by omega) (by omega), e_bs, e_bs]
      unfold j_X11_timesLetter_71
      rw [i32_1, i32_add]
      have e9 : setV (setI σ s (fun m => a m + sm (f m) j)) s (pTwo G j i (oi (a j * y)) (vec (setI σ s (fun m => a m + sm (f m) j)) s)) = setI σ s (fun m => a m + sm (f m) (j + 1)) := by
        unfold setI
        rw [setV_setV]
        refine setV_congr (fun m hm => ?_)
        unfold pTwo
        have e8 : vec (setV σ s (fun i => oi (a i + sm (f i) j))) s m = oi (a m + sm (f m) j) := setV_self hm
        simp only [sm]
        by_cases h6 : j < m ∧ m < gn G
        · rw [if_pos h6, e8, oi_nat, oi_mul, oi_add, hfm, if_pos ⟨by omega, hw⟩]
          rw [Int.add_assoc]
        · rw [if_neg h6, e8, hfm, if_pos ⟨by omega, hw⟩, tI_0 hG (by omega), Int.zero_mul, Int.add_zero]
      rw [e9]
    · rw [if_neg (i_ne2 hw (by omega)), e_bs]
      unfold j_X11_timesLetter_71
      rw [i32_1, i32_add]
      have e9 : (fun m => a m + sm (f m) (j + 1)) = (fun m => a m + sm (f m) j) := by
        funext m
        simp only [sm]
        rw [hfm, if_neg (fun q => hw q.2), Int.add_zero]
      rw [e9]
  · show l_X11_timesLetter_21 _ _ _ _ _ = _
    unfold l_X11_timesLetter_21
    have e9 : setI σ s (fun m => a m + sm (f m) e) = setI σ s (tlTwo G a i y) := by
      refine setI_congr (fun m _ => ?_)
      unfold tlTwo
      rw [show (fun j => if i < j ∧ gw G j = 2 then tI G j i m * (a j * y) else 0) = f m by rw [← hf], sm_tail (f := f m) e2 (fun q h1 h2 => by rw [hfm, if_neg (fun h3 => by have := e4 q h1 h2; omega)])]
    rw [e_n (setI_MG h), e_bs]
    by_cases he : e = gn G
    · rw [if_pos (i_le (by omega) (by omega)), ← e9]
    · rw [if_neg (i_nle (by omega) (by omega)), e_weight (setI_MG h) (by omega), e_bs, if_pos (show 3 ≤ i32 (gw G e) from i_le (a := 3) (e4 e (Nat.le_refl e) (by omega)) (by have := (hG.2.2.1 e (by omega)).2; omega)), ← e9]
theorem moreM_setV {σ : Mem} {s : Nat} {v : Nat → Int64} {M : Nat → Int} : setV (moreM σ M) s v = moreM (setV σ s v) M := by
  unfold moreM rowL setV mrow
  refine Prod.ext rfl ?_
  funext x y
  show (if x = 313 ∧ 6 * s ≤ y ∧ y < 6 * s + 6 then _ else if x = 314 then _ else _) = (if x = 314 then _ else if x = 313 ∧ 6 * s ≤ y ∧ y < 6 * s + 6 then _ else _)
  by_cases h1 : x = 314
  · rw [if_neg (by omega), if_pos h1, if_pos h1]
    show (if y < 6 then _ else σ.2 314 y) = (if y < 6 then _ else (if 314 = 313 ∧ 6 * s ≤ y ∧ y < 6 * s + 6 then v (y - 6 * s) else σ.2 314 y))
    rw [if_neg (show ¬ (314 = 313 ∧ 6 * s ≤ y ∧ y < 6 * s + 6) by omega)]
  · rw [if_neg h1, if_neg h1]
theorem e_tl91 {σ : Mem} {G : GD} (h : MG σ G) (hG : GOK G) {a : Nat → Int} {s i : Nat} {y : Int} (hs : s < 100) (hi : i < gn G) (hv : ∀ i, i < 6 → vec σ s i = oi (a i)) (h0 : M0 σ) (hy : two64ok y) (ha : ∀ j, j < gn G → gw G j = 1 → two64ok (a j)) :
    loopO (fun (z16 : Mem × Int32) => l_X11_timesLetter_91 (i32 s) (i32 i) (oi y) z16.1 z16.2) (σ, i32 (i + 1)) = some (moreM σ (fun m => sm (fun j => if i < j ∧ gw G j = 1 then passOne G a j i y m else 0) (gn G))) := by
  have hn := hG.2.1
  obtain ⟨e, e1, e2, e3, e4⟩ := ones_end hG 1 (i + 1) (by omega) (fun q _ h2 => (hG.2.2.1 q h2).1)
  generalize hf : (fun (m j : Nat) => if i < j ∧ gw G j = 1 then passOne G a j i y m else 0) = f
  have hfm : ∀ m j, f m j = if i < j ∧ gw G j = 1 then passOne G a j i y m else 0 := fun m j => by rw [← hf]
  refine loop_at (fun k => (moreM σ (fun m => sm (f m) k), i32 k)) (i + 1) e ?_ e1 (fun j h1 h2 => ?_) ?_
  · have e9 : (fun m => sm (f m) (i + 1)) = fun _ => 0 := funext (fun m => sm_zero (fun j hj => by rw [hfm, if_neg (by omega)]))
    rw [e9, h0.more]
  · show l_X11_timesLetter_91 _ _ _ _ _ = _
    unfold l_X11_timesLetter_91
    have hw := e3 j h1 h2
    rw [e_n (moreM_MG h), e_bs, if_neg (i_nle (by omega) (by omega)), e_weight (moreM_MG h) (by omega), e_bs, hw, if_pos i32_1.symm, e_passesOne h hG hs hv (by omega) hw (by omega) hy (ha j (by omega) hw), e_bs, i32_1, i32_add]
    have e9 : (fun m => sm (f m) (j + 1)) = fun m => sm (f m) j + passOne G a j i y m := funext (fun m => by
      simp only [sm]
      rw [hfm, if_pos ⟨by omega, hw⟩])
    rw [e9]
  · show l_X11_timesLetter_91 _ _ _ _ _ = _
    unfold l_X11_timesLetter_91
    have e9 : (fun m => sm (f m) e) = fun m => sm (fun j => if i < j ∧ gw G j = 1 then passOne G a j i y m else 0) (gn G) := funext (fun m => by
      rw [show (fun j => if i < j ∧ gw G j = 1 then passOne G a j i y m else 0) = f m by rw [← hf], sm_tail (f := f m) e2 (fun q h1 h2 => by rw [hfm, if_neg (fun h3 => e4 q h1 h2 h3.2)])])
    rw [e_n (moreM_MG h), e_bs]
    by_cases he : e = gn G
    · rw [if_pos (i_le (by omega) (by omega)), ← e9]
    · rw [if_neg (i_nle (by omega) (by omega)), e_weight (moreM_MG h) (by omega), e_bs, if_neg (i_ne1 (e4 e (Nat.le_refl e) (by omega)) (by have := (hG.2.2.1 e (by omega)).2; omega)), ← e9]
theorem e_tl128 {σ : Mem} {a : Nat → Int} {s : Nat} {M : Nat → Int} (hs : s < 100) (hv : ∀ i, i < 6 → vec σ s i = oi (a i)) (h0 : M0 σ) :
    loopO (fun (z10 : Mem × Int32) => l_X11_timesLetter_128 (i32 s) z10.1 z10.2) (moreM σ M, 0) = some (setI σ s (fun m => a m + M m)) := by
  refine loop_at (fun k => (moreM (setI σ s (fun i => if i < k then a i + M i else a i)) (fun m => if m < k then 0 else M m), i32 k)) 0 6 ?_ (by omega) (fun k _ hk => ?_) ?_
  · refine Prod.ext ?_ rfl
    show moreM (setI σ s _) _ = moreM σ M
    rw [setI_id (σ := σ) (fun i hi => by rw [hv i hi, if_neg (Nat.not_lt_zero i)])]
    congr 1
  · show l_X11_timesLetter_128 _ _ _ = _
    unfold l_X11_timesLetter_128
    rw [i32_6, if_neg (i_nle hk (by omega)), e_of hs hk, e_bs, moreM_vec, setI_vec hk, e_getM hk, if_neg (Nat.lt_irrefl k), if_neg (Nat.lt_irrefl k), oi_add, e_puts hs hk, e_bs, moreM_vec, moreM_setV]
    have e8 : setV (setI σ s (fun i => if i < k then a i + M i else a i)) s (upv (vec (setI σ s (fun i => if i < k then a i + M i else a i)) s) k (oi (a k + M k))) = setI σ s (fun i => if i < k + 1 then a i + M i else a i) := by
      unfold setI
      rw [setV_setV]
      refine setV_congr (fun i hi => ?_)
      unfold upv
      dsimp only
      by_cases h1 : i = k
      · subst h1; rw [if_pos rfl, if_pos (Nat.lt_succ_self i)]
      · rw [if_neg h1]
        have e7 : vec (setV σ s (fun i => oi (if i < k then a i + M i else a i))) s i = oi (if i < k then a i + M i else a i) := setV_self hi
        rw [e7]
        by_cases h2 : i < k
        · rw [if_pos h2, if_pos (by omega)]
        · rw [if_neg h2, if_neg (by omega)]
    rw [e8, e_putM (x := -M k) hk (by rw [if_neg (Nat.lt_irrefl k), Int.add_right_neg]; rfl), i32_1, i32_add]
    have e6 : up (fun m => if m < k then 0 else M m) k (-M k) = fun m => if m < k + 1 then 0 else M m := by
      funext m
      unfold up
      dsimp only
      by_cases h1 : m = k
      · subst h1; rw [if_pos rfl, if_neg (Nat.lt_irrefl m), if_pos (Nat.lt_succ_self m), Int.add_right_neg]
      · rw [if_neg h1]
        by_cases h2 : m < k
        · rw [if_pos h2, if_pos (by omega)]
        · rw [if_neg h2, if_neg (by omega)]
    rw [e6]
  · show l_X11_timesLetter_128 _ _ _ = _
    unfold l_X11_timesLetter_128
    rw [i32_6, if_pos (i_le (Nat.le_refl 6) (by omega))]
    have e5 : moreM (setI σ s (fun i => if i < 6 then a i + M i else a i)) (fun m => if m < 6 then 0 else M m) = setI σ s (fun m => a m + M m) := by
      rw [setI_congr (b := fun m => a m + M m) (fun i hi => if_pos hi)]
      have e4 : moreM (setI σ s (fun m => a m + M m)) (fun m => if m < 6 then 0 else M m) = moreM (setI σ s (fun m => a m + M m)) (fun _ => 0) := by
        unfold moreM
        congr 1
        funext y
        unfold mrow
        by_cases hy : y < 6
        · rw [if_pos hy, if_pos hy]; dsimp only; rw [if_pos hy]
        · rw [if_neg hy, if_neg hy]
      rw [e4, h0.setI.more]
    rw [e5]
theorem oi_ne0 {y : Int} (h : y ≠ 0) (hy : two64ok y) : ¬ oi y = 0 := fun q => h (by
  have h1 : (oi y).toInt = y := oi_toInt (by have := hy.1; omega) (by have := hy.2; omega)
  rw [q] at h1
  exact h1.symm.trans (by decide))
theorem two_0 : two 0 = 0 := by decide
theorem TL_0 {G : GD} {a : Nat → Int} {i : Nat} : TL G a i 0 = a := by
  funext m
  unfold TL
  have e1 : ∀ j k, behind G a j i 0 k m = 0 := fun j k => by
    unfold behind
    rw [two_0, sm_zero (fun q _ => by split <;> simp)]
    simp
  have e2 : ∀ j, passOne G a j i 0 m = 0 := fun j => by
    unfold passOne
    rw [sm_zero (fun k _ => by rw [e1, Int.mul_zero])]
    simp
  rw [sm_zero (fun j _ => by rw [e2]; split <;> simp)]
  split <;> split <;> simp
theorem e_timesLetter {σ : Mem} {G : GD} (h : MG σ G) (hG : GOK G) {a : Nat → Int} {s i : Nat} {y : Int} (hs : s < 100) (hi : i < gn G) (hv : ∀ i, i < 6 → vec σ s i = oi (a i)) (h0 : M0 σ) (hy1 : gw G i = 1 → two64ok y) (ha : ∀ j, j < gn G → gw G j = 1 → two64ok (a j)) :
    f_X11_timesLetter σ (i32 s) (i32 i) (oi y) = some (setI σ s (TL G a i y)) := by
  have hn := hG.2.1
  unfold f_X11_timesLetter
  by_cases hy0 : oi y = 0
  · rw [if_pos hy0]
    by_cases hw : gw G i = 1
    · have hy2 : y = 0 := by
        refine Classical.byContradiction (fun q => oi_ne0 q (hy1 hw) hy0)
      rw [hy2, TL_0, setI_id hv]
    · rw [setI_id]
      intro m hm
      unfold TL
      rw [if_neg hw, Int.add_zero, hv m hm]
      by_cases h1 : m = i
      · rw [if_pos h1, ← oi_add, hy0, Int64.add_zero]
      · rw [if_neg h1, Int.add_zero]
  · rw [if_neg hy0, e_weight h (by omega), e_bs]
    have hw3 := (hG.2.2.1 i hi).2
    have last : ∀ (τ : Mem) (c : Nat → Int), (∀ i, i < 6 → vec τ s i = oi (c i)) → j_X11_timesLetter_171 (i32 s) (i32 i) (oi y) τ = some (setI τ s (fun m => c m + if m = i then y else 0)) := by
      intro τ c hc
      unfold j_X11_timesLetter_171
      rw [e_of hs (by omega), e_bs, hc i (by omega), oi_add, e_puts hs (by omega), e_bs]
      congr 1
      unfold setI
      refine setV_congr (fun m hm => ?_)
      unfold upv
      dsimp only
      by_cases h1 : m = i
      · rw [if_pos h1, if_pos h1, h1]
      · rw [if_neg h1, if_neg h1, hc m hm, Int.add_zero]
    by_cases hw : gw G i = 1
    · have hy := hy1 hw
      rw [hw, if_pos i32_1.symm, e_bd, i32_1, i32_add, e_tl21 h hG hs hi hv, e_bs]
      unfold j_X11_timesLetter_77
      rw [e_weight (setI_MG h) (by omega), e_bs, hw, if_pos i32_1.symm, e_bd, i32_1, i32_add, e_tl91 (setI_MG h) hG hs hi (fun i hi => setI_vec hi) h0.setI hy (fun j hj hj1 => by rw [tlTwo_low hG hi (by omega)]; exact ha j hj hj1), e_bs]
      unfold j_X11_timesLetter_125
      rw [e_tl128 hs (fun i hi => setI_vec hi) h0.setI, e_bs, setI_setI, last _ _ (fun i hi => setI_vec hi), setI_setI]
      congr 1
      refine setI_congr (fun m hm => ?_)
      unfold TL
      rw [if_pos hw]
      unfold tlTwo
      have e1 : ∀ j, (if i < j ∧ gw G j = 1 then passOne G (tlTwo G a i y) j i y m else 0) = if i < j ∧ gw G j = 1 then passOne G a j i y m else 0 := by
        intro j
        by_cases h1 : i < j ∧ gw G j = 1
        · rw [if_pos h1, if_pos h1]
          have e2 : ∀ q, gw G q ≤ 2 → tlTwo G a i y q = a q := fun q hq => tlTwo_low hG hi hq
          unfold passOne behind
          rw [e2 j (by omega)]
          congr 1
          refine sm_congr (fun k _ => ?_)
          congr 2
          refine sm_congr (fun q _ => ?_)
          by_cases h3 : j < q ∧ gw G q = 1
          · rw [if_pos h3, if_pos h3, e2 q (by omega)]
          · rw [if_neg h3, if_neg h3]
        · rw [if_neg h1, if_neg h1]
      have e3 : (fun j => if i < j ∧ gw G j = 1 then passOne G (fun m => a m + sm (fun j => if i < j ∧ gw G j = 2 then tI G j i m * (a j * y) else 0) (gn G)) j i y m else 0) = fun j => if i < j ∧ gw G j = 1 then passOne G a j i y m else 0 := funext e1
      rw [e3, Int.add_assoc, Int.add_assoc, Int.add_assoc]
      congr 1
      rw [← Int.add_assoc, sm_add, Int.add_comm]
      congr 1
      refine sm_congr (fun j _ => ?_)
      by_cases h2 : i < j ∧ gw G j = 2
      · rw [if_pos h2, if_neg (by omega), if_pos h2, Int.add_zero]
      · rw [if_neg h2, if_neg h2, Int.zero_add]
    · rw [if_neg (i_ne1 hw (by omega)), e_bs]
      unfold j_X11_timesLetter_77
      rw [e_weight h (by omega), e_bs, if_neg (i_ne1 hw (by omega)), e_bs, last _ _ hv]
      congr 1
      refine setI_congr (fun m hm => ?_)
      unfold TL
      rw [if_neg hw, Int.add_zero]
theorem TL_one {G : GD} (hG : GOK G) {a : Nat → Int} {i m : Nat} {y : Int} (hi : i < gn G) (hm : gw G m ≤ 1) : TL G a i y m = a m + if m = i then y else 0 := by
  unfold TL
  have h0 : ∀ j, tI G j i m = 0 := fun j => by
    unfold tI
    by_cases h1 : gt G j i m = 0
    · rw [h1]; rfl
    · have h2 := hG.2.2.2.2.2.2 j i m h1
      have h3 := (hG.2.2.1 i hi).1
      have h4 := (hG.2.2.1 j (by omega)).1
      omega
  have h1 : ∀ j k, tI G j i k * behind G a j i y k m = 0 := fun j k => by
    by_cases h2 : gt G j i k = 0
    · unfold tI; rw [h2]; exact Int.zero_mul _
    · have h3 := hG.2.2.2.2.2.2 j i k h2
      by_cases h4 : m ≤ k ∨ gn G ≤ m ∨ 2 < gw G k
      · exact behind_0 hG h4
      · have h5 := hG.2.2.2.1 k m (by omega) (by omega)
        have h6 := (hG.2.2.1 i hi).1
        have h7 := (hG.2.2.1 j (by omega)).1
        omega
  by_cases hw : gw G i = 1
  · rw [if_pos hw, sm_zero, Int.add_zero]
    intro j _
    unfold passOne
    rw [h0, sm_zero (fun k _ => h1 j k)]
    split
    · simp
    · split <;> simp
  · rw [if_neg hw, Int.add_zero]
theorem mulU_one {G : GD} (hG : GOK G) {a b : Nat → Int} {m : Nat} (hm : gw G m ≤ 1) : ∀ k, k ≤ gn G → mulU G a b k m = a m + if m < k then b m else 0 := by
  intro k
  induction k with
  | zero => intro _; rw [if_neg (Nat.not_lt_zero m), Int.add_zero]; rfl
  | succ k ih =>
    intro hk
    show TL G (mulU G a b k) k (b k) m = _
    rw [TL_one hG (by omega) hm, ih (by omega)]
    by_cases h1 : m = k
    · subst h1; rw [if_neg (Nat.lt_irrefl m), if_pos rfl, if_pos (Nat.lt_succ_self m), Int.add_zero]
    · rw [if_neg h1, Int.add_zero]
      by_cases h2 : m < k
      · rw [if_pos h2, if_pos (by omega)]
      · rw [if_neg h2, if_neg (by omega)]
/-- exponents of weight one that are small -/
def S30 (G : GD) (a : Nat → Int) : Prop := ∀ j, j < gn G → gw G j = 1 → -2 ^ 30 ≤ a j ∧ a j ≤ 2 ^ 30
theorem e_times {σ : Mem} {G : GD} (h : MG σ G) (hG : GOK G) {a b : Nat → Int} {s r : Nat} (hs : s < 100) (hr : r < 100) (hne : r ≠ s) (hv : ∀ i, i < 6 → vec σ s i = oi (a i)) (hu : ∀ i, i < 6 → vec σ r i = oi (b i)) (h0 : M0 σ) (ha : S30 G a) (hb : S30 G b) :
    f_X11_times σ (i32 s) (i32 r) = some (setI σ s (mul G a b)) := by
  have hn := hG.2.1
  unfold f_X11_times
  refine loop_at (fun k => (setI σ s (mulU G a b k), i32 k)) 0 (gn G) ?_ (Nat.zero_le _) (fun k _ hk => ?_) ?_
  · refine Prod.ext ?_ rfl
    exact setI_id hv
  · show l_X11_times_2 _ _ _ _ = _
    unfold l_X11_times_2
    rw [e_n (setI_MG h), e_bs, if_neg (i_nle hk (by omega)), e_of hr (by omega), e_bs, setI_ne (by omega) hne, hu k (by omega), e_timesLetter (setI_MG h) hG hs hk (fun i hi => setI_vec hi) h0.setI (fun hw => ?_) (fun j hj hj1 => ?_), e_bs, setI_setI, i32_1, i32_add]
    · rfl
    · have := hb k hk hw; exact ⟨by omega, by omega⟩
    · have h1 := ha j hj hj1
      have h2 := hb j hj hj1
      rw [mulU_one hG (by omega) k (by omega)]
      split <;> exact ⟨by omega, by omega⟩
  · show l_X11_times_2 _ _ _ _ = _
    unfold l_X11_times_2
    rw [e_n (setI_MG h), e_bs, if_pos (i_le (Nat.le_refl _) (by omega))]
    rfl
