/-! a letter's power, and products, by the reference -/
/-- a place that holds whole numbers -/
def setI (σ : Mem) (s : Nat) (a : Nat → Int) : Mem := setV σ s (fun i => oi (a i))
def M0 (σ : Mem) : Prop := ∀ m, m < 6 → σ.2 314 m = 0
theorem M0.more {σ : Mem} (h : M0 σ) : moreM σ (fun _ => 0) = σ := by
  unfold moreM
  have e : mrow σ (fun _ => 0) = σ.2 314 := by
    funext y
    unfold mrow
    split
    · rename_i hy; rw [h y hy]; rfl
    · rfl
  rw [e, rowL_id]
theorem M0.setI {σ : Mem} {s : Nat} {a : Nat → Int} (h : M0 σ) : M0 (setI σ s a) := fun m hm => (setV_2 (by omega)).trans (h m hm)
theorem setI_vec {σ : Mem} {s i : Nat} {a : Nat → Int} (h : i < 6) : vec (setI σ s a) s i = oi (a i) := setV_self h
theorem setI_ne {σ : Mem} {s r i : Nat} {a : Nat → Int} (h : i < 6) (hr : r ≠ s) : vec (setI σ s a) r i = vec σ r i := setV_ne h hr
theorem setI_congr {σ : Mem} {s : Nat} {a b : Nat → Int} (h : ∀ i, i < 6 → a i = b i) : setI σ s a = setI σ s b := setV_congr (fun i hi => by rw [h i hi])
theorem setI_setI {σ : Mem} {s : Nat} {a b : Nat → Int} : setI (setI σ s a) s b = setI σ s b := setV_setV
theorem setI_id {σ : Mem} {s : Nat} {a : Nat → Int} (h : ∀ i, i < 6 → vec σ s i = oi (a i)) : setI σ s a = σ := by
  unfold setI
  rw [setV_congr (u := vec σ s) (fun i hi => (h i hi).symm), setV_id]
theorem setI_MG {σ : Mem} {G : GD} {s : Nat} {a : Nat → Int} (h : MG σ G) : MG (setI σ s a) G := h
/-- the letters of weight two, first -/
def tlTwo (G : GD) (a : Nat → Int) (i : Nat) (y : Int) (m : Nat) : Int := a m + sm (fun j => if i < j ∧ gw G j = 2 then tI G j i m * (a j * y) else 0) (gn G)
theorem tI_0 {G : GD} (hG : GOK G) {j i m : Nat} (h : ¬ (i < j ∧ j < m ∧ m < gn G ∧ gw G i + gw G j ≤ gw G m)) : tI G j i m = 0 := by
  unfold tI
  by_cases h1 : gt G j i m = 0
  · rw [h1]; rfl
  · exact absurd (hG.2.2.2.2.2.2 j i m h1) h
/-- the letters of weight two do not move what is of weight two at most -/
theorem tlTwo_low {G : GD} (hG : GOK G) {a : Nat → Int} {i m : Nat} {y : Int} (hi : i < gn G) (hm : gw G m ≤ 2) : tlTwo G a i y m = a m := by
  unfold tlTwo
  rw [sm_zero, Int.add_zero]
  intro j _
  by_cases h : i < j ∧ gw G j = 2
  · rw [if_pos h, tI_0 hG (by have := (hG.2.2.1 i hi).1; omega), Int.zero_mul]
  · rw [if_neg h]
theorem e_tl21 {σ : Mem} {G : GD} (h : MG σ G) (hG : GOK G) {a : Nat → Int} {s i : Nat} {y : Int} (hs : s < 100) (hi : i < gn G) (hv : ∀ i, i < 6 → vec σ s i = oi (a i)) :
    loopO (fun (z22 : Mem × Int32) => l_X11_timesLetter_21 (i32 s) (i32 i) (oi y) z22.1 z22.2) (σ, i32 (i + 1)) = some (setI σ s (tlTwo G a i y)) := by
  have hn := hG.2.1
  -- where weight three begins
  have hend : ∃ e, i + 1 ≤ e ∧ e ≤ gn G ∧ (∀ q, i + 1 ≤ q → q < e → gw G q < 3) ∧ (∀ q, e ≤ q → q < gn G → 3 ≤ gw G q) := by
    have key : ∀ d b, d = gn G - b → b ≤ gn G → ∃ e, b ≤ e ∧ e ≤ gn G ∧ (∀ q, b ≤ q → q < e → gw G q < 3) ∧ (∀ q, e ≤ q → q < gn G → 3 ≤ gw G q) := by
      intro d
      induction d with
      | zero => intro b h1 h2; exact ⟨b, Nat.le_refl b, h2, fun q h4 h5 => by omega, fun q h4 h5 => by omega⟩
      | succ d ih =>
        intro b h1 h2
        by_cases hw : gw G b < 3
        · obtain ⟨e, e1, e2, e3, e4⟩ := ih (b + 1) (by omega) (by omega)
          refine ⟨e, by omega, e2, fun q h4 h5 => ?_, e4⟩
          by_cases h6 : q = b
          · rw [h6]; exact hw
          · exact e3 q (by omega) h5
        · refine ⟨b, Nat.le_refl b, h2, fun q h4 h5 => by omega, fun q h4 h5 => ?_⟩
          have h8 := hG.2.2.2.1 b q h4 h5
          omega
    exact key _ (i + 1) rfl (by omega)
  obtain ⟨e, e1, e2, e3, e4⟩ := hend
  generalize hf : (fun (m j : Nat) => if i < j ∧ gw G j = 2 then tI G j i m * (a j * y) else 0) = f
  have hfm : ∀ m j, f m j = if i < j ∧ gw G j = 2 then tI G j i m * (a j * y) else 0 := fun m j => by rw [← hf]
  refine loop_at (fun k => (setI σ s (fun m => a m + sm (f m) k), i32 k)) (i + 1) e ?_ e1 (fun j h1 h2 => ?_) ?_
  · rw [setI_id]
    · rfl
    · intro q hq
      rw [hv q hq, sm_zero (fun j hj => by rw [hfm, if_neg (by omega)]), Int.add_zero]
  · show l_X11_timesLetter_21 _ _ _ _ _ = _
    unfold l_X11_timesLetter_21
    have hw3 := e3 j h1 h2
    have hj0 : sm (f j) j = 0 := sm_zero (fun q hq => by
      rw [hfm]
      by_cases h5 : i < q ∧ gw G q = 2
      · rw [if_pos h5, tI_0 hG (by have := (hG.2.2.1 i hi).1; omega), Int.zero_mul]
      · rw [if_neg h5])
    rw [e_n (setI_MG h), e_bs, if_neg (i_nle (by omega) (by omega)), e_weight (setI_MG h) (by omega), e_bs, if_neg (show ¬ 3 ≤ i32 (gw G j) from i_nle (a := 3) (by omega) (by decide)), e_of hs (by omega), e_bs, setI_vec (by omega), e_weight (setI_MG h) (by omega), e_bs, hj0, Int.add_zero]
    by_cases hw : gw G j = 2
    · rw [hw, if_pos i32_2.symm, oi_mul, e_passesTwo (setI_MG h) hG hs (by omega) (by omega), e_bs, e_bs]
      unfold j_X11_timesLetter_71
      rw [i32_1, i32_add]
      have e9 : setV (setI σ s (fun m => a m + sm (f m) j)) s (pTwo G j i (oi (a j * y)) (vec (setI σ s (fun m => a m + sm (f m) j)) s)) = setI σ s (fun m => a m + sm (f m) (j + 1)) := by
        unfold setI
        rw [setV_setV]
        refine setV_congr (fun m hm => ?_)
        unfold pTwo
        have e8 : vec (setV σ s (fun i => oi (a i + sm (f i) j))) s m = oi (a m + sm (f m) j) := setV_self hm
        simp only [sm]
        by_cases h6 : j < m ∧ m < gn G
        · rw [if_pos h6, e8, oi_nat, oi_mul, oi_add, hfm, if_pos ⟨by omega, hw⟩]
          rw [Int.add_assoc]
        · rw [if_neg h6, e8, hfm, if_pos ⟨by omega, hw⟩, tI_0 hG (by omega), Int.zero_mul, Int.add_zero]
      rw [e9]
    · rw [if_neg (i_ne2 hw (by omega)), e_bs]
      unfold j_X11_timesLetter_71
      rw [i32_1, i32_add]
      have e9 : (fun m => a m + sm (f m) (j + 1)) = (fun m => a m + sm (f m) j) := by
        funext m
        simp only [sm]
        rw [hfm, if_neg (fun q => hw q.2), Int.add_zero]
      rw [e9]
  · show l_X11_timesLetter_21 _ _ _ _ _ = _
    unfold l_X11_timesLetter_21
    have e9 : setI σ s (fun m => a m + sm (f m) e) = setI σ s (tlTwo G a i y) := by
      refine setI_congr (fun m _ => ?_)
      unfold tlTwo
      rw [show (fun j => if i < j ∧ gw G j = 2 then tI G j i m * (a j * y) else 0) = f m by rw [← hf], sm_tail (f := f m) e2 (fun q h1 h2 => by rw [hfm, if_neg (fun h3 => by have := e4 q h1 h2; omega)])]
    rw [e_n (setI_MG h), e_bs]
    by_cases he : e = gn G
    · rw [if_pos (i_le (by omega) (by omega)), ← e9]
    · rw [if_neg (i_nle (by omega) (by omega)), e_weight (setI_MG h) (by omega), e_bs, if_pos (show 3 ≤ i32 (gw G e) from i_le (a := 3) (e4 e (Nat.le_refl e) (by omega)) (by have := (hG.2.2.1 e (by omega)).2; omega)), ← e9]
