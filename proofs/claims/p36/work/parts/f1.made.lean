/-! the reference: what tails make -/
section MDE
variable {σ : Mem} {G : GD}
/-- all tails as columns -/
def TF (G : GD) (c : Nat) : Nat → Int := fun k => (gt G (c / 6) (c % 6) k : Int)
/-- one column more -/
def adC (C : Nat → Nat → Int) (m : Nat) (v : Nat → Int) : Nat → Nat → Int := fun c => if c = m then v else C c
theorem adC_m {C : Nat → Nat → Int} {m : Nat} {v : Nat → Int} : adC C m v m = v := if_pos rfl
theorem adC_n {C : Nat → Nat → Int} {m c : Nat} {v : Nat → Int} (h : c ≠ m) : adC C m v c = C c := if_neg h
/-- made of tails -/
def InT (G : GD) (v : Nat → Int) : Prop := Spn (fun j => j < 6) (TF G) 36 v
theorem TF_at {j i : Nat} (hi : i < 6) : TF G (6 * j + i) = fun k => (gt G j i k : Int) := by
  funext k
  unfold TF
  rw [show (6 * j + i) / 6 = j by omega, show (6 * j + i) % 6 = i by omega]
theorem gt_z {j i k : Nat} (hG : GOK G) (h : ¬ (i < j ∧ j < k ∧ k < gn G ∧ gw G i + gw G j ≤ gw G k)) : gt G j i k = 0 := Classical.byContradiction (fun q => h (hG.2.2.2.2.2.2 j i k q))
theorem InT.one {v : Nat → Int} (hG : GOK G) (h : InT G v) {k : Nat} (hk : k < gn G) (h1 : gw G k = 1) : v k = 0 := by
  obtain ⟨z, hz⟩ := h
  have hn := hG.2.1
  rw [hz k (by omega)]
  refine cb_zero 36 (fun c _ => ?_)
  have e : TF G c k = 0 := by
    unfold TF
    rw [gt_z hG (fun q => by
      have a1 := (hG.2.2.1 (c % 6) (by omega)).1
      have a2 := (hG.2.2.1 (c / 6) (by omega)).1
      omega)]
    rfl
  rw [e, Int.mul_zero]
theorem InT.congr {v u : Nat → Int} (h : InT G v) (e : ∀ k, k < 6 → u k = v k) : InT G u := Spn.congr h e
/-- what making of tails changes -/
def FCq (σ τ : Mem) : Prop := (∀ x, x ≠ 306 → τ.1 x = σ.1 x) ∧ (∀ c, c ≠ 31 → c ≠ 33 → c ≠ 34 → τ.1 306 c = σ.1 306 c) ∧ ∀ x, x ≠ 320 → x ≠ 321 → τ.2 x = σ.2 x
theorem FCq.refl : FCq σ σ := ⟨fun _ _ => rfl, fun _ _ _ _ => rfl, fun _ _ _ => rfl⟩
theorem FCq.trans {τ υ : Mem} (h : FCq σ τ) (k : FCq τ υ) : FCq σ υ := ⟨fun x h1 => (k.1 x h1).trans (h.1 x h1), fun c h1 h2 h3 => (k.2.1 c h1 h2 h3).trans (h.2.1 c h1 h2 h3), fun x h1 h2 => (k.2.2 x h1 h2).trans (h.2.2 x h1 h2)⟩
theorem FCm.cq {τ : Mem} (h : FCm σ τ) : FCq σ τ := ⟨h.1, fun c _ h2 h3 => h.2.1 c h2 h3, h.2.2⟩
theorem FCq.fld {v : Int32} : FCq σ (wI σ 306 31 v) := ⟨fun x hx => by funext y; rw [wI_1, if_neg (fun q => hx q.1)], fun c hc _ _ => by rw [wI_1, if_neg (fun q => hc q.2)], fun _ _ _ => rfl⟩
theorem FCq.row {a : Nat} {f : Nat → Int64} (h : a = 320 ∨ a = 321) : FCq σ (rwL σ a f) := ⟨fun _ _ => rfl, fun _ _ _ _ => rfl, fun x h1 h2 => rwL_x (by omega)⟩
theorem MG.cq {τ : Mem} (h : MG σ G) (f : FCq σ τ) : MG τ G := by
  unfold MG
  rw [f.1 307 (by omega)]
  exact h
theorem FCq.sr {τ : Mem} (f : FCq σ τ) : SR σ τ := ⟨fun x hx => ⟨f.1 x (by omega), f.2.2 x (by omega) (by omega)⟩, fun x hx => f.1 x (by omega), fun c hc => f.2.1 c (by omega) (by omega) (by omega), f.2.2 312 (by omega) (by omega), fun m _ => by rw [f.2.2 314 (by omega) (by omega)]⟩
theorem r_addsTail {C : Nat → Nat → Int} {m j i : Nat} (hG : GOK G) (hM : MG σ G) (hm : m < 20) (hj : j < 6) (hi : i < 6) (hC : Cl σ C m) (h31 : σ.1 306 31 = i32 m) : ∃ τ, f_X11_addsTail σ (i32 j) (i32 i) = some τ ∧ FCq σ τ ∧ τ.1 306 31 = i32 (m + 1) ∧ Cl τ (adC C m (fun k => (gt G j i k : Int))) (m + 1) := by
  have hn := hG.2.1
  have e1 : loopO (fun (z5 : (Mem × Int32)) => l_X11_addsTail_2 (i32 j) (i32 i) z5.1 z5.2) (σ, 0) = some (rwL σ 320 (fun y => if 18 * m ≤ y ∧ y < 18 * m + 18 then oi (gt G j i (y - 18 * m) : Nat) else σ.2 320 y)) := by
    refine loop_at (body := fun (z5 : (Mem × Int32)) => l_X11_addsTail_2 (i32 j) (i32 i) z5.1 z5.2) (fun k => (rwL σ 320 (fun y => if 18 * m ≤ y ∧ y < 18 * m + k then oi (gt G j i (y - 18 * m) : Nat) else σ.2 320 y), i32 k)) 0 18 ?_ (by omega) (fun k _ hk => ?_) ?_
    · exact Prod.ext (rwL_id (fun y => if_neg (by omega))) rfl
    · show l_X11_addsTail_2 (i32 j) (i32 i) (rwL σ 320 (fun y => if 18 * m ≤ y ∧ y < 18 * m + k then oi (gt G j i (y - 18 * m) : Nat) else σ.2 320 y)) (i32 k) = _
      unfold l_X11_addsTail_2
      have hM' : MG (rwL σ 320 (fun y => if 18 * m ≤ y ∧ y < 18 * m + k then oi (gt G j i (y - 18 * m) : Nat) else σ.2 320 y)) G := hM
      have g31 : (rwL σ 320 (fun y => if 18 * m ≤ y ∧ y < 18 * m + k then oi (gt G j i (y - 18 * m) : Nat) else σ.2 320 y)).1 306 31 = i32 m := h31
      have hval : ((if i32 k ≤ i32 j then (some (Sum.inl ())) else ((f_X11_n (rwL σ 320 (fun y => if 18 * m ≤ y ∧ y < 18 * m + k then oi (gt G j i (y - 18 * m) : Nat) else σ.2 320 y))).bind (fun (v9 : Int32) => if v9 ≤ i32 k then (some (Sum.inl ())) else ((f_X11_tail (rwL σ 320 (fun y => if 18 * m ≤ y ∧ y < 18 * m + k then oi (gt G j i (y - 18 * m) : Nat) else σ.2 320 y)) (i32 j) (i32 i) (i32 k)).bind (fun (v10 : Int32) => some (Sum.inr (Int32.toInt64 v10)))))) : Option (Unit ⊕ Int64)).bind (Sum.elim (fun (z8 : Unit) => j_X11_addsTail_45) some) : Option Int64) = some (oi (gt G j i k : Nat)) := by
        by_cases h1 : k ≤ j
        · rw [if_pos (i_le h1 (by omega)), e_bs, gt_z hG (by omega)]
          rfl
        · rw [if_neg (i_nle (by omega) (by omega)), e_n hM', e_bs]
          by_cases h2 : gn G ≤ k
          · rw [if_pos (i_le h2 (by omega)), e_bs, gt_z hG (by omega)]
            rfl
          · have h3 := hG.2.2.2.2.2.1 j i k
            rw [if_neg (i_nle (by omega) (by omega)), e_tail hM' hj hi (by omega), e_bs, e_bs, n64 (by omega)]
            rfl
      rw [i32_18, if_neg (i_nle hk (by omega)), e_gF, g31, hval, e_bs]
      unfold j_X11_addsTail_46
      rw [i32_18, i32_mul, i32_add, e_pL ln_320 (by omega) (by omega), rwL_w, i32_1, i32_add]
      refine congrArg (fun τ => some (Sum.inl (τ, i32 (k + 1)))) (rwL_congr (fun y => ?_))
      by_cases hy : y = 18 * m + k
      · rw [if_pos hy, if_pos (by omega), hy, show 18 * m + k - 18 * m = k by omega]
      · rw [if_neg hy]
        by_cases h2 : 18 * m ≤ y ∧ y < 18 * m + k
        · rw [if_pos h2, if_pos (by omega)]
        · rw [if_neg h2, if_neg (by omega)]
    · show l_X11_addsTail_2 (i32 j) (i32 i) _ (i32 18) = _
      unfold l_X11_addsTail_2
      rw [if_pos (by decide)]
  unfold f_X11_addsTail
  rw [e1, e_bs]
  unfold j_X11_addsTail_53
  have g31 : (rwL σ 320 (fun y => if 18 * m ≤ y ∧ y < 18 * m + 18 then oi (gt G j i (y - 18 * m) : Nat) else σ.2 320 y)).1 306 31 = i32 m := h31
  rw [e_gF, g31, e_pF, i32_1, i32_add]
  refine ⟨_, rfl, (FCq.row (by omega)).trans FCq.fld, by rw [wI_1, if_pos ⟨rfl, rfl⟩], fun c k hc hk => ?_⟩
  refine (rwL_a (σ := σ) (a := 320) (f := fun y => if 18 * m ≤ y ∧ y < 18 * m + 18 then oi (gt G j i (y - 18 * m) : Nat) else σ.2 320 y) (y := 18 * c + k)).trans ?_
  show (if 18 * m ≤ 18 * c + k ∧ 18 * c + k < 18 * m + 18 then oi (gt G j i (18 * c + k - 18 * m) : Nat) else σ.2 320 (18 * c + k)) = _
  by_cases hcm : c = m
  · rw [if_pos (by omega), hcm, adC_m, show 18 * m + k - 18 * m = k by omega]
  · rw [if_neg (by omega), adC_n hcm]
    exact hC c k (by omega) hk
/-- so many columns at most, ahead of a letter's -/
def tbC : Nat → Nat
  | 0 => 0
  | i + 1 => tbC i + (5 - i)
theorem tbC_le {i : Nat} (h : i ≤ 6) : tbC i ≤ 15 := by
  rcases (show i = 0 ∨ i = 1 ∨ i = 2 ∨ i = 3 ∨ i = 4 ∨ i = 5 ∨ i = 6 by omega) with q | q | q | q | q | q | q <;> subst q <;> decide
/-- columns that are tails, of all pairs met -/
def TCs (G : GD) (C : Nat → Nat → Int) (m : Nat) (P : Nat → Nat → Prop) : Prop := (∀ c, c < m → ∃ j i, j < 6 ∧ i < 6 ∧ C c = fun k => (gt G j i k : Int)) ∧ ∀ j i, P j i → ∃ c, c < m ∧ C c = fun k => (gt G j i k : Int)
theorem r_tails {P : Nat → Nat → Prop} (hG : GOK G) (hM : MG σ G) (h31 : σ.1 306 31 = 0) (hP : ∀ j i, P j i → i < j ∧ j < gn G) : ∃ τ C m, loopO (fun (z13 : (Mem × Int32)) => l_X11_isMade_45 z13.1 z13.2) (σ, 0) = some τ ∧ FCq σ τ ∧ τ.1 306 31 = i32 m ∧ m ≤ 15 ∧ Cl τ C m ∧ TCs G C m P := by
  have hn := hG.2.1
  have hl := loop_inv (body := fun (z13 : (Mem × Int32)) => l_X11_isMade_45 z13.1 z13.2) (fun n z => ∃ i τ C m, i ≤ gn G ∧ n = gn G - i ∧ z = (τ, i32 i) ∧ FCq σ τ ∧ τ.1 306 31 = i32 m ∧ m ≤ tbC i ∧ Cl τ C m ∧ TCs G C m (fun j e => e < i ∧ e < j ∧ j < gn G)) (fun τ => ∃ C m, FCq σ τ ∧ τ.1 306 31 = i32 m ∧ m ≤ 15 ∧ Cl τ C m ∧ TCs G C m P) ?_ (gn G) (σ, 0) ⟨0, σ, fun _ _ => 0, 0, by omega, rfl, rfl, FCq.refl, h31, Nat.le_refl _, fun c j hc _ => absurd hc (Nat.not_lt_zero _), fun c hc => absurd hc (Nat.not_lt_zero _), fun j e q => absurd q.1 (Nat.not_lt_zero _)⟩
  · obtain ⟨τ, e, C, m, h1, h2, h3, h4, h5⟩ := hl
    exact ⟨τ, C, m, e, h1, h2, h3, h4, h5⟩
  · rintro n z ⟨i, τ, C, m, hi, rfl, rfl, fr, hm, hmt, hC, hT⟩
    have hMτ := hM.cq fr
    by_cases hin : i = gn G
    · right
      subst hin
      have := tbC_le (i := gn G) (by omega)
      refine ⟨τ, ?_, C, m, fr, hm, by omega, hC, hT.1, fun j e q => hT.2 j e (by have := hP j e q; omega)⟩
      show l_X11_isMade_45 τ (i32 (gn G)) = _
      unfold l_X11_isMade_45
      rw [e_n hMτ, e_bs, if_pos (i_le (Nat.le_refl _) (by omega))]
    · left
      have hl2 := loop_inv (body := fun (z18 : (Mem × Int32)) => l_X11_isMade_58 (i32 i) z18.1 z18.2) (fun n z => ∃ j τ2 C m, i < j ∧ j ≤ gn G ∧ n = gn G - j ∧ z = (τ2, i32 j) ∧ FCq σ τ2 ∧ τ2.1 306 31 = i32 m ∧ m ≤ tbC i + (j - i - 1) ∧ Cl τ2 C m ∧ TCs G C m (fun y e => (e < i ∧ e < y ∧ y < gn G) ∨ (e = i ∧ i < y ∧ y < j))) (fun τ2 => ∃ C m, FCq σ τ2 ∧ τ2.1 306 31 = i32 m ∧ m ≤ tbC (i + 1) ∧ Cl τ2 C m ∧ TCs G C m (fun y e => e < i + 1 ∧ e < y ∧ y < gn G)) ?_ (gn G - (i + 1)) (τ, i32 (i + 1)) ⟨i + 1, τ, C, m, by omega, by omega, rfl, rfl, fr, hm, by omega, hC, hT.1, fun y e q => hT.2 y e (by omega)⟩
      · obtain ⟨τ2, e2, C2, m2, b1, b2, b3, b4, b5⟩ := hl2
        refine ⟨(τ2, i32 (i + 1)), gn G - (i + 1), by omega, ?_, i + 1, τ2, C2, m2, by omega, rfl, rfl, b1, b2, b3, b4, b5⟩
        show l_X11_isMade_45 τ (i32 i) = _
        unfold l_X11_isMade_45
        rw [e_n hMτ, e_bs, if_neg (i_nle (by omega) (by omega)), e_bd, i32_1, i32_add, e2, e_bs]
        unfold j_X11_isMade_80
        rw [i32_1, i32_add]
      · rintro n z ⟨j, τ2, C, m, hij, hj, rfl, rfl, fr2, hm2, hmt2, hC2, hT2⟩
        have hM2 := hM.cq fr2
        have hti := tbC_le (i := i) (by omega)
        by_cases hjn : j = gn G
        · right
          subst hjn
          refine ⟨τ2, ?_, C, m, fr2, hm2, ?_, hC2, hT2.1, fun y e q => hT2.2 y e (by omega)⟩
          · show l_X11_isMade_58 (i32 i) τ2 (i32 (gn G)) = _
            unfold l_X11_isMade_58
            rw [e_n hM2, e_bs, if_pos (i_le (Nat.le_refl _) (by omega))]
          · show m ≤ tbC i + (5 - i)
            omega
        · left
          obtain ⟨τ3, e3, f3, k3, c3⟩ := r_addsTail (σ := τ2) (j := j) (i := i) hG hM2 (m := m) (by omega) (by omega) (by omega) hC2 hm2
          refine ⟨(τ3, i32 (j + 1)), gn G - (j + 1), by omega, ?_, j + 1, τ3, _, m + 1, by omega, by omega, rfl, rfl, fr2.trans f3, k3, by omega, c3, fun c hc => ?_, fun y e q => ?_⟩
          · show l_X11_isMade_58 (i32 i) τ2 (i32 j) = _
            unfold l_X11_isMade_58
            rw [e_n hM2, e_bs, if_neg (i_nle (by omega) (by omega)), e3, e_bs, i32_1, i32_add]
          · by_cases hcm : c = m
            · exact ⟨j, i, by omega, by omega, by rw [hcm, adC_m]⟩
            · obtain ⟨a, b, a1, a2, a3⟩ := hT2.1 c (by omega)
              exact ⟨a, b, a1, a2, by rw [adC_n hcm]; exact a3⟩
          · by_cases hq : e = i ∧ y = j
            · exact ⟨m, by omega, by rw [adC_m, hq.1, hq.2]⟩
            · obtain ⟨c, c1, c2⟩ := hT2.2 y e (by omega)
              exact ⟨c, by omega, by rw [adC_n (by omega)]; exact c2⟩
end MDE
