/-! the first call on new objects -/
section ONE
variable {σ : Mem}
abbrev S00 : AS := ((kf 0 8, fun _ _ => 0), (0, 0, fun _ => 0), [], none, [], (0, -1))
def I1 (c : Nat) (σ : Mem) : Prop := c = 0 → OKS S00 ∧ ICls 0 S00 σ ∧ IRef S00 σ
theorem i1_ii : ∀ σ, I1 0 σ → II 0 σ := fun _ h => ⟨S00, (h rfl).1, (h rfl).2.1, (h rfl).2.2⟩
theorem i1_any : ∀ τ, I1 1 τ := fun _ h => absurd h (by decide)
theorem up_one : ∀ c σ, I1 c σ → I1 (c + 1) σ := fun _ _ _ h => absurd h (Nat.succ_ne_zero _)
theorem start_one : Start I1 := by
  have e0 : ∀ x y, x ≠ 144 → (wI zM 144 1 (-1)).1 x y = 0 := fun x y hx => by rw [wI_1, if_neg (fun q => hx q.1)]; rfl
  obtain ⟨σ1, e1, f1, m1⟩ := c_takeKind (σ := wI zM 144 1 (-1)) (κ := 0) (by omega)
  have hG : GOK (kf 0 8) := kf_ok (by omega) 8 (by omega)
  have g1 : ∀ x y, x ≠ 2 → x ≠ 3 → x ≠ 4 → x ≠ 144 → σ1.1 x y = 0 := fun x y h1 h2 h3 h4 => by rw [f1.2 x h1 h2 h3]; exact e0 x y h4
  have no41 : ¬ CG σ1 41 (kf 0 8) := fun z => by
    have := z.1
    rw [g1 41 0 (by omega) (by omega) (by omega) (by omega), kf_0] at this
    exact absurd this (by decide)
  obtain ⟨σ2, e2, f2, m2, l2, hed⟩ := c_follow (σ := σ1) hG m1 (ed := 0) (g1 40 4 (by omega) (by omega) (by omega) (by omega)) (fun z => absurd z no41)
  have hed2 : σ2.1 40 4 = i32 1 := by
    rcases hed with rfl | h
    · exact absurd m2 no41
    · exact h
  have g2 : ∀ x y, (x < 2 ∨ (5 ≤ x ∧ x < 35) ∨ (128 ≤ x ∧ x ≠ 144)) → σ2.1 x y = 0 := fun x y hx => by
    rw [(f2 x (by omega)).1]
    exact g1 x y (by omega) (by omega) (by omega) (by omega)
  have g2L : ∀ x y, x < 35 ∨ 128 ≤ x → σ2.2 x y = 0 := fun x y hx => by
    rw [(f2 x (by omega)).2, f1.1]
    rfl
  have h144 : σ2.1 144 0 = 0 ∧ σ2.1 144 1 = -1 := by
    rw [(f2 144 (by omega)).1, f1.2 144 (by omega) (by omega) (by omega)]
    exact ⟨by rw [wI_1, if_neg (by omega)]; rfl, by rw [wI_1, if_pos ⟨rfl, rfl⟩]⟩
  have m22 : CG σ2 2 (kf 0 8) := by
    unfold CG
    rw [(f2 2 (by omega)).1, (f2 (2 + 1) (by omega)).1, (f2 (2 + 2) (by omega)).1]
    exact m1
  have tl : ∀ x, x < 306 → (wI (wI (trim σ2 306) 306 20 (-1)) 306 24 (-1)).1 x = σ2.1 x ∧ (wI (wI (trim σ2 306) 306 20 (-1)) 306 24 (-1)).2 x = σ2.2 x := fun x hx => by
    constructor
    · funext y
      rw [wI_1, if_neg (by omega), wI_1, if_neg (by omega)]
      exact if_pos hx
    · funext y
      exact if_pos hx
  have th : ∀ x y, 306 < x ∨ (x = 306 ∧ y ≠ 20 ∧ y ≠ 24) → (wI (wI (trim σ2 306) 306 20 (-1)) 306 24 (-1)).1 x y = 0 := fun x y hx => by
    rw [wI_1, if_neg (by omega), wI_1, if_neg (by omega)]
    exact if_neg (by omega)
  have thL : ∀ x y, 306 ≤ x → (wI (wI (trim σ2 306) 306 20 (-1)) 306 24 (-1)).2 x y = 0 := fun x y hx => if_neg (by omega)
  have t20 : (wI (wI (trim σ2 306) 306 20 (-1)) 306 24 (-1)).1 306 20 = -1 := by rw [wI_1, if_neg (by omega), wI_1, if_pos ⟨rfl, rfl⟩]
  obtain ⟨σ3, e3, f3, n9, rb⟩ := r_plain (σ := wI (wI (trim σ2 306) 306 20 (-1)) 306 24 (-1))
  have lo : ∀ x, x < 306 → σ3.1 x = σ2.1 x ∧ σ3.2 x = σ2.2 x := fun x hx => ⟨by rw [(f3.lo x hx).1, (tl x hx).1], by rw [(f3.lo x hx).2, (tl x hx).2]⟩
  refine ⟨σ1, σ2, σ3, e1, e2, e3, fun _ => ⟨?_, ?_, ?_⟩⟩
  · exact ⟨⟨hG, fun _ _ => ⟨by show (-999 : Int) ≤ 0; omega, by show (0 : Int) ≤ 999; omega⟩, fun _ _ _ => rfl⟩, Nat.zero_le _, ⟨Nat.zero_le _, fun X hX => (nil_mem X hX).elim⟩, fun Y hY => (none_some Y hY).elim, Nat.zero_le _, fun x hx => (nil_mem x hx).elim⟩
  · have z0 : ∀ x y, (x < 2 ∨ (5 ≤ x ∧ x < 35) ∨ (128 ≤ x ∧ x ≠ 144)) → x < 306 → σ3.1 x y = 0 := fun x y h1 h2 => by rw [(lo x h2).1]; exact g2 x y h1
    refine ⟨⟨?_, fun r i hr hi => ?_⟩, ⟨z0 16 0 (by omega) (by omega), z0 16 1 (by omega) (by omega), fun i hi => absurd hi (Nat.not_lt_zero i)⟩, ⟨z0 0 4 (by omega) (by omega), 0, by omega, z0 0 5 (by omega) (by omega), fun j X hj => (nil_get j X hj).elim⟩, ⟨z0 0 2 (by omega) (by omega), fun y hy => (none_some y hy).elim⟩, ⟨z0 0 7 (by omega) (by omega), fun p x hp => (nil_get p x hp).elim⟩, ⟨by rw [(lo 144 (by omega)).1]; exact h144.1, by rw [(lo 144 (by omega)).1]; exact h144.2⟩, ?_⟩
    · unfold CG
      rw [(lo (1 + 1) (by omega)).1, (lo (1 + 1 + 1) (by omega)).1, (lo (1 + 1 + 2) (by omega)).1]
      exact m22
    · rw [(lo (1 + 5 + r) (by omega)).2, g2L (1 + 5 + r) i (by omega)]
      rfl
    · refine ⟨?_, l2.eqs (by rw [(lo 40 (by omega)).1]) (fun x h1 h2 => lo x (by omega)), 1, 0, by rw [(lo 40 (by omega)).1]; exact hed2, z0 128 2 (by omega) (by omega), by omega, by omega, fun q => by omega⟩
      unfold CG
      rw [(lo 41 (by omega)).1, (lo (41 + 1) (by omega)).1, (lo (41 + 2) (by omega)).1]
      exact m2
  · have k : ∀ c, c ≠ 9 → c ≠ 20 → c ≠ 24 → σ3.1 306 c = 0 := fun c h1 h2 h3 => by rw [f3.2.2 c h1]; exact th 306 c (by omega)
    refine ⟨rb, ⟨k 4 (by omega) (by omega) (by omega), k 27 (by omega) (by omega) (by omega), fun i hi => absurd hi (Nat.not_lt_zero i)⟩, ⟨k 3 (by omega) (by omega) (by omega), fun j X hj => (nil_get j X hj).elim⟩, ⟨k 37 (by omega) (by omega) (by omega), fun y hy => (none_some y hy).elim⟩, ⟨k 18 (by omega) (by omega) (by omega), fun p x hp => (nil_get p x hp).elim⟩, ⟨k 19 (by omega) (by omega) (by omega), by rw [f3.2.2 20 (by omega)]; exact t20⟩, ⟨false, n9, fun q => by cases q⟩, fun m hm => by rw [f3.1]; exact thL 314 m (by omega)⟩
theorem s00_3 : cwN (kf 0 8) 3 (gn (kf 0 8)) = 0 := by decide +kernel
theorem w_30 : (-30 : Int64) ≤ oi 0 ∧ oi 0 ≤ (30 : Int64) := by decide +kernel
theorem one_25 : ∀ (c : Nat) (σ : Mem) (x0 : Int32) (x1 : Int32), c < 1 → I1 c σ → ∃ (r : Int32) (σ1 : Mem) (σ2 : Mem), f_X10_alike σ x0 x1 = some (r, σ1) ∧ f_X11_alike σ1 x0 x1 = some (r, σ2) ∧ I1 (c + 1) σ2 := by
  intro c σ x y hc hI
  have hc0 : c = 0 := by omega
  subst hc0
  obtain ⟨ok, h, hr⟩ := hI rfl
  have hG : GOK (aG S00) := ok.1.1
  obtain ⟨b, hb, hB⟩ := c_cons h
  have cls : ∃ σ1, f_X10_alike σ x y = some (if (isReg x && (isReg y && b)) = true then 1 else -1, σ1) ∧ SC σ σ1 := by
    unfold f_X10_alike
    rw [c_areUsable hb, e_bs]
    cases hu : (isReg x && (isReg y && b)) with
    | false => exact ⟨σ, by rw [if_neg (by decide), if_neg (by decide)], SC.refl⟩
    | true =>
      rw [Bool.and_eq_true, Bool.and_eq_true] at hu
      obtain ⟨p, hp, rfl⟩ := isReg_idx hu.1
      obtain ⟨q, hq, rfl⟩ := isReg_idx hu.2.1
      rw [if_pos rfl, e_gR ln_5 hp (by omega), rf_5 hp, e_gR ln_5 hq (by omega), rf_5 hq]
      have e1 : f_X0_isWithin σ (6 + p) 30 = some true := c_isWithin (ln_reg hp) (c_reg h hp) ⟨fun _ k _ => w_30, fun _ => rfl⟩
      have e2 : f_X0_isWithin σ (6 + q) 30 = some true := c_isWithin (ln_reg hq) (c_reg h hq) ⟨fun _ k _ => w_30, fun _ => rfl⟩
      rw [e1, e_bs, if_pos rfl, e2, e_bs]
      obtain ⟨τ, e3, s3⟩ := z_areConjugates h ok (hB.mp hu.2.2) hp hq rfl rfl s00_3
      rw [if_pos rfl, e3, e_bq, c_bitB, e_bs]
      exact ⟨τ, rfl, s3⟩
  obtain ⟨σ1, e1, s1⟩ := cls
  have hr1 : IRef S00 σ1 := hr.hi s1.hi
  have ref : ∃ σ2, f_X11_alike σ1 x y = some (if (isReg x && (isReg y && b)) = true then 1 else -1, σ2) := by
    unfold f_X11_alike
    rw [e_pF, r_isReg, e_bs]
    cases hx : isReg x with
    | false => exact ⟨_, by rw [if_neg (by decide), Bool.false_and, if_neg (by decide)]⟩
    | true =>
      rw [if_pos rfl, r_isReg, e_bs]
      cases hy : isReg y with
      | false => exact ⟨_, by rw [if_neg (by decide), Bool.false_and, Bool.and_false, if_neg (by decide)]⟩
      | true =>
        obtain ⟨b3, τ, e3, q3, l3, _, _, hc3⟩ := r_cons hr1.told ok
        rw [if_pos rfl, e3, e_bq]
        have hbb : b3 = b := Bool.eq_iff_iff.mpr (hc3.trans hB.symm)
        cases hb3 : b3 with
        | false =>
          rw [← hbb, hb3]
          exact ⟨τ, by rw [if_neg (by decide)]; rfl⟩
        | true =>
          rw [← hbb, hb3]
          have hJ := Cons.jac hG (hc3.mp hb3)
          obtain ⟨p, hp, rfl⟩ := isReg_idx hx
          obtain ⟨q, hq, rfl⟩ := isReg_idx hy
          obtain ⟨⟨f, hf⟩, hI, hL, hM, h0, hRB⟩ := at_slots q3
          have a1 : f_X11_laysRegister τ 0 (i32 p) = some (PS τ (uS f 0 (aR S00 p))) := by
            have := p_lays (σ := τ) (f := f) hRB ok (s := 0) (by omega) hp
            rw [hf] at this
            exact this
          have a2 : f_X11_laysRegister (PS τ (uS f 0 (aR S00 p))) 1 (i32 q) = some (PS τ (uS (uS f 0 (aR S00 p)) 1 (aR S00 q))) := p_lays (σ := τ) (f := uS f 0 (aR S00 p)) hRB ok (s := 1) (by omega) hq
          rw [if_pos rfl, a1, e_bs, a2, e_bs]
          have v0 : uS (uS f 0 (aR S00 p)) 1 (aR S00 q) 0 = fun _ => 0 := by rw [uS_ne (by omega), uS_self]
          have v1 : uS (uS f 0 (aR S00 p)) 1 (aR S00 q) 1 = fun _ => 0 := uS_self
          generalize uS (uS f 0 (aR S00 p)) 1 (aR S00 q) = g at v0 v1 ⊢
          obtain ⟨x, e4, hxx⟩ := r_in30 (σ := τ) (f := g) hG hM (by rw [v0]; exact fun i => ⟨by show (-999 : Int) ≤ 0; omega, by show (0 : Int) ≤ 999; omega⟩) (by rw [v1]; exact fun i => ⟨by show (-999 : Int) ≤ 0; omega, by show (0 : Int) ≤ 999; omega⟩)
          rw [e4, e_bs]
          rcases hxx with ⟨rfl, hA, hY⟩ | ⟨rfl, hn⟩
          · obtain ⟨τ2, e5, fr⟩ := r_areAlikeO (σ := τ) (f := g) hG hJ hM h0 v0 v1
            show ∃ τ', j_X11_alike_99 (PS τ g) = some (_, τ')
            unfold j_X11_alike_99
            rw [e5, e_bq]
            exact ⟨τ2, rfl⟩
          · refine absurd (fun i _ => ?_) hn
            rw [v0, v1]
            exact ⟨⟨by show (-30 : Int) ≤ 0; omega, by show (0 : Int) ≤ 30; omega⟩, by show (-30 : Int) ≤ 0; omega, by show (0 : Int) ≤ 30; omega⟩
  obtain ⟨σ2, e2⟩ := ref
  exact ⟨_, σ1, σ2, e1, e2, i1_any σ2⟩
end ONE
