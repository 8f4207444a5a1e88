/-! powers read by both -/
section PWR
variable {σ : Mem} {G : GD} {R : Nat → Nat → Int} {w : List Nat}
def PwS (w : List Nat) (p : Nat) (m : Bool) (q3 : Nat) : Prop := ∃ q1 q2, Sk w p q1 ∧ sn w q1 = 94 ∧ q1 < w.length ∧ Sk w (q1 + 1) q2 ∧ ((sn w q2 = 45 ∧ m = true ∧ q2 < w.length ∧ Sk w (q2 + 1) q3) ∨ (sn w q2 ≠ 45 ∧ m = false ∧ q3 = q2))
theorem PwS.range {p : Nat} {m : Bool} {q3 : Nat} (h : PwS w p m q3) : p < q3 ∧ q3 ≤ w.length ∧ sn w q3 ≠ 32 := by
  obtain ⟨q1, q2, h1, h2, h3, h4, h5⟩ := h
  have a1 := h1.1
  have a4 := h4.1
  rcases h5 with ⟨_, _, _, h6⟩ | ⟨_, _, rfl⟩
  · have a6 := h6.1
    exact ⟨by omega, h6.2.1, h6.2.2.2⟩
  · exact ⟨by omega, h4.2.1, h4.2.2.2⟩
theorem Pw_cases {p : Nat} (hp : p ≤ w.length) : (∃ q1, Sk w p q1 ∧ sn w q1 ≠ 94) ∨ ∃ m q3, PwS w p m q3 := by
  obtain ⟨q1, h1⟩ := Sk_ex w (w.length - p) p hp (Nat.le_refl _)
  by_cases h2 : sn w q1 = 94
  · have h3 := sn_lt h2 (by decide)
    obtain ⟨q2, h4⟩ := Sk_ex w (w.length - (q1 + 1)) (q1 + 1) (by omega) (Nat.le_refl _)
    by_cases h5 : sn w q2 = 45
    · have h6 := sn_lt h5 (by decide)
      obtain ⟨q3, h7⟩ := Sk_ex w (w.length - (q2 + 1)) (q2 + 1) (by omega) (Nat.le_refl _)
      exact Or.inr ⟨true, q3, q1, q2, h1, h2, h3, h4, Or.inl ⟨h5, rfl, h6, h7⟩⟩
    · exact Or.inr ⟨false, q2, q1, q2, h1, h2, h3, h4, Or.inr ⟨h5, rfl, rfl⟩⟩
  · exact Or.inl ⟨q1, h1, h2⟩
theorem c_powerA {a p q1 : Nat} (h : CTx σ w) (h9 : σ.1 144 9 = i32 p) (h1 : Sk w p q1) (h2 : sn w q1 ≠ 94) : f_X5_readPower σ a = some (true, wI σ 144 9 (i32 q1)) := by
  unfold f_X5_readPower
  rw [c_skip h h9 h1, e_bq, if_neg h2]
theorem c_powerS {a p q3 : Nat} {m : Bool} (h : CTx σ w) (h9 : σ.1 144 9 = i32 p) (hs : PwS w p m q3) : f_X5_readPower σ a = if isDg (sn w q3) = true then (loopO (fun (z28 : (Mem × Int32 × Int32)) => l_X5_readPower_81 z28.1 z28.2.1 z28.2.2) (wI σ 144 9 (i32 q3), 0, 0) : Option (Mem × Int32)).bind (fun (z14 : (Mem × Int32)) => j_X5_readPower_135 a m (i32 q3) z14.1 z14.2) else some (false, wI (wI (wI σ 144 9 (i32 q3)) 144 0 1) 144 1 (i32 q3)) := by
  obtain ⟨q1, q2, h1, h2, h3, h4, h5⟩ := hs
  have g : ∀ t, (wI σ 144 9 (i32 t)).1 144 9 = i32 t := fun t => by rw [wI_1, if_pos ⟨rfl, rfl⟩]
  have tail : ∀ t, Sk w t q3 → j_X5_readPower_50 a m (wI σ 144 9 (i32 t)) = if isDg (sn w q3) = true then (loopO (fun (z28 : (Mem × Int32 × Int32)) => l_X5_readPower_81 z28.1 z28.2.1 z28.2.2) (wI σ 144 9 (i32 q3), 0, 0) : Option (Mem × Int32)).bind (fun (z14 : (Mem × Int32)) => j_X5_readPower_135 a m (i32 q3) z14.1 z14.2) else some (false, wI (wI (wI σ 144 9 (i32 q3)) 144 0 1) 144 1 (i32 q3)) := by
    intro t ht
    unfold j_X5_readPower_50
    rw [c_skip h.at (g t) ht, e_bq, wI_wI, c_isDigit, e_bs, e_gF, g]
    cases hd : isDg (sn w q3) with
    | true => rw [if_pos rfl, if_pos rfl]
    | false =>
      rw [if_neg (by decide), if_neg (by decide)]
      unfold f_X5_fail
      rw [e_gF, g, e_pF, e_pF, e_bq]
  unfold f_X5_readPower
  rw [c_skip h h9 h1, e_bq, if_pos h2, e_gF, g, e_pF, wI_wI, i32_1, i32_add, c_skip h.at (g _) h4, e_bq, wI_wI]
  rcases h5 with ⟨h5, rfl, h6, h7⟩ | ⟨h5, rfl, rfl⟩
  · rw [if_pos h5, e_bs]
    unfold j_X5_readPower_35
    rw [if_pos rfl, e_gF, g, e_pF, wI_wI, i32_1, i32_add, e_bs]
    exact tail (q2 + 1) h7
  · rw [if_neg h5, e_bs]
    unfold j_X5_readPower_35
    rw [if_neg (by decide), e_bs]
    exact tail q3 (Sk_same h4.2.1 h4.2.2.2)
theorem r_powerA {f : SF} {s p q1 : Nat} (h : RTx σ w) (h20 : σ.1 306 20 = -1) (h9 : σ.1 306 21 = i32 p) (h1 : Sk w p q1) (h2 : sn w q1 ≠ 94) : f_X11_readPower (PS σ f) (i32 s) = some (PS σ f) := by
  unfold f_X11_readPower
  have e : f_X11_isWrong (PS σ f) = some false := r_isWrong_no h20
  have g21 : (PS σ f).1 306 21 = i32 p := h9
  rw [e, e_bs, if_neg (by decide), e_gF, g21, r_skip (σ := PS σ f) h g21 h1, e_bq, if_neg h2, e_pF, wI_wI, wI_id g21]
theorem r_powerS {f : SF} {s p q3 : Nat} {m : Bool} (h : RTx σ w) (h20 : σ.1 306 20 = -1) (h9 : σ.1 306 21 = i32 p) (hs : PwS w p m q3) : f_X11_readPower (PS σ f) (i32 s) = if isDg (sn w q3) = true then (loopO (fun (z24 : (Mem × Int32)) => l_X11_readPower_102 z24.1 z24.2) (PS (wI σ 306 21 (i32 q3)) f, 0) : Option (Mem × Int32)).bind (fun (z15 : (Mem × Int32)) => j_X11_readPower_153 (i32 s) m (i32 q3) z15.1 z15.2) else f_X11_errs (PS (wI σ 306 21 (i32 q3)) f) 1 (i32 q3) := by
  obtain ⟨q1, q2, h1, h2, h3, h4, h5⟩ := hs
  have g : ∀ t, (PS (wI σ 306 21 (i32 t)) f).1 306 21 = i32 t := fun t => by rw [PS_1, wI_1, if_pos ⟨rfl, rfl⟩]
  have tail : q3 ≤ w.length → j_X11_readPower_72 (i32 s) m (PS (wI σ 306 21 (i32 q3)) f) = if isDg (sn w q3) = true then (loopO (fun (z24 : (Mem × Int32)) => l_X11_readPower_102 z24.1 z24.2) (PS (wI σ 306 21 (i32 q3)) f, 0) : Option (Mem × Int32)).bind (fun (z15 : (Mem × Int32)) => j_X11_readPower_153 (i32 s) m (i32 q3) z15.1 z15.2) else f_X11_errs (PS (wI σ 306 21 (i32 q3)) f) 1 (i32 q3) := by
    intro ht
    unfold j_X11_readPower_72
    rw [e_gF, g, r_here (σ := PS (wI σ 306 21 (i32 q3)) f) (h.at (v := i32 q3)) ht (g q3), e_bs, r_isDigit, e_bs]
    cases hd : isDg (sn w q3) with
    | true => rw [if_pos rfl, if_pos rfl]
    | false =>
      rw [if_neg (by decide), if_neg (by decide), e_gF, g]
      cases f_X11_errs (PS (wI σ 306 21 (i32 q3)) f) 1 (i32 q3) <;> rfl
  have e : f_X11_isWrong (PS σ f) = some false := r_isWrong_no h20
  have g21 : (PS σ f).1 306 21 = i32 p := h9
  unfold f_X11_readPower
  rw [e, e_bs, if_neg (by decide), e_gF, g21, r_skip (σ := PS σ f) h g21 h1, e_bq, if_pos h2, e_gF, PS_wI, g, e_pF, PS_wI, wI_wI, i32_1, i32_add, r_skip (σ := PS (wI σ 306 21 (i32 (q1 + 1))) f) (h.at (v := i32 (q1 + 1))) (g _) h4, e_bq, PS_wI, wI_wI]
  rcases h5 with ⟨h5, rfl, h6, h7⟩ | ⟨h5, rfl, rfl⟩
  · rw [if_pos h5, e_bs]
    unfold j_X11_readPower_52
    rw [if_pos rfl, e_gF, g, e_pF, PS_wI, wI_wI, i32_1, i32_add, r_skip (σ := PS (wI σ 306 21 (i32 (q2 + 1))) f) (h.at (v := i32 (q2 + 1))) (g _) h7, e_bq, PS_wI, wI_wI, e_bs]
    exact tail h7.2.1
  · rw [if_neg h5, e_bs]
    unfold j_X11_readPower_52
    rw [if_neg (by decide), e_bs]
    exact tail h4.2.1
theorem neg99 {v : Nat} (h : v ≤ 99) : (-(i32 v)).toInt64 = oi (-(v : Int)) ∧ (-(i32 v)).toInt = -(v : Int) := by
  have key : (List.range 100).all (fun v => decide ((-(i32 v)).toInt64 = oi (-(v : Int)) ∧ (-(i32 v)).toInt = -(v : Int))) = true := by decide +kernel
  exact of_decide_eq_true (List.all_eq_true.mp key v (List.mem_range.mpr (by omega)))
theorem pw_out (hG : GOK G) {x : Nat → Int} {m : Nat} (hm : gn G ≤ m) : ∀ k, pw G x k m = 0
  | 0 => rfl
  | k + 1 => by
    show mul G (pw G x k) x m = 0
    rw [mul_beyond hG hm]
    exact pw_out hG hm k
/-- the number of a power -/
def pz (m : Bool) (v : Nat) : Int := if m = true then -(v : Int) else v
/-- what the class's raising comes to -/
theorem c_raised {a r b : Nat} {v : Nat → Int} {z : Int} (hG : GOK G) (h : BC G R w σ) (h10 : BH σ b) (ha : ln a = 6) (ha2 : 79 < a) (hA : H6 σ a v) (sv : SmV G v) (hz : -99 ≤ z ∧ z ≤ 99) (h9 : σ.1 144 9 = i32 r) : ∃ τ, FRx (fun x => (72 ≤ x ∧ x ≤ 79) ∨ x = a) σ τ ∧ τ.1 144 9 = i32 r ∧ ((isEl G (QZ G v z) = true ∧ j_X5_readPower_169 a σ (oi z) = some (true, τ) ∧ BH τ r ∧ H6 τ a (nrm G (QZ G v z))) ∨ (isEl G (QZ G v z) = false ∧ j_X5_readPower_169 a σ (oi z) = some (false, τ) ∧ τ.1 144 0 = 5 ∧ τ.1 144 1 = i32 r)) := by
  have hn := hG.2.1
  obtain ⟨τ, e, o, hq⟩ := c_raise hG (h.poly hG) (out := a) ha ha hA (by omega) (rfl : oi z = oi z) hz (M := 999) (by omega) (by omega) sv.sb sv.z6
  have f1 : FRx (fun x => (72 ≤ x ∧ x ≤ 79) ∨ x = a) σ τ := o.frx (fun x hx => by omega)
  have g9 : τ.1 144 9 = i32 r := by rw [o.1]; exact h9
  have hq' : H6 (wI τ 144 10 (i32 r)) a (QZ G v z) := hq
  have e2 := c_isElement (σ := wI τ 144 10 (i32 r)) hG ha hq' QZ_z6
  have f2 : FRx (fun x => (72 ≤ x ∧ x ≤ 79) ∨ x = a) σ (wI τ 144 10 (i32 r)) := f1.trans (FRx.fld (by omega))
  have k9 : (wI τ 144 10 (i32 r)).1 144 9 = i32 r := by rw [wI_1, if_neg (by omega)]; exact g9
  unfold j_X5_readPower_169
  rw [e, e_bs, e_gF, g9, e_pF, e2, e_bs]
  cases hel : isEl G (QZ G v z) with
  | true =>
    refine ⟨wI τ 144 10 (i32 r), f2, k9, Or.inl ⟨rfl, ?_, (h10.of (by rw [o.1])).bh, hq'.nrm QZ_z6⟩⟩
    rw [if_pos rfl, e_bs]
    rfl
  | false =>
    refine ⟨wI (wI (wI τ 144 10 (i32 r)) 144 0 5) 144 1 (i32 r), f2.trans ((FRx.fld (by omega)).trans (FRx.fld (by omega))), by rw [wI_1, if_neg (by omega), wI_1, if_neg (by omega)]; exact k9, Or.inr ⟨rfl, ?_, by rw [wI_1, if_neg (by omega), wI_1, if_pos ⟨rfl, rfl⟩], by rw [wI_1, if_pos ⟨rfl, rfl⟩]⟩⟩
    rw [if_neg (by decide), e_gF, k9]
    unfold f_X5_fail
    rw [e_pF, e_pF, e_bq, if_neg (by decide), e_bs]
    rfl
/-- the reference raises -/
theorem r_raised {f : SF} {s r v : Nat} {m : Bool} {x : Nat → Int} (hG : GOK G) (hJ : Jac G) (h : BR G R w σ) (hs : s + 4 < 100) (hv : v ≤ 99) (hx : f s = x) (sx : SmV G x) (h9 : σ.1 306 21 = i32 r) : ∃ g B, j_X11_readPower_153 (i32 s) m (i32 0) (PS σ f) (i32 v) = f_X11_checks (PS (wI σ 306 23 (i32 r)) g) (i32 s) ∧ g s = B ∧ EqG G B (QZ G x (pz m v)) ∧ Z6 G B ∧ ∀ t, t < s → g t = f t := by
  obtain ⟨hM, h0, hT, _⟩ := h
  have hz : -99 ≤ pz m v ∧ pz m v ≤ 99 := by unfold pz; split <;> omega
  have hm : (if m = true then -(i32 v) else i32 v).toInt = pz m v := by
    unfold pz
    cases m with
    | true => rw [if_pos rfl, if_pos rfl]; exact (neg99 hv).2
    | false => rw [if_neg (by decide), if_neg (by decide)]; exact i32_toInt (by omega)
  have hM' : MG (wI σ 306 23 (i32 r)) G := by
    unfold MG
    have : (wI σ 306 23 (i32 r)).1 307 = σ.1 307 := by funext y; rw [wI_1, if_neg (by omega)]
    rw [this]; exact hM
  obtain ⟨g, e1, g1, k1⟩ := p_raises (σ := wI σ 306 23 (i32 r)) (f := f) hM' hG h0 (s := s) (t := s + 1) (m := if m = true then -(i32 v) else i32 v) (z := pz m v) (by omega) (by omega) (by omega) hm hz (B := 999) (by omega) (by omega) (by rw [hx]; exact sx.sb)
  have e2 : f_X11_copies (PS (wI σ 306 23 (i32 r)) g) (i32 (s + 1)) (i32 s) = some (PS (wI σ 306 23 (i32 r)) (uS g s (g (s + 1)))) := p_copies (by omega) (by omega) (by omega)
  rw [hx] at g1
  refine ⟨uS g s (g (s + 1)), g (s + 1), ?_, uS_self, ?_, ?_, fun t ht => by rw [uS_ne (by omega), k1 t (by omega)]⟩
  · unfold j_X11_readPower_153
    have g9 : (PS σ f).1 306 21 = i32 r := h9
    rw [if_pos (show i32 v ≤ 99 from i_le (b := 99) hv (by omega)), e_gF, g9, e_pF, PS_wI]
    have em : (if m = true then some (-(i32 v)) else some (i32 v) : Option Int32) = some (if m = true then -(i32 v) else i32 v) := by split <;> rfl
    rw [em, e_bs]
    unfold j_X11_readPower_193
    rw [i32_1, i32_add, e1, e_bs, e2, e_bs]
    cases f_X11_checks (PS (wI σ 306 23 (i32 r)) (uS g s (g (s + 1)))) (i32 s) <;> rfl
  · rw [g1]
    exact (raises_Q hG hJ).trans QZ_eq.symm
  · rw [g1]
    exact fun k h1 _ => pw_out hG h1 _
theorem j153_v {s : Nat} {m : Bool} {v11 : Int32} {v : Nat} (hv : v ≤ 99) : j_X11_readPower_153 (i32 s) m v11 σ (i32 v) = j_X11_readPower_153 (i32 s) m (i32 0) σ (i32 v) := by
  unfold j_X11_readPower_153
  rw [if_pos (show i32 v ≤ 99 from i_le (b := 99) hv (by omega)), if_pos (show i32 v ≤ 99 from i_le (b := 99) hv (by omega))]
/-- how both end: wrong alike, over alike -/
def WJ (σ ρ : Mem) (d k t : Nat) : Prop := k ≤ 4 ∧ σ.1 144 0 = i32 k ∧ σ.1 144 1 = i32 t ∧ WR ρ k t d
def OJ (w : List Nat) (σ ρ : Mem) (d t : Nat) : Prop := σ.1 144 0 = 5 ∧ σ.1 144 1 = i32 t ∧ ∃ p, DE w ρ t d p
theorem LV.at {d p b q : Nat} (h : LV σ d p b) : LV (wI σ 306 21 (i32 q)) d q b := ⟨by rw [wI_1, if_pos ⟨rfl, rfl⟩], by rw [wI_1, if_neg (by omega)]; exact h.2.1, by rw [wI_1, if_neg (by omega)]; exact h.2.2.1, by rw [wI_1, if_neg (by omega)]; exact h.2.2.2.1, by rw [wI_1, if_neg (by omega)]; exact h.2.2.2.2.1, by rw [wI_1, if_neg (by omega)]; exact h.2.2.2.2.2⟩
theorem LV.bh {d p b q : Nat} (h : LV σ d p b) : LV (wI σ 306 23 (i32 q)) d p q := ⟨by rw [wI_1, if_neg (by omega)]; exact h.1, by rw [wI_1, if_neg (by omega)]; exact h.2.1, by rw [wI_1, if_neg (by omega)]; exact h.2.2.1, by rw [wI_1, if_neg (by omega)]; exact h.2.2.2.1, by rw [wI_1, if_pos ⟨rfl, rfl⟩], by rw [wI_1, if_neg (by omega)]; exact h.2.2.2.2.2⟩
theorem DE.at {q d p p' : Nat} (h : DE w σ q d p) (h1 : p ≤ p') (h2 : p' ≤ w.length) : DE w (wI σ 306 21 (i32 p')) q d p' := by
  obtain ⟨a1, a2, a3, a4, a5, a6⟩ := h
  refine ⟨by omega, h2, by rw [wI_1, if_pos ⟨rfl, rfl⟩], by rw [wI_1, if_neg (by omega)]; exact a4, by rw [wI_1, if_neg (by omega)]; exact a5, ?_⟩
  rw [wI_1, if_neg (by omega)]
  exact a6
theorem DE.bh {q d p : Nat} {v : Int32} (h : DE w σ q d p) : DE w (wI σ 306 23 v) q d p := by
  obtain ⟨a1, a2, a3, a4, a5, a6⟩ := h
  refine ⟨a1, a2, by rw [wI_1, if_neg (by omega)]; exact a3, by rw [wI_1, if_neg (by omega)]; exact a4, by rw [wI_1, if_neg (by omega)]; exact a5, ?_⟩
  rw [wI_1, if_neg (by omega)]
  exact a6
/-- a power, in both -/
theorem j_power {ρ : Mem} {f : SF} {a s p b bc d : Nat} {v : Nat → Int} (hG : GOK G) (hJ : Jac G) (hC : BC G R w σ) (hR : BR G R w ρ) (hp : p ≤ w.length) (ha : ln a = 6) (ha2 : 79 < a) (hs : s + 4 < 100) (h9 : σ.1 144 9 = i32 p) (h10 : BH σ b) (hL : LV ρ d p b) (hb : b ≤ p) (hA : H6 σ a v) (hf : f s = v) (sv : SmV G v) : ∃ r σ' ρ' f', f_X5_readPower σ a = some (r, σ') ∧ f_X11_readPower (PS ρ f) (i32 s) = some (PS ρ' f') ∧ FRx (fun x => (72 ≤ x ∧ x ≤ 79) ∨ x = a) σ σ' ∧ FRr ρ ρ' ∧ (∀ t, t < s → f' t = f t) ∧ ((∃ p' q b' v', r = true ∧ σ'.1 144 9 = i32 p' ∧ BH σ' b' ∧ LV ρ' d q b' ∧ b' ≤ q ∧ p ≤ q ∧ q ≤ p' ∧ p' ≤ w.length ∧ (∀ t, q ≤ t → t < p' → sn w t = 32) ∧ H6 σ' a v' ∧ SmV G v' ∧ f' s = v') ∨ (∃ k t, r = false ∧ WJ σ' ρ' d k t) ∨ (∃ t, r = false ∧ OJ w σ' ρ' d t ∧ SmV G (f' s))) := by
  have hw := hC.2.1.1
  have hT := hC.2.1
  rcases Pw_cases hp with ⟨q1, h1, h2⟩ | ⟨m, q3, hS⟩
  · refine ⟨true, _, ρ, f, c_powerA hT h9 h1 h2, r_powerA hR.2.2.1 hL.2.1 hL.1 h1 h2, FRx.fld (by omega), FRr.refl, fun _ _ => rfl, Or.inl ⟨q1, p, b, v, rfl, by rw [wI_1, if_pos ⟨rfl, rfl⟩], h10.at, hL, hb, Nat.le_refl _, h1.1, h1.2.1, h1.2.2.1, hA, sv, hf⟩⟩
  · obtain ⟨r1, r2, r3⟩ := hS.range
    have ec := c_powerS (a := a) hT h9 hS
    have er := r_powerS (f := f) (s := s) hR.2.2.1 hL.2.1 hL.1 hS
    cases hd : isDg (sn w q3) with
    | false =>
      rw [hd, if_neg (by decide)] at ec er
      obtain ⟨ρ', e, fr, wr, _⟩ := r_errs_live (f := f) (k := 1) (t := q3) (hL.at (q := q3)) (by omega)
      refine ⟨false, _, ρ', f, ec, by rw [er]; exact e, (FRx.fld (by omega)).trans ((FRx.fld (by omega)).trans (FRx.fld (by omega))), (FRr.fld (by omega)).trans fr, fun _ _ => rfl, Or.inr (Or.inl ⟨1, q3, rfl, by omega, ?_, ?_, wr⟩)⟩
      · rw [wI_1, if_neg (by omega), wI_1, if_pos ⟨rfl, rfl⟩]; rfl
      · rw [wI_1, if_pos ⟨rfl, rfl⟩]
    | true =>
      obtain ⟨r, hdg⟩ := DgE_ex w (w.length - q3) q3 r2 (Nat.le_refl _)
      have hr := hdg.2.1
      have hqr := hdg.1
      have g9 : (wI σ 144 9 (i32 q3)).1 144 9 = i32 q3 := by rw [wI_1, if_pos ⟨rfl, rfl⟩]
      have g21 : (wI ρ 306 21 (i32 q3)).1 306 21 = i32 q3 := by rw [wI_1, if_pos ⟨rfl, rfl⟩]
      rw [hd, if_pos rfl, c_digits hT.at g9 hdg, e_bs, wI_wI] at ec
      rw [hd, if_pos rfl, r_digits hR.2.2.1.at g21 hdg, e_bs, wI_wI] at er
      have ec' : f_X5_readPower σ a = j_X5_readPower_135 a m (i32 q3) (wI σ 144 9 (i32 r)) (i32 (min (acc w q3 (r - q3)) 100)) := ec
      have er' : f_X11_readPower (PS ρ f) (i32 s) = j_X11_readPower_153 (i32 s) m (i32 q3) (PS (wI ρ 306 21 (i32 r)) f) (i32 (acc w q3 (r - q3))) := er
      have hacc := acc_le (w := w) (q := q3) (r - q3) (fun t h1 h2 => hdg.2.2.1 t h1 (by omega))
      by_cases h99 : acc w q3 (r - q3) ≤ 99
      · -- raised
        have hmin : min (acc w q3 (r - q3)) 100 = acc w q3 (r - q3) := by omega
        rw [hmin] at ec'
        have hCr : BC G R w (wI σ 144 9 (i32 r)) := hC.frx (P := fun _ => False) (FRx.fld (by omega)) (fun x hx => hx.elim)
        have hz : -99 ≤ pz m (acc w q3 (r - q3)) ∧ pz m (acc w q3 (r - q3)) ≤ 99 := by unfold pz; split <;> omega
        obtain ⟨τ, ft, t9, hcase⟩ := c_raised (a := a) (r := r) (z := pz m (acc w q3 (r - q3))) hG hCr h10.at ha ha2 (hA : H6 (wI σ 144 9 (i32 r)) a v) sv hz (by rw [wI_1, if_pos ⟨rfl, rfl⟩])
        have e135 : j_X5_readPower_135 a m (i32 q3) (wI σ 144 9 (i32 r)) (i32 (acc w q3 (r - q3))) = j_X5_readPower_169 a (wI σ 144 9 (i32 r)) (oi (pz m (acc w q3 (r - q3)))) := by
          unfold j_X5_readPower_135
          rw [if_pos (show i32 (acc w q3 (r - q3)) ≤ 99 from i_le (b := 99) h99 (by omega))]
          cases m with
          | true =>
            rw [if_pos rfl, e_bs, (neg99 h99).1]
            rfl
          | false =>
            rw [if_neg (by decide), e_bs, n64 (by omega)]
            rfl
        have hRr : BR G R w (wI ρ 306 21 (i32 r)) := hR.frr (FRr.fld (by omega))
        obtain ⟨g, B, e153, gB, hB, zB, kg⟩ := r_raised (σ := wI ρ 306 21 (i32 r)) (f := f) (s := s) (r := r) (m := m) hG hJ hRr hs h99 hf sv (by rw [wI_1, if_pos ⟨rfl, rfl⟩])
        rw [e135] at ec'
        rw [j153_v h99, e153] at er'
        have hLb : LV (wI (wI ρ 306 21 (i32 r)) 306 23 (i32 r)) d r r := (hL.at (q := r)).bh (q := r)
        have hRb : BR G R w (wI (wI ρ 306 21 (i32 r)) 306 23 (i32 r)) := hRr.frr (FRr.fld (by omega))
        have hck := r_checks_live (w := w) (f := g) (s := s) hG hRb.1 hLb hr hw (Nat.le_refl _) (by omega) gB zB
        have hee : isEl G B = isEl G (QZ G v (pz m (acc w q3 (r - q3)))) := isEl_congr hB
        have F1 : FRx (fun x => (72 ≤ x ∧ x ≤ 79) ∨ x = a) σ τ := (FRx.fld (by omega)).trans ft
        have F2 : FRr ρ (wI (wI ρ 306 21 (i32 r)) 306 23 (i32 r)) := (FRr.fld (by omega)).trans (FRr.fld (by omega))
        rcases hcase with ⟨hel, e1, t10, hA'⟩ | ⟨hel, e1, t0, t1⟩
        · rcases hck with ⟨_, e2⟩ | ⟨hel2, _⟩
          · refine ⟨true, τ, _, _, by rw [ec', e1], by rw [er', e2], F1, F2, fun t ht => by rw [uS_ne (by omega)]; exact kg t ht, Or.inl ⟨r, r, r, _, rfl, t9, t10, hLb, Nat.le_refl _, by omega, Nat.le_refl _, hr, fun t h1 h2 => by omega, hA', nrm_sm hel, ?_⟩⟩
            rw [uS_self, nrm_congr hB]
          · rw [hee, hel] at hel2; cases hel2
        · rcases hck with ⟨hel2, _⟩ | ⟨_, ρ', e2, fr2, de2⟩
          · rw [hee, hel] at hel2; cases hel2
          · refine ⟨false, τ, ρ', _, by rw [ec', e1], by rw [er', e2], F1, F2.trans fr2, fun t ht => by rw [uS_ne (by omega)]; exact kg t ht, Or.inr (Or.inr ⟨r, rfl, ⟨t0, t1, r, de2⟩, by rw [uS_self]; exact SmV.O⟩)⟩
      · -- too great a number
        have hmin : min (acc w q3 (r - q3)) 100 = 100 := by omega
        rw [hmin] at ec'
        have ec2 : j_X5_readPower_135 a m (i32 q3) (wI σ 144 9 (i32 r)) (i32 100) = some (false, wI (wI (wI σ 144 9 (i32 r)) 144 0 2) 144 1 (i32 q3)) := by
          unfold j_X5_readPower_135
          rw [if_neg (show ¬ i32 100 ≤ 99 by decide)]
          unfold f_X5_fail
          rw [e_pF, e_pF, e_bq]
        obtain ⟨ρ', e, fr, wr, _⟩ := r_errs_live (f := f) (k := 2) (t := q3) (hL.at (q := r)) (by omega)
        have er2 : j_X11_readPower_153 (i32 s) m (i32 q3) (PS (wI ρ 306 21 (i32 r)) f) (i32 (acc w q3 (r - q3))) = some (PS ρ' f) := by
          unfold j_X11_readPower_153
          rw [if_neg (show ¬ i32 (acc w q3 (r - q3)) ≤ 99 from i_nle (b := 99) (by omega) (by omega))]
          have e' : f_X11_errs (PS (wI ρ 306 21 (i32 r)) f) 2 (i32 q3) = some (PS ρ' f) := e
          rw [e', e_bs]
        refine ⟨false, _, ρ', f, by rw [ec', ec2], by rw [er', er2], (FRx.fld (by omega)).trans ((FRx.fld (by omega)).trans (FRx.fld (by omega))), (FRr.fld (by omega)).trans fr, fun _ _ => rfl, Or.inr (Or.inl ⟨2, q3, rfl, by omega, ?_, ?_, wr⟩)⟩
        · rw [wI_1, if_neg (by omega), wI_1, if_pos ⟨rfl, rfl⟩]; rfl
        · rw [wI_1, if_pos ⟨rfl, rfl⟩]
/-- a power, the reference going on with ones -/
theorem d_power {ρ : Mem} {f : SF} {s p q d : Nat} {v : Nat → Int} (hG : GOK G) (hJ : Jac G) (hR : BR G R w ρ) (hw : w.length ≤ 200) (hs : s + 4 < 100) (hL : DE w ρ q d p) (hf : f s = v) (sv : SmV G v) : ∃ ρ' f' p', f_X11_readPower (PS ρ f) (i32 s) = some (PS ρ' f') ∧ FRr ρ ρ' ∧ (∀ t, t < s → f' t = f t) ∧ DE w ρ' q d p' ∧ p ≤ p' ∧ SmV G (f' s) := by
  have hL' := hL
  obtain ⟨a1, a2, a3, a4, a5, a6⟩ := hL
  rcases a6 with a6 | ⟨t', t1, t2, t3⟩
  · rcases Pw_cases a2 with ⟨q1, h1, h2⟩ | ⟨m, q3, hS⟩
    · exact ⟨ρ, f, p, r_powerA hR.2.2.1 a6 a3 h1 h2, FRr.refl, fun _ _ => rfl, hL', Nat.le_refl _, by rw [hf]; exact sv⟩
    · obtain ⟨r1, r2, r3⟩ := hS.range
      have er := r_powerS (f := f) (s := s) hR.2.2.1 a6 a3 hS
      cases hd : isDg (sn w q3) with
      | false =>
        rw [hd, if_neg (by decide)] at er
        obtain ⟨ρ', e, fr, de, _⟩ := r_errs_dead (f := f) (k := 1) (t := q3) (hL'.at (p' := q3) (by omega) r2) (by omega) (by omega)
        exact ⟨ρ', f, q3, by rw [er]; exact e, (FRr.fld (by omega)).trans fr, fun _ _ => rfl, de, by omega, by rw [hf]; exact sv⟩
      | true =>
        obtain ⟨r, hdg⟩ := DgE_ex w (w.length - q3) q3 r2 (Nat.le_refl _)
        have hr := hdg.2.1
        have hqr := hdg.1
        have g21 : (wI ρ 306 21 (i32 q3)).1 306 21 = i32 q3 := by rw [wI_1, if_pos ⟨rfl, rfl⟩]
        rw [hd, if_pos rfl, r_digits hR.2.2.1.at g21 hdg, e_bs, wI_wI] at er
        have er' : f_X11_readPower (PS ρ f) (i32 s) = j_X11_readPower_153 (i32 s) m (i32 q3) (PS (wI ρ 306 21 (i32 r)) f) (i32 (acc w q3 (r - q3))) := er
        have hacc := acc_le (w := w) (q := q3) (r - q3) (fun t h1 h2 => hdg.2.2.1 t h1 (by omega))
        have hLr := hL'.at (p' := r) (by omega) hr
        by_cases h99 : acc w q3 (r - q3) ≤ 99
        · have hRr : BR G R w (wI ρ 306 21 (i32 r)) := hR.frr (FRr.fld (by omega))
          obtain ⟨g, B, e153, gB, hB, zB, kg⟩ := r_raised (σ := wI ρ 306 21 (i32 r)) (f := f) (s := s) (r := r) (m := m) hG hJ hRr hs h99 hf sv (by rw [wI_1, if_pos ⟨rfl, rfl⟩])
          rw [j153_v h99, e153, r_checks_dead (hLr.bh (v := i32 r)) hw (by omega)] at er'
          exact ⟨_, _, r, er', (FRr.fld (by omega)).trans (FRr.fld (by omega)), fun t ht => by rw [uS_ne (by omega)]; exact kg t ht, hLr.bh, by omega, by rw [uS_self]; exact SmV.O⟩
        · obtain ⟨ρ', e, fr, de, _⟩ := r_errs_dead (f := f) (k := 2) (t := q3) hLr (by omega) (by omega)
          have er2 : j_X11_readPower_153 (i32 s) m (i32 q3) (PS (wI ρ 306 21 (i32 r)) f) (i32 (acc w q3 (r - q3))) = some (PS ρ' f) := by
            unfold j_X11_readPower_153
            rw [if_neg (show ¬ i32 (acc w q3 (r - q3)) ≤ 99 from i_nle (b := 99) (by omega) (by omega))]
            have e' : f_X11_errs (PS (wI ρ 306 21 (i32 r)) f) 2 (i32 q3) = some (PS ρ' f) := e
            rw [e', e_bs]
          exact ⟨ρ', f, r, by rw [er', er2], (FRr.fld (by omega)).trans fr, fun _ _ => rfl, de, by omega, by rw [hf]; exact sv⟩
  · refine ⟨ρ, f, p, ?_, FRr.refl, fun _ _ => rfl, hL', Nat.le_refl _, by rw [hf]; exact sv⟩
    unfold f_X11_readPower
    have e : f_X11_isWrong (PS ρ f) = some true := r_isWrong_yes (t := t') (by omega) t3
    rw [e, e_bs, if_pos rfl]
end PWR
