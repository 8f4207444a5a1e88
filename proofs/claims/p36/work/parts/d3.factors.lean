/-! letters, registers, what must come; both readers -/
section FCT
variable {σ : Mem} {w : List Nat}
theorem rows_d {d : Nat} (h : d ≤ 8) : rf 145 d = 146 + d ∧ rf 155 d = 156 + d ∧ rf 165 d = 166 + d ∧ ln (146 + d) = 6 ∧ ln (156 + d) = 6 ∧ ln (166 + d) = 6 := by
  have h1 : (List.range 9).all (fun d => rf 145 d == 146 + d && (rf 155 d == 156 + d && (rf 165 d == 166 + d && (ln (146 + d) == 6 && (ln (156 + d) == 6 && ln (166 + d) == 6))))) = true := by decide +kernel
  have h2 := List.all_eq_true.mp h1 d (List.mem_range.mpr (by omega))
  simp only [Bool.and_eq_true, beq_iff_eq] at h2
  exact h2
theorem ln_145s : ln 145 = 9 ∧ ln 155 = 9 ∧ ln 165 = 9 := by decide +kernel
def Pw (d x : Nat) : Prop := (72 ≤ x ∧ x ≤ 79) ∨ (146 + d ≤ x ∧ x ≤ 154) ∨ (156 + d ≤ x ∧ x ≤ 164) ∨ (166 + d ≤ x ∧ x ≤ 174)
def Pf (d x : Nat) : Prop := (72 ≤ x ∧ x ≤ 79) ∨ (147 + d ≤ x ∧ x ≤ 154) ∨ (156 + d ≤ x ∧ x ≤ 164) ∨ (166 + d ≤ x ∧ x ≤ 174)
theorem Pw_72 {d x : Nat} (h : Pw d x) : 72 ≤ x := by unfold Pw at h; omega
theorem Pf_72 {d x : Nat} (h : Pf d x) : 72 ≤ x := by unfold Pf at h; omega
theorem Pf_Pw {d x : Nat} (h : Pf d x) : Pw d x := by unfold Pf at h; unfold Pw; omega
theorem Pw_Pf {d x : Nat} (h : Pw (d + 1) x) : Pf d x := by unfold Pw at h; unfold Pf; omega
theorem c_pass {p : Nat} (h9 : σ.1 144 9 = i32 p) : f_X5_passFactor σ = some (true, wI (wI σ 144 9 (i32 (p + 1))) 144 10 (i32 (p + 1))) := by
  unfold f_X5_passFactor
  rw [e_gF, h9, i32_1, i32_add, e_pF, e_gF, wI_1, if_pos ⟨rfl, rfl⟩, e_pF]
theorem pass_at {v u : Int32} : (wI (wI σ 144 9 v) 144 10 u).1 144 9 = v ∧ (wI (wI σ 144 9 v) 144 10 u).1 144 10 = u := ⟨by rw [wI_1, if_neg (by omega), wI_1, if_pos ⟨rfl, rfl⟩], by rw [wI_1, if_pos ⟨rfl, rfl⟩]⟩
theorem c_fail {k p : Int32} : f_X5_fail σ k p = some (false, wI (wI σ 144 0 k) 144 1 p) := by
  unfold f_X5_fail
  rw [e_pF, e_pF]
theorem fail_at {v u : Int32} : (wI (wI σ 144 0 v) 144 1 u).1 144 0 = v ∧ (wI (wI σ 144 0 v) 144 1 u).1 144 1 = u := ⟨by rw [wI_1, if_neg (by omega), wI_1, if_pos ⟨rfl, rfl⟩], by rw [wI_1, if_pos ⟨rfl, rfl⟩]⟩
/-! what must come -/
theorem r_must_wrong {ρ : Mem} {f : SF} {k t d : Nat} {c : Int32} (h : WR ρ k t d) : f_X11_must (PS ρ f) c = some (PS ρ f) := by
  unfold f_X11_must
  have h1 := h.1
  have e : f_X11_isWrong (PS ρ f) = some true := r_isWrong_yes (t := t) (by omega) h.2.2.1
  rw [e, e_bs, if_pos rfl]
theorem r_must_yes {ρ : Mem} {f : SF} {p : Nat} {c : Int32} (hT : RTx ρ w) (h20 : ρ.1 306 20 = -1) (h21 : ρ.1 306 21 = i32 p) (hp : p ≤ w.length) (h32 : sn w p ≠ 32) (hc : sn w p = c) : f_X11_must (PS ρ f) c = some (PS (wI ρ 306 21 (i32 (p + 1))) f) := by
  unfold f_X11_must
  have e : f_X11_isWrong (PS ρ f) = some false := r_isWrong_no h20
  have g : (PS ρ f).1 306 21 = i32 p := h21
  rw [e, e_bs, if_neg (by decide), r_skip (σ := PS ρ f) hT g (Sk_same hp h32), e_bq, wI_id g, if_pos hc, e_gF, g, i32_1, i32_add, e_pF, PS_wI]
theorem r_must_no {ρ : Mem} {f : SF} {p q : Nat} {c : Int32} (hT : RTx ρ w) (h20 : ρ.1 306 20 = -1) (h21 : ρ.1 306 21 = i32 p) (hs : Sk w p q) (hc : sn w q ≠ c) : f_X11_must (PS ρ f) c = f_X11_errs (PS (wI ρ 306 21 (i32 q)) f) 1 (i32 q) := by
  unfold f_X11_must
  have e : f_X11_isWrong (PS ρ f) = some false := r_isWrong_no h20
  have g : (PS ρ f).1 306 21 = i32 p := h21
  have g2 : (PS (wI ρ 306 21 (i32 q)) f).1 306 21 = i32 q := by rw [PS_1, wI_1, if_pos ⟨rfl, rfl⟩]
  rw [e, e_bs, if_neg (by decide), r_skip (σ := PS ρ f) hT g hs, e_bq, PS_wI, if_neg hc, e_gF, g2]
  cases f_X11_errs (PS (wI ρ 306 21 (i32 q)) f) 1 (i32 q) <;> rfl
theorem r_must_some {ρ : Mem} {f : SF} {p q : Nat} {c : Int32} (hT : RTx ρ w) (h20 : ρ.1 306 20 = -1) (h21 : ρ.1 306 21 = i32 p) (hs : Sk w p q) (hc : sn w q = c) : f_X11_must (PS ρ f) c = some (PS (wI ρ 306 21 (i32 (q + 1))) f) := by
  unfold f_X11_must
  have e : f_X11_isWrong (PS ρ f) = some false := r_isWrong_no h20
  have g : (PS ρ f).1 306 21 = i32 p := h21
  have g2 : (PS (wI ρ 306 21 (i32 q)) f).1 306 21 = i32 q := by rw [PS_1, wI_1, if_pos ⟨rfl, rfl⟩]
  rw [e, e_bs, if_neg (by decide), r_skip (σ := PS ρ f) hT g hs, e_bq, PS_wI, if_pos hc, e_gF, g2, i32_1, i32_add, e_pF, PS_wI, wI_wI]
theorem r_must_dead {ρ : Mem} {f : SF} {q d p : Nat} {c : Int32} (hT : RTx ρ w) (h : DE w ρ q d p) (hc : c ≠ -1) : ∃ ρ' p', f_X11_must (PS ρ f) c = some (PS ρ' f) ∧ FRr ρ ρ' ∧ DE w ρ' q d p' ∧ p ≤ p' ∧ (ρ'.1 306 20 = -1 → p < p') := by
  have h' := h
  obtain ⟨a1, a2, a3, a4, a5, a6⟩ := h
  rcases a6 with a6 | ⟨t, t1, t2, t3⟩
  · obtain ⟨q1, hs⟩ := Sk_ex w (w.length - p) p a2 (Nat.le_refl _)
    have b1 := hs.1
    have b2 := hs.2.1
    have b3 := hT.1
    by_cases hq : sn w q1 = c
    · have hlt := sn_lt hq hc
      exact ⟨_, q1 + 1, r_must_some hT a6 a3 hs hq, FRr.fld (by omega), h'.at (by omega) (by omega), by omega, fun _ => by omega⟩
    · obtain ⟨ρ', e, fr, de, nw⟩ := r_errs_dead (f := f) (k := 1) (t := q1) (h'.at (p' := q1) b1 b2) (by omega) (by omega)
      have e' : f_X11_errs (PS (wI ρ 306 21 (i32 q1)) f) 1 (i32 q1) = some (PS ρ' f) := e
      exact ⟨ρ', q1, by rw [r_must_no hT a6 a3 hs hq]; exact e', (FRr.fld (by omega)).trans fr, de, b1, fun z => absurd z nw⟩
  · refine ⟨ρ, p, ?_, FRr.refl, h', Nat.le_refl _, fun z => ?_⟩
    · unfold f_X11_must
      have e : f_X11_isWrong (PS ρ f) = some true := r_isWrong_yes (t := t) (by omega) t3
      rw [e, e_bs, if_pos rfl]
    · rw [t3] at z
      exact absurd z (ne_m1 (by omega))
/-! letters -/
/-- what reading a factor comes to -/
def FOut (S : AS) (w : List Nat) (d s q1 : Nat) (r : Bool) (σ' ρ' : Mem) (f' : SF) : Prop := (∃ q2 x, r = true ∧ σ'.1 144 9 = i32 q2 ∧ BH σ' q2 ∧ LV ρ' d q2 q2 ∧ q1 < q2 ∧ q2 ≤ w.length ∧ H6 σ' (156 + d) x ∧ SmV (aG S) x ∧ f' s = x) ∨ (∃ k t, r = false ∧ WJ σ' ρ' d k t) ∨ (∃ t, r = false ∧ OJ w σ' ρ' d t ∧ (ρ'.1 306 20 = -1 → SmV (aG S) (f' s)))
theorem yE_sm {G : GD} {i : Nat} (hi : i < gn G) : SmV G (yE i 1) := ⟨fun j => by unfold yE; split <;> omega, fun j hj => by unfold yE; rw [if_neg (by omega)]⟩
theorem r_pass {ρ : Mem} {f : SF} {rec : Mem → Int32 → Option Mem} {p : Nat} (h21 : ρ.1 306 21 = i32 p) : j_X11_readFactor_134 rec (PS ρ f) = some (PS (wI ρ 306 23 (i32 p)) f) := by
  unfold j_X11_readFactor_134
  have g : (PS ρ f).1 306 21 = i32 p := h21
  rw [e_gF, g, e_pF, PS_wI]
theorem r_letter {S : AS} {ρ : Mem} {f : SF} {recR : Mem → Int32 → Option Mem} {s p x : Nat} (hG : GOK (aG S)) (hM : MG ρ (aG S)) (hT : RTx ρ w) (h21 : ρ.1 306 21 = i32 p) (hp : p < w.length) (hx : sn w p = i32 (97 + x)) (hx5 : x ≤ 5) (hs : s < 100) : o_X11_readFactor recR (PS ρ f) (i32 s) = if x < gn (aG S) then some (PS (wI (wI ρ 306 21 (i32 (p + 1))) 306 23 (i32 (p + 1))) (uS f s (yE x 1))) else (f_X11_errs (PS ρ f) 3 (i32 p)) := by
  have hn := hG.2.1
  have g : (PS ρ f).1 306 21 = i32 p := h21
  have hv : i32 (97 + x) - 97 = i32 x := by
    have := i32_sub (a := 97 + x) (b := 97) (by omega)
    rw [show 97 + x - 97 = x by omega] at this
    exact this
  unfold o_X11_readFactor
  rw [r_here (σ := PS ρ f) hT (by omega) g, e_bs, hx, if_neg (show ¬ i32 (97 + x) < 97 from i_nlt (b := 97) (by omega) (by omega)), if_neg (show ¬ 102 < i32 (97 + x) from i_nlt (a := 102) (by omega) (by omega)), e_n (PS_MG hM), e_bs, hv]
  by_cases hxn : x < gn (aG S)
  · have e1 : f_X11_ones (PS ρ f) (i32 s) = some (PS ρ (uS f s (fun _ => 0))) := p_ones hs
    have e2 : f_X11_puts (PS ρ (uS f s (fun _ => 0))) (i32 s) (i32 x) 1 = some (PS ρ (uS (uS f s (fun _ => 0)) s (uV ((uS f s (fun _ => 0)) s) x 1))) := p_puts (σ := ρ) (f := uS f s (fun _ => 0)) (x := 1) hs (by omega)
    have e3 : uS (uS f s (fun _ => 0)) s (uV ((uS f s (fun _ => 0)) s) x 1) = uS f s (yE x 1) := by
      funext r
      by_cases hr : r = s
      · rw [hr, uS_self, uS_self, uS_self]; rfl
      · rw [uS_ne hr, uS_ne hr, uS_ne hr]
    rw [e3] at e2
    have g2 : (PS ρ (uS f s (yE x 1))).1 306 21 = i32 p := h21
    rw [if_pos (i_lt hxn (by omega)), e1, e_bs, e2, e_bs, e_gF, g2, i32_1, i32_add, e_pF, PS_wI, e_bs, if_pos hxn]
    show (some (Sum.inl (PS (wI ρ 306 21 (i32 (p + 1))) (uS f s (yE x 1)))) : Option (Mem ⊕ Mem)).bind _ = _
    rw [e_bs]
    show j_X11_readFactor_134 recR (PS (wI ρ 306 21 (i32 (p + 1))) (uS f s (yE x 1))) = _
    rw [r_pass (p := p + 1) (by rw [wI_1, if_pos ⟨rfl, rfl⟩])]
  · rw [if_neg (i_nlt (by omega) (by omega)), if_neg hxn, e_gF, g]
    cases f_X11_errs (PS ρ f) 3 (i32 p) <;> rfl
theorem j_letter {S : AS} {ρ : Mem} {f : SF} {recC : Mem → Int32 → Option (Bool × Mem)} {recR : Mem → Int32 → Option Mem} {s p b bc d x : Nat} (hG : GOK (aG S)) (hC : BC (aG S) (aR S) w σ) (hR : BR (aG S) (aR S) w ρ) (hd : d ≤ 8) (hs : s < 100) (h9 : σ.1 144 9 = i32 p) (h10 : BH σ bc) (hL : LV ρ d p b) (hp : p < w.length) (hx : sn w p = i32 (97 + x)) (hx5 : x ≤ 5) : ∃ r σ' ρ' f', o_X5_readFactor recC σ (i32 d) = some (r, σ') ∧ o_X11_readFactor recR (PS ρ f) (i32 s) = some (PS ρ' f') ∧ FRx (Pf d) σ σ' ∧ FRr ρ ρ' ∧ (∀ t, t < s → f' t = f t) ∧ FOut S w d s p r σ' ρ' f' := by
  have hn := hG.2.1
  obtain ⟨_, rF, _, _, lF, _⟩ := rows_d hd
  have er := r_letter (recR := recR) (f := f) (s := s) hG hR.1 hR.2.2.1 hL.1 hp hx hx5 hs
  have hv : i32 (97 + x) - 97 = i32 x := by
    have := i32_sub (a := 97 + x) (b := 97) (by omega)
    rw [show 97 + x - 97 = x by omega] at this
    exact this
  have hpre : o_X5_readFactor recC σ (i32 d) = (bq (f_X5_readLetter σ (i32 x) (156 + d)) (fun (b12 : Bool) (σ13 : Mem) => some (Sum.inr (b12, σ13))) : Option (Unit ⊕ (Bool × Mem))).bind (Sum.elim (fun (z1 : Unit) => j_X5_readFactor_49 recC σ (i32 d) (i32 (97 + x))) some) := by
    unfold o_X5_readFactor
    rw [c_sign hC.2.1 (by omega) h9, e_bs, hx, if_neg (show ¬ i32 (97 + x) = 82 from i_ne (b := 82) (by omega) (by omega) (by omega)), if_neg (show ¬ i32 (97 + x) = 40 from i_ne (b := 40) (by omega) (by omega) (by omega)), if_neg (show ¬ i32 (97 + x) = 91 from i_ne (b := 91) (by omega) (by omega) (by omega)), e_gR ln_145s.2.1 (by omega) (by omega), rF, hv]
  by_cases hxn : x < gn (aG S)
  · rw [if_pos hxn] at er
    obtain ⟨σ1, e1, o1, r1⟩ := c_makeGen (σ := σ) (a := 156 + d) (i := x) (y := 1) lF (by omega)
    have e1' : f_X0_makeGenerator σ (156 + d) (i32 x) 1 = some σ1 := e1
    have g9 : σ1.1 144 9 = i32 p := by rw [o1.1]; exact h9
    refine ⟨true, _, _, _, ?_, er, (o1.frx (fun y hy => by unfold Pf; omega)).trans ((FRx.fld (by omega)).trans (FRx.fld (by omega))), (FRr.fld (by omega)).trans (FRr.fld (by omega)), fun t ht => uS_ne (by omega), Or.inl ⟨p + 1, yE x 1, rfl, pass_at.1, (h10.of (by rw [o1.1])).at.bh, (hL.at (q := p + 1)).bh (q := p + 1), by omega, by omega, r1, yE_sm hxn, uS_self⟩⟩
    rw [hpre]
    unfold f_X5_readLetter
    rw [if_neg (show ¬ i32 x < 0 from i_nlt (b := 0) (by omega) (by omega)), e_gF, hC.2.2.2, if_pos (i_lt hxn (by omega)), e1', e_bs, c_pass g9, e_bq, e_bs]
    rfl
  · rw [if_neg hxn] at er
    have hw := hC.2.1.1
    obtain ⟨ρ', e, fr, wr, _⟩ := r_errs_live (f := f) (k := 3) (t := p) hL (by omega)
    refine ⟨false, _, ρ', f, ?_, by rw [er]; exact e, (FRx.fld (by omega)).trans (FRx.fld (by omega)), fr, fun _ _ => rfl, Or.inr (Or.inl ⟨3, p, rfl, by omega, fail_at.1, fail_at.2, wr⟩)⟩
    rw [hpre]
    unfold f_X5_readLetter
    rw [if_neg (show ¬ i32 x < 0 from i_nlt (b := 0) (by omega) (by omega)), e_gF, hC.2.2.2, if_neg (i_nlt (by omega) (by omega)), e_bs]
    show (bq (j_X5_readLetter_18 σ) _ : Option (Unit ⊕ (Bool × Mem))).bind _ = _
    unfold j_X5_readLetter_18
    rw [e_gF, h9, c_fail, e_bq, e_bq, e_bs]
    rfl
theorem d_letter {S : AS} {ρ : Mem} {f : SF} {recR : Mem → Int32 → Option Mem} {s p q d x : Nat} (hG : GOK (aG S)) (hR : BR (aG S) (aR S) w ρ) (hs : s < 100) (hL : DE w ρ q d p) (hp : p < w.length) (hx : sn w p = i32 (97 + x)) (hx5 : x ≤ 5) : ∃ ρ' f' p', o_X11_readFactor recR (PS ρ f) (i32 s) = some (PS ρ' f') ∧ FRr ρ ρ' ∧ (∀ t, t < s → f' t = f t) ∧ DE w ρ' q d p' ∧ p ≤ p' ∧ (ρ'.1 306 20 = -1 → p < p' ∧ SmV (aG S) (f' s)) := by
  have er := r_letter (recR := recR) (f := f) (s := s) hG hR.1 hR.2.2.1 hL.2.2.1 hp hx hx5 hs
  have hw := hR.2.2.1.1
  have hqp := hL.1
  by_cases hxn : x < gn (aG S)
  · rw [if_pos hxn] at er
    exact ⟨_, _, p + 1, er, (FRr.fld (by omega)).trans (FRr.fld (by omega)), fun t ht => uS_ne (by omega), (hL.at (p' := p + 1) (by omega) (by omega)).bh, by omega, fun _ => ⟨by omega, by rw [uS_self]; exact yE_sm hxn⟩⟩
  · rw [if_neg hxn] at er
    obtain ⟨ρ', e, fr, de, nw⟩ := r_errs_dead (f := f) (k := 3) (t := p) hL (by omega) hqp
    exact ⟨ρ', f, p, by rw [er]; exact e, fr, fun _ _ => rfl, de, Nat.le_refl _, fun z => absurd z nw⟩
/-! registers -/
theorem dg_reg (hb : ∀ x : Nat, x ∈ w → x < 256) (p : Nat) : (∃ r, r < 10 ∧ sn w p = i32 (48 + r) ∧ isDg (sn w p) = true ∧ isReg (sn w p - 48) = true ∧ sn w p - 48 = i32 r ∧ p < w.length) ∨ (isDg (sn w p) = false ∧ isReg (sn w p - 48) = false) := by
  cases hd : isDg (sn w p) with
  | true =>
    obtain ⟨d1, d2⟩ := dig_eq hd
    have hv : i32 (48 + dig w p) - 48 = i32 (dig w p) := by
      have := i32_sub (a := 48 + dig w p) (b := 48) (by omega)
      rw [show 48 + dig w p - 48 = dig w p by omega] at this
      exact this
    exact Or.inl ⟨dig w p, by omega, d2, rfl, by rw [d2, hv]; exact isReg_of (by omega), by rw [d2, hv], isDg_lt hd⟩
  | false =>
    refine Or.inr ⟨rfl, ?_⟩
    rcases sn_cases hb p with ⟨x, hx, hx256, _, hs⟩ | ⟨_, hs⟩
    · rw [hs] at hd ⊢
      have key : (List.range 256).all (fun x => isDg (i32 x) || !(isReg (i32 x - 48))) = true := by decide +kernel
      have h1 := List.all_eq_true.mp key x (List.mem_range.mpr hx256)
      rw [hd, Bool.false_or] at h1
      cases hr : isReg (i32 x - 48) with
      | false => rfl
      | true => rw [hr] at h1; cases h1
    · rw [hs]; decide
theorem r_register {S : AS} {ρ : Mem} {f : SF} {recR : Mem → Int32 → Option Mem} {s p : Nat} (ok : OKS S) (hB : RB ρ 307 0 (aX S)) (hT : RTx ρ w) (hb : ∀ x : Nat, x ∈ w → x < 256) (h21 : ρ.1 306 21 = i32 p) (hp : p < w.length) (hx : sn w p = 82) (hs : s < 100) : (∃ r, r < 10 ∧ sn w (p + 1) = i32 (48 + r) ∧ p + 1 < w.length ∧ o_X11_readFactor recR (PS ρ f) (i32 s) = some (PS (wI (wI ρ 306 21 (i32 (p + 2))) 306 23 (i32 (p + 2))) (uS f s (aR S r)))) ∨ (isReg (sn w (p + 1) - 48) = false ∧ o_X11_readFactor recR (PS ρ f) (i32 s) = f_X11_errs (PS (wI ρ 306 21 (i32 (p + 1))) f) 1 (i32 (p + 1))) := by
  have g : (PS ρ f).1 306 21 = i32 p := h21
  have g1 : (PS (wI ρ 306 21 (i32 (p + 1))) f).1 306 21 = i32 (p + 1) := by rw [PS_1, wI_1, if_pos ⟨rfl, rfl⟩]
  have hh := r_here (σ := PS (wI ρ 306 21 (i32 (p + 1))) f) (hT.at (v := i32 (p + 1))) (p := p + 1) (by omega) g1
  have hpre : o_X11_readFactor recR (PS ρ f) (i32 s) = (if isDg (sn w (p + 1)) = true then (f_X11_laysRegister (PS (wI ρ 306 21 (i32 (p + 1))) f) (i32 s) (sn w (p + 1) - 48)).bind (fun (σ11 : Mem) => gF σ11 306 21 (fun (v12 : Int32) => pF σ11 306 21 (v12 + 1) (fun (σ13 : Mem) => some (Sum.inl σ13)))) else (f_X11_errs (PS (wI ρ 306 21 (i32 (p + 1))) f) 1 (i32 (p + 1))).bind (fun (σ15 : Mem) => some (Sum.inr σ15)) : Option (Mem ⊕ Mem)).bind (Sum.elim (fun (z2 : Mem) => j_X11_readFactor_134 recR z2) some) := by
    unfold o_X11_readFactor
    rw [r_here (σ := PS ρ f) hT (by omega) g, e_bs, hx, if_pos (by decide), e_bs]
    show (j_X11_readFactor_66 recR (PS ρ f) (i32 s) 82 : Option (Mem ⊕ Mem)).bind _ = _
    unfold j_X11_readFactor_66
    rw [if_pos rfl, e_gF, g, i32_1, i32_add, e_pF, PS_wI, hh, e_bs, r_isDigit, e_bs, e_bs, e_gF, g1]
  rcases dg_reg hb (p + 1) with ⟨r, hr, h1, h2, h3, h4, h5⟩ | ⟨h1, h2⟩
  · refine Or.inl ⟨r, hr, h1, h5, ?_⟩
    have hB' : RB (wI ρ 306 21 (i32 (p + 1))) 307 0 (aX S) := hB.eqs (by funext y; rw [wI_1, if_neg (by omega)])
    have e1 : f_X11_laysRegister (PS (wI ρ 306 21 (i32 (p + 1))) f) (i32 s) (i32 r) = some (PS (wI ρ 306 21 (i32 (p + 1))) (uS f s (aR S r))) := p_lays hB' ok hs hr
    have g2 : (PS (wI ρ 306 21 (i32 (p + 1))) (uS f s (aR S r))).1 306 21 = i32 (p + 1) := g1
    rw [hpre, h2, if_pos rfl, h4, e1, e_bs, e_gF, g2, i32_1, i32_add, e_pF, PS_wI, wI_wI, e_bs]
    show j_X11_readFactor_134 recR (PS (wI ρ 306 21 (i32 (p + 2))) (uS f s (aR S r))) = _
    rw [r_pass (p := p + 2) (by rw [wI_1, if_pos ⟨rfl, rfl⟩])]
  · refine Or.inr ⟨h2, ?_⟩
    rw [hpre, h1, if_neg (by decide)]
    cases f_X11_errs (PS (wI ρ 306 21 (i32 (p + 1))) f) 1 (i32 (p + 1)) <;> rfl
theorem reg_sm {S : AS} (ok : OKS S) (r : Nat) : SmV (aG S) (aR S r) := ⟨fun i => ok.1.2.1 r i, fun i hi => ok.1.2.2 r i hi⟩
theorem j_register {S : AS} {ρ : Mem} {f : SF} {recC : Mem → Int32 → Option (Bool × Mem)} {recR : Mem → Int32 → Option Mem} {s p b bc d : Nat} (ok : OKS S) (hC : BC (aG S) (aR S) w σ) (hR : BR (aG S) (aR S) w ρ) (hbt : ∀ x : Nat, x ∈ w → x < 256) (hd : d ≤ 8) (hs : s < 100) (h9 : σ.1 144 9 = i32 p) (h10 : BH σ bc) (hL : LV ρ d p b) (hp : p < w.length) (hx : sn w p = 82) : ∃ r σ' ρ' f', o_X5_readFactor recC σ (i32 d) = some (r, σ') ∧ o_X11_readFactor recR (PS ρ f) (i32 s) = some (PS ρ' f') ∧ FRx (Pf d) σ σ' ∧ FRr ρ ρ' ∧ (∀ t, t < s → f' t = f t) ∧ FOut S w d s p r σ' ρ' f' := by
  have hw := hC.2.1.1
  obtain ⟨_, rF, _, _, lF, _⟩ := rows_d hd
  have g9 : (wI σ 144 9 (i32 (p + 1))).1 144 9 = i32 (p + 1) := by rw [wI_1, if_pos ⟨rfl, rfl⟩]
  have hpre : o_X5_readFactor recC σ (i32 d) = if isReg (sn w (p + 1) - 48) = true then gR 5 (sn w (p + 1) - 48) (fun (p6 : Nat) => (f_X0_copy (wI σ 144 9 (i32 (p + 1))) p6 (156 + d)).bind (fun (σ7 : Mem) => bq (bq (f_X5_passFactor σ7) (fun (b8 : Bool) (σ9 : Mem) => some (b8, σ9))) (fun (b15 : Bool) (σ16 : Mem) => some (b15, σ16)))) else some (false, wI (wI (wI σ 144 9 (i32 (p + 1))) 144 0 1) 144 1 (i32 (p + 1))) := by
    unfold o_X5_readFactor
    rw [c_sign hC.2.1 (by omega) h9, e_bs, hx, if_pos rfl, e_gR ln_145s.2.1 (by omega) (by omega), rF]
    unfold f_X5_readRegister
    rw [e_gF, h9, i32_1, i32_add, e_pF, c_sign hC.2.1.at (p := p + 1) (by omega) g9, e_bs, e_bd, c_isReg, e_bs]
    cases hr : isReg (sn w (p + 1) - 48) with
    | true =>
      rw [if_pos rfl, if_pos rfl]
      unfold gR
      split
      · show bq ((f_X0_copy (wI σ 144 9 (i32 (p + 1))) (rf 5 (sn w (p + 1) - 48).toNatClampNeg) (156 + d)).bind _) _ = (f_X0_copy (wI σ 144 9 (i32 (p + 1))) (rf 5 (sn w (p + 1) - 48).toNatClampNeg) (156 + d)).bind _
        cases f_X0_copy (wI σ 144 9 (i32 (p + 1))) (rf 5 (sn w (p + 1) - 48).toNatClampNeg) (156 + d) <;> rfl
      · rfl
    | false =>
      rw [if_neg (by decide), if_neg (by decide), e_gF, g9, c_fail, e_bq, e_bq]
  rcases r_register (recR := recR) (f := f) (s := s) ok hR.2.2.2 hR.2.2.1 hbt hL.1 hp hx hs with ⟨r, hr, h1, h2, er⟩ | ⟨h1, er⟩
  · have hv : sn w (p + 1) - 48 = i32 r := by
      have := i32_sub (a := 48 + r) (b := 48) (by omega)
      rw [show 48 + r - 48 = r by omega] at this
      rw [h1]; exact this
    obtain ⟨σ1, e1, o1, c1⟩ := c_copy (σ := wI σ 144 9 (i32 (p + 1))) (a := 6 + r) (b := 156 + d) (A := aR S r) (ln_reg hr) lF (hC.2.2.1 r hr)
    have k9 : σ1.1 144 9 = i32 (p + 1) := by rw [o1.1]; exact g9
    refine ⟨true, _, _, _, ?_, er, ((FRx.fld (by omega)).trans (o1.frx (fun y hy => by unfold Pf; omega))).trans ((FRx.fld (by omega)).trans (FRx.fld (by omega))), (FRr.fld (by omega)).trans (FRr.fld (by omega)), fun t ht => uS_ne (by omega), Or.inl ⟨p + 2, aR S r, rfl, pass_at.1, ((h10.at (v := i32 (p + 1))).of (by rw [o1.1])).at.bh, (hL.at (q := p + 2)).bh (q := p + 2), by omega, by omega, c1, reg_sm ok r, uS_self⟩⟩
    rw [hpre, hv, isReg_of hr, if_pos rfl, e_gR ln_5 hr (by omega), rf_5 hr, e1, e_bs, c_pass k9, e_bq, e_bq]
  · obtain ⟨ρ', e, fr, wr, _⟩ := r_errs_live (f := f) (k := 1) (t := p + 1) (hL.at (q := p + 1)) (by omega)
    refine ⟨false, wI (wI (wI σ 144 9 (i32 (p + 1))) 144 0 1) 144 1 (i32 (p + 1)), ρ', f, ?_, by rw [er]; exact e, (FRx.fld (by omega)).trans ((FRx.fld (by omega)).trans (FRx.fld (by omega))), (FRr.fld (by omega)).trans fr, fun _ _ => rfl, Or.inr (Or.inl ⟨1, p + 1, rfl, by omega, fail_at.1, fail_at.2, wr⟩)⟩
    rw [hpre, h1, if_neg (by decide)]
theorem d_register {S : AS} {ρ : Mem} {f : SF} {recR : Mem → Int32 → Option Mem} {s p q d : Nat} (ok : OKS S) (hR : BR (aG S) (aR S) w ρ) (hbt : ∀ x : Nat, x ∈ w → x < 256) (hs : s < 100) (hL : DE w ρ q d p) (hp : p < w.length) (hx : sn w p = 82) : ∃ ρ' f' p', o_X11_readFactor recR (PS ρ f) (i32 s) = some (PS ρ' f') ∧ FRr ρ ρ' ∧ (∀ t, t < s → f' t = f t) ∧ DE w ρ' q d p' ∧ p ≤ p' ∧ (ρ'.1 306 20 = -1 → p < p' ∧ SmV (aG S) (f' s)) := by
  have hw := hR.2.2.1.1
  have hqp := hL.1
  rcases r_register (recR := recR) (f := f) (s := s) ok hR.2.2.2 hR.2.2.1 hbt hL.2.2.1 hp hx hs with ⟨r, hr, h1, h2, er⟩ | ⟨h1, er⟩
  · exact ⟨_, _, p + 2, er, (FRr.fld (by omega)).trans (FRr.fld (by omega)), fun t ht => uS_ne (by omega), (hL.at (p' := p + 2) (by omega) (by omega)).bh, by omega, fun _ => ⟨by omega, by rw [uS_self]; exact reg_sm ok r⟩⟩
  · obtain ⟨ρ', e, fr, de, nw⟩ := r_errs_dead (f := f) (k := 1) (t := p + 1) (hL.at (p' := p + 1) (by omega) (by omega)) (by omega) (by omega)
    exact ⟨ρ', f, p + 1, by rw [er]; exact e, (FRr.fld (by omega)).trans fr, fun _ _ => rfl, de, by omega, fun z => absurd z nw⟩
end FCT
