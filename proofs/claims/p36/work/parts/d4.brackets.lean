/-! brackets; both readers -/
section BRK
variable {σ : Mem} {w : List Nat}
theorem lp_go {S X : Type} {body : S → Option (S ⊕ X)} {s s' : S} (h : body s = some (Sum.inl s')) : loopO body s = loopO body s' := by rw [loopO_eq, h]; rfl
theorem lp_end {S X : Type} {body : S → Option (S ⊕ X)} {s : S} {x : X} (h : body s = some (Sum.inr x)) : loopO body s = some x := by rw [loopO_eq, h]; rfl
theorem LV.dep {d e p b : Nat} (h : LV σ e p b) : LV (wI σ 306 25 (i32 d)) d p b := ⟨by rw [wI_1, if_neg (by omega)]; exact h.1, by rw [wI_1, if_neg (by omega)]; exact h.2.1, by rw [wI_1, if_neg (by omega)]; exact h.2.2.1, by rw [wI_1, if_pos ⟨rfl, rfl⟩], by rw [wI_1, if_neg (by omega)]; exact h.2.2.2.2.1, by rw [wI_1, if_neg (by omega)]; exact h.2.2.2.2.2⟩
theorem WR.dep {d e k t : Nat} (h : WR σ k t e) : WR (wI σ 306 25 (i32 d)) k t d := ⟨h.1, by rw [wI_1, if_neg (by omega)]; exact h.2.1, by rw [wI_1, if_neg (by omega)]; exact h.2.2.1, by rw [wI_1, if_neg (by omega)]; exact h.2.2.2.1, by rw [wI_1, if_pos ⟨rfl, rfl⟩]⟩
theorem WR.bh {d k t : Nat} {v : Int32} (h : WR σ k t d) : WR (wI σ 306 23 v) k t d := ⟨h.1, by rw [wI_1, if_neg (by omega)]; exact h.2.1, by rw [wI_1, if_neg (by omega)]; exact h.2.2.1, by rw [wI_1, if_neg (by omega)]; exact h.2.2.2.1, by rw [wI_1, if_neg (by omega)]; exact h.2.2.2.2⟩
theorem DE.dep {d e q p : Nat} (h : DE w σ q e p) : DE w (wI σ 306 25 (i32 d)) q d p := by
  obtain ⟨a1, a2, a3, a4, a5, a6⟩ := h
  refine ⟨a1, a2, by rw [wI_1, if_neg (by omega)]; exact a3, by rw [wI_1, if_neg (by omega)]; exact a4, by rw [wI_1, if_pos ⟨rfl, rfl⟩], ?_⟩
  rw [wI_1, if_neg (by omega)]
  exact a6
/-- what reading a word comes to -/
def WOut (S : AS) (w : List Nat) (d s p : Nat) (r : Bool) (σ' ρ' : Mem) (f' : SF) : Prop := (∃ q b b' v, r = true ∧ σ'.1 144 9 = i32 q ∧ BH σ' b' ∧ LV ρ' d q b ∧ b ≤ q ∧ p ≤ q ∧ q ≤ w.length ∧ sn w q ≠ 32 ∧ H6 σ' (146 + d) v ∧ SmV (aG S) v ∧ f' s = v ∧ (b' = b ∨ v = O)) ∨ (∃ k t, r = false ∧ WJ σ' ρ' d k t) ∨ (∃ t, r = false ∧ OJ w σ' ρ' d t ∧ SmV (aG S) (f' s))
/-- both read words alike, at a depth -/
def JWl (S : AS) (w : List Nat) (recC : Mem → Int32 → Option (Bool × Mem)) (recR : Mem → Int32 → Option Mem) (d : Nat) : Prop := ∀ (σ ρ : Mem) (f : SF) (s p bc br : Nat), s ≤ 10 + 2 * d → BC (aG S) (aR S) w σ → BR (aG S) (aR S) w ρ → p ≤ w.length → σ.1 144 9 = i32 p → BH σ bc → LV ρ d p br → br ≤ p → ∃ r σ' ρ' f', recC σ (i32 d) = some (r, σ') ∧ recR (PS ρ f) (i32 s) = some (PS ρ' f') ∧ FRx (Pw d) σ σ' ∧ FRr ρ ρ' ∧ (∀ t, t < s → f' t = f t) ∧ WOut S w d s p r σ' ρ' f'
def JWo (S : AS) (w : List Nat) (recR : Mem → Int32 → Option Mem) (d : Nat) : Prop := ∀ (ρ : Mem) (f : SF) (s q p : Nat), s ≤ 10 + 2 * d → BR (aG S) (aR S) w ρ → DE w ρ q d p → ∃ ρ' f' p', recR (PS ρ f) (i32 s) = some (PS ρ' f') ∧ FRr ρ ρ' ∧ (∀ t, t < s → f' t = f t) ∧ DE w ρ' q d p' ∧ p ≤ p' ∧ SmV (aG S) (f' s)
def JWw (recR : Mem → Int32 → Option Mem) : Prop := ∀ (ρ : Mem) (f : SF) (s t : Nat), s < 100 → t < 2 ^ 31 → ρ.1 306 20 = i32 t → recR (PS ρ f) (i32 s) = some (PS ρ (uS f s (fun _ => 0)))
theorem r_j72 {ρ : Mem} {f : SF} {rec : Mem → Int32 → Option Mem} {k : Nat} (h : ρ.1 306 25 = i32 (k + 1)) : j_X11_readOpen_72 rec (PS ρ f) = some (PS (wI ρ 306 25 (i32 k)) f) := by
  unfold j_X11_readOpen_72
  have g : (PS ρ f).1 306 25 = i32 (k + 1) := h
  rw [e_gF, g, i32_1, i32_sub (by omega), e_pF, PS_wI, Nat.add_sub_cancel]
/-- a bracket begins -/
def opn (ρ : Mem) (d p : Nat) : Mem := wI (wI (wI ρ 306 25 (i32 (d + 1))) 306 21 (i32 (p + 1))) 306 23 (i32 (p + 1))
theorem opn_fr {ρ : Mem} {d p : Nat} : FRr ρ (opn ρ d p) := (FRr.fld (by omega)).trans ((FRr.fld (by omega)).trans (FRr.fld (by omega)))
theorem opn_lv {ρ : Mem} {d p b : Nat} (h : LV ρ d p b) : LV (opn ρ d p) (d + 1) (p + 1) (p + 1) := ((h.dep (d := d + 1)).at (q := p + 1)).bh (q := p + 1)
theorem opn_de {ρ : Mem} {d p q : Nat} (h : DE w ρ q d p) (hp : p < w.length) : DE w (opn ρ d p) q (d + 1) (p + 1) := ((h.dep (d := d + 1)).at (p' := p + 1) (by omega) (by omega)).bh
theorem r_open {ρ : Mem} {f : SF} {rec : Mem → Int32 → Option Mem} {s d p : Nat} {c : Int32} (h25 : ρ.1 306 25 = i32 d) (h21 : ρ.1 306 21 = i32 p) (hd : d < 8) : o_X11_readOpen rec (PS ρ f) (i32 s) c = (rec (PS (opn ρ d p) f) (i32 s)).bind (fun (σ8 : Mem) => (if c = 40 then (f_X11_must σ8 41) else (o_X11_readCommutator rec σ8 (i32 s)) : Option Mem).bind (fun (z9 : Mem) => j_X11_readOpen_72 rec z9)) := by
  unfold o_X11_readOpen
  have g25 : (PS ρ f).1 306 25 = i32 d := h25
  have g21 : (PS (wI ρ 306 25 (i32 (d + 1))) f).1 306 21 = i32 p := by rw [PS_1, wI_1, if_neg (by omega)]; exact h21
  have g21' : (PS (wI (wI ρ 306 25 (i32 (d + 1))) 306 21 (i32 (p + 1))) f).1 306 21 = i32 (p + 1) := by rw [PS_1, wI_1, if_pos ⟨rfl, rfl⟩]
  rw [e_gF, g25, if_neg (show ¬ i32 d = 8 from i_ne (b := 8) (by omega) (by omega) (by omega)), e_gF, g25, i32_1, i32_add, e_pF, PS_wI, e_gF, g21, i32_add, e_pF, PS_wI, e_gF, g21', e_pF, PS_wI]
  show (rec (PS (opn ρ d p) f) (i32 s)).bind _ = _
  cases rec (PS (opn ρ d p) f) (i32 s) with
  | none => rfl
  | some σ8 =>
    rw [e_bs, e_bs]
    by_cases hc : c = 40
    · rw [if_pos hc, if_pos hc]
      cases f_X11_must σ8 41 <;> rfl
    · rw [if_neg hc, if_neg hc]
      cases o_X11_readCommutator rec σ8 (i32 s) <;> rfl
theorem r_factorB {ρ : Mem} {f : SF} {rec : Mem → Int32 → Option Mem} {s p : Nat} {c : Int32} (hT : RTx ρ w) (h21 : ρ.1 306 21 = i32 p) (hp : p ≤ w.length) (hx : sn w p = c) (hc : c = 40 ∨ c = 91) : o_X11_readFactor rec (PS ρ f) (i32 s) = (o_X11_readOpen rec (PS ρ f) (i32 s) c).bind (fun (σ5 : Mem) => j_X11_readFactor_134 rec σ5) := by
  have g : (PS ρ f).1 306 21 = i32 p := h21
  unfold o_X11_readFactor
  have h97 : c < 97 := by rcases hc with rfl | rfl <;> decide
  rw [r_here (σ := PS ρ f) hT hp g, e_bs, hx, if_pos h97, e_bs]
  show (j_X11_readFactor_66 rec (PS ρ f) (i32 s) c : Option (Mem ⊕ Mem)).bind _ = _
  unfold j_X11_readFactor_66
  rw [if_neg (show ¬ c = 82 by rcases hc with rfl | rfl <;> decide)]
  cases o_X11_readOpen rec (PS ρ f) (i32 s) c <;> rfl
theorem c_factorB {recC : Mem → Int32 → Option (Bool × Mem)} {d p : Nat} {c : Int32} (hT : CTx σ w) (h9 : σ.1 144 9 = i32 p) (hp : p ≤ w.length) (hx : sn w p = c) (hc : c = 40 ∨ c = 91) (hd : d ≤ 8) : o_X5_readFactor recC σ (i32 d) = if d < 8 then (if c = 40 then o_X5_readRound recC (wI σ 144 9 (i32 (p + 1))) (i32 d) else o_X5_readSquare recC (wI σ 144 9 (i32 (p + 1))) (i32 d)) else some (false, wI (wI σ 144 0 4) 144 1 (i32 p)) := by
  unfold o_X5_readFactor
  have e1 : (if c = 40 then (some (Sum.inl ())) else (if c = 91 then (some (Sum.inl ())) else (gR 155 (i32 d) (fun (p11 : Nat) => bq (f_X5_readLetter σ (c - 97) p11) (fun (b12 : Bool) (σ13 : Mem) => some (Sum.inr (b12, σ13)))))) : Option (Unit ⊕ (Bool × Mem))) = some (Sum.inl ()) := by
    rcases hc with rfl | rfl
    · rw [if_pos rfl]
    · rw [if_neg (by decide), if_pos rfl]
  rw [c_sign hT hp h9, e_bs, hx, if_neg (show ¬ c = 82 by rcases hc with rfl | rfl <;> decide), e1, e_bs]
  show j_X5_readFactor_49 recC σ (i32 d) c = _
  unfold j_X5_readFactor_49
  by_cases hd8 : d < 8
  · rw [if_pos (show i32 d < 8 from i_lt (b := 8) hd8 (by omega)), if_pos hd8, e_gF, h9, i32_1, i32_add, e_pF]
    by_cases h40 : c = 40
    · rw [if_pos h40, if_pos h40]
      cases o_X5_readRound recC (wI σ 144 9 (i32 (p + 1))) (i32 d) with
      | none => rfl
      | some x => cases x; rfl
    · rw [if_neg h40, if_neg h40]
      cases o_X5_readSquare recC (wI σ 144 9 (i32 (p + 1))) (i32 d) with
      | none => rfl
      | some x => cases x; rfl
  · rw [if_neg (show ¬ i32 d < 8 from i_nlt (b := 8) (by omega) (by omega)), if_neg hd8, e_gF, h9, c_fail, e_bq]
theorem Sk_here {q : Nat} (hq : q ≤ w.length) (h : sn w q ≠ 32) : Sk w q q := Sk_same hq h
/-- a bracket's end: one sign must come, then back -/
theorem j_close {S : AS} {ρ : Mem} {f : SF} {rec : Mem → Int32 → Option Mem} {d s q b bc p row : Nat} {c : Int32} {v : Nat → Int} (hd : d < 8) (hC : BC (aG S) (aR S) w σ) (hR : BR (aG S) (aR S) w ρ) (h9 : σ.1 144 9 = i32 q) (h10 : BH σ bc) (hL : LV ρ (d + 1) q b) (hpq : p < q) (hq : q ≤ w.length) (h32 : sn w q ≠ 32) (hrow : ln row = 6) (hA : H6 σ row v) (sv : SmV (aG S) v) (hf : f s = v) (hcn : c ≠ -1) : ∃ r σ' ρ' f', (if sn w q = c then ((f_X0_copy σ row (156 + d)).bind (fun (σ6 : Mem) => bq (f_X5_passFactor σ6) (fun (b7 : Bool) (σ8 : Mem) => some (b7, σ8)))) else (gF σ 144 9 (fun (v9 : Int32) => bq (f_X5_fail σ 1 v9) (fun (b10 : Bool) (σ11 : Mem) => some (b10, σ11)))) : Option (Bool × Mem)) = some (r, σ') ∧ ((f_X11_must (PS ρ f) c).bind (fun (z9 : Mem) => j_X11_readOpen_72 rec z9)).bind (fun (σ5 : Mem) => j_X11_readFactor_134 rec σ5) = some (PS ρ' f') ∧ FRx (Pf d) σ σ' ∧ FRr ρ ρ' ∧ (∀ t, t < s → f' t = f t) ∧ FOut S w d s p r σ' ρ' f' := by
  have hw := hC.2.1.1
  obtain ⟨_, _, _, _, lF, _⟩ := rows_d (d := d) (by omega)
  by_cases hc : sn w q = c
  · have hlt := sn_lt hc hcn
    obtain ⟨σ1, e1, o1, c1⟩ := c_copy (σ := σ) (a := row) (b := 156 + d) (A := v) hrow lF hA
    have k9 : σ1.1 144 9 = i32 q := by rw [o1.1]; exact h9
    have e2 := r_must_yes (f := f) hR.2.2.1 hL.2.1 hL.1 hq h32 hc
    have hL2 := (hL.at (q := q + 1)).dep (d := d)
    refine ⟨true, _, _, f, by rw [if_pos hc, e1, e_bs, c_pass k9, e_bq], ?_, (o1.frx (fun y hy => by unfold Pf; omega)).trans ((FRx.fld (by omega)).trans (FRx.fld (by omega))), (FRr.fld (by omega)).trans ((FRr.fld (by omega)).trans (FRr.fld (by omega))), fun _ _ => rfl, Or.inl ⟨q + 1, v, rfl, pass_at.1, (h10.of (by rw [o1.1])).at.bh, hL2.bh (q := q + 1), by omega, by omega, c1, sv, hf⟩⟩
    rw [e2, e_bs, r_j72 (k := d) (by rw [wI_1, if_neg (by omega)]; exact hL.2.2.2.1), e_bs, r_pass (p := q + 1) hL2.1]
  · obtain ⟨ρ', e, fr, wr, h21⟩ := r_errs_live (f := f) (k := 1) (t := q) hL (by omega)
    have e' : f_X11_errs (PS ρ f) 1 (i32 q) = some (PS ρ' f) := e
    have e2 := r_must_no (f := f) hR.2.2.1 hL.2.1 hL.1 (Sk_same hq h32) hc
    rw [wI_id hL.1, e'] at e2
    have g21 : (wI ρ' 306 25 (i32 d)).1 306 21 = i32 q := by rw [wI_1, if_neg (by omega), h21]; exact hL.1
    refine ⟨false, wI (wI σ 144 0 1) 144 1 (i32 q), _, f, ?_, ?_, (FRx.fld (by omega)).trans (FRx.fld (by omega)), fr.trans ((FRr.fld (by omega)).trans (FRr.fld (by omega))), fun _ _ => rfl, Or.inr (Or.inl ⟨1, q, rfl, by omega, fail_at.1, fail_at.2, (wr.dep (d := d)).bh (v := i32 q)⟩)⟩
    · rw [if_neg hc, e_gF, h9, c_fail, e_bq]
    · rw [e2, e_bs, r_j72 (k := d) wr.2.2.2.2, e_bs, r_pass (p := q) g21]
/-- behind something wrong, or over: the way out of a bracket -/
theorem out_wrong {ρ : Mem} {f : SF} {rec : Mem → Int32 → Option Mem} {d k t : Nat} {p : Int32} (h : WR ρ k t (d + 1)) (h21 : ρ.1 306 21 = p) : ∃ ρ', (j_X11_readOpen_72 rec (PS ρ f)).bind (fun (σ5 : Mem) => j_X11_readFactor_134 rec σ5) = some (PS ρ' f) ∧ FRr ρ ρ' ∧ WR ρ' k t d := by
  refine ⟨wI (wI ρ 306 25 (i32 d)) 306 23 p, ?_, (FRr.fld (by omega)).trans (FRr.fld (by omega)), (h.dep (d := d)).bh⟩
  rw [r_j72 (k := d) h.2.2.2.2, e_bs]
  unfold j_X11_readFactor_134
  have g : (PS (wI ρ 306 25 (i32 d)) f).1 306 21 = p := by rw [PS_1, wI_1, if_neg (by omega)]; exact h21
  rw [e_gF, g, e_pF, PS_wI]
theorem out_dead {ρ : Mem} {f : SF} {rec : Mem → Int32 → Option Mem} {d q p : Nat} (h : DE w ρ q (d + 1) p) : ∃ ρ', (j_X11_readOpen_72 rec (PS ρ f)).bind (fun (σ5 : Mem) => j_X11_readFactor_134 rec σ5) = some (PS ρ' f) ∧ FRr ρ ρ' ∧ DE w ρ' q d p ∧ ρ'.1 306 20 = ρ.1 306 20 := by
  refine ⟨wI (wI ρ 306 25 (i32 d)) 306 23 (i32 p), ?_, (FRr.fld (by omega)).trans (FRr.fld (by omega)), (h.dep (d := d)).bh, ?_⟩
  · rw [r_j72 (k := d) h.2.2.2.2.1, e_bs]
    unfold j_X11_readFactor_134
    have g : (PS (wI ρ 306 25 (i32 d)) f).1 306 21 = i32 p := by rw [PS_1, wI_1, if_neg (by omega)]; exact h.2.2.1
    rw [e_gF, g, e_pF, PS_wI]
  · rw [wI_1, if_neg (by omega), wI_1, if_neg (by omega)]
/-- round brackets -/
theorem j_round {S : AS} {ρ : Mem} {f : SF} {recC : Mem → Int32 → Option (Bool × Mem)} {recR : Mem → Int32 → Option Mem} {s p b bc d : Nat} (jl : JWl S w recC recR (d + 1)) (hC : BC (aG S) (aR S) w σ) (hR : BR (aG S) (aR S) w ρ) (hd : d < 8) (hs : s ≤ 11 + 2 * d) (h9 : σ.1 144 9 = i32 p) (h10 : BH σ bc) (hL : LV ρ d p b) (hp : p < w.length) (hx : sn w p = 40) : ∃ r σ' ρ' f', o_X5_readFactor recC σ (i32 d) = some (r, σ') ∧ o_X11_readFactor recR (PS ρ f) (i32 s) = some (PS ρ' f') ∧ FRx (Pf d) σ σ' ∧ FRr ρ ρ' ∧ (∀ t, t < s → f' t = f t) ∧ FOut S w d s p r σ' ρ' f' := by
  have hw := hC.2.1.1
  obtain ⟨rW, _, _, lW, _, _⟩ := rows_d (d := d + 1) (by omega)
  obtain ⟨_, rF, _, _, _, _⟩ := rows_d (d := d) (by omega)
  have g9 : (wI σ 144 9 (i32 (p + 1))).1 144 9 = i32 (p + 1) := by rw [wI_1, if_pos ⟨rfl, rfl⟩]
  have g10 : BH (wI σ 144 9 (i32 (p + 1))) bc := h10.at
  have f0 : FRx (Pf d) σ (wI σ 144 9 (i32 (p + 1))) := FRx.fld (by omega)
  obtain ⟨r, σ1, ρ1, f1, e1, e2, fx, fr, kf, hout⟩ := jl (wI σ 144 9 (i32 (p + 1))) (opn ρ d p) f s (p + 1) bc (p + 1) (by omega) (hC.frx f0 (fun x hx => Pf_72 hx)) (hR.frr opn_fr) (by omega) g9 g10 (opn_lv hL) (Nat.le_refl _)
  have fx' : FRx (Pf d) σ σ1 := f0.trans (fx.mono (fun x hx => Pw_Pf hx))
  have fr' : FRr ρ ρ1 := opn_fr.trans fr
  have ec : o_X5_readFactor recC σ (i32 d) = bq (some (r, σ1)) (fun (b1 : Bool) (σ2 : Mem) => if b1 then (f_X5_signHere σ2).bind (fun (v3 : Int32) => if v3 = 41 then (gR 145 (i32 d + 1) (fun (p4 : Nat) => gR 155 (i32 d) (fun (p5 : Nat) => (f_X0_copy σ2 p4 p5).bind (fun (σ6 : Mem) => bq (f_X5_passFactor σ6) (fun (b7 : Bool) (σ8 : Mem) => some (b7, σ8)))))) else (gF σ2 144 9 (fun (v9 : Int32) => bq (f_X5_fail σ2 1 v9) (fun (b10 : Bool) (σ11 : Mem) => some (b10, σ11))))) else some (false, σ2)) := by
    rw [c_factorB hC.2.1 h9 (by omega) hx (Or.inl rfl) (by omega), if_pos hd, if_pos rfl]
    unfold o_X5_readRound
    rw [show i32 d + 1 = i32 (d + 1) from by rw [i32_1, i32_add], e1]
  have er : o_X11_readFactor recR (PS ρ f) (i32 s) = ((f_X11_must (PS ρ1 f1) 41).bind (fun (z9 : Mem) => j_X11_readOpen_72 recR z9)).bind (fun (σ5 : Mem) => j_X11_readFactor_134 recR σ5) := by
    rw [r_factorB hR.2.2.1 hL.1 (by omega) hx (Or.inl rfl), r_open hL.2.2.2.1 hL.1 hd, e2, e_bs, if_pos rfl]
  rcases hout with ⟨q, b1, b1', v, rfl, k9, k10, hL1, hb1, hpq, hq, h32, hA, sv, hf1, _⟩ | ⟨k, t, rfl, hW⟩ | ⟨t, rfl, hO, so⟩
  · have hC1 := hC.frx fx' (fun x hx => Pf_72 hx)
    have hR1 := hR.frr fr'
    obtain ⟨r2, σ2, ρ2, f2, e3, e4, fx2, fr2, kf2, ho⟩ := j_close (rec := recR) (p := p) (s := s) (c := 41) hd hC1 hR1 k9 k10 hL1 (by omega) hq h32 lW hA sv hf1 (by decide)
    refine ⟨r2, σ2, ρ2, f2, ?_, by rw [er]; exact e4, fx'.trans fx2, fr'.trans fr2, fun t ht => (kf2 t ht).trans (kf t ht), ho⟩
    rw [ec, e_bq, if_pos rfl, c_sign hC1.2.1 hq k9, e_bs, ← e3]
    by_cases h41 : sn w q = 41
    · rw [if_pos h41, if_pos h41, show i32 d + 1 = i32 (d + 1) from by rw [i32_1, i32_add], e_gR ln_145s.1 (by omega) (by omega), rW, e_gR ln_145s.2.1 (by omega) (by omega), rF]
    · rw [if_neg h41, if_neg h41]
  · obtain ⟨ρ2, e4, fr2, wr2⟩ := out_wrong (f := f1) (rec := recR) hW.2.2.2 rfl
    refine ⟨false, σ1, ρ2, f1, by rw [ec, e_bq, if_neg (by decide)], ?_, fx', fr'.trans fr2, kf, Or.inr (Or.inl ⟨k, t, rfl, hW.1, hW.2.1, hW.2.2.1, wr2⟩)⟩
    rw [er, r_must_wrong hW.2.2.2, e_bs]
    exact e4
  · obtain ⟨o1, o2, p1, de1⟩ := hO
    obtain ⟨ρ2, p2, e3, fr2, de2, _, _⟩ := r_must_dead (f := f1) (c := 41) (hR.frr fr').2.2.1 de1 (by decide)
    obtain ⟨ρ3, e4, fr3, de3, _⟩ := out_dead (f := f1) (rec := recR) de2
    refine ⟨false, σ1, ρ3, f1, by rw [ec, e_bq, if_neg (by decide)], ?_, fx', fr'.trans (fr2.trans fr3), kf, Or.inr (Or.inr ⟨t, rfl, ⟨o1, o2, p2, de3⟩, fun _ => so⟩)⟩
    rw [er, e3, e_bs]
    exact e4
theorem d_round {S : AS} {ρ : Mem} {f : SF} {recR : Mem → Int32 → Option Mem} {s p q d : Nat} (jo : JWo S w recR (d + 1)) (hR : BR (aG S) (aR S) w ρ) (hd : d < 8) (hs : s ≤ 11 + 2 * d) (hL : DE w ρ q d p) (hp : p < w.length) (hx : sn w p = 40) : ∃ ρ' f' p', o_X11_readFactor recR (PS ρ f) (i32 s) = some (PS ρ' f') ∧ FRr ρ ρ' ∧ (∀ t, t < s → f' t = f t) ∧ DE w ρ' q d p' ∧ p ≤ p' ∧ (ρ'.1 306 20 = -1 → p < p' ∧ SmV (aG S) (f' s)) := by
  obtain ⟨ρ1, f1, p1, e2, fr, kf, de1, hp1, s1⟩ := jo (opn ρ d p) f s q (p + 1) (by omega) (hR.frr opn_fr) (opn_de hL hp)
  have fr' : FRr ρ ρ1 := opn_fr.trans fr
  have er : o_X11_readFactor recR (PS ρ f) (i32 s) = ((f_X11_must (PS ρ1 f1) 41).bind (fun (z9 : Mem) => j_X11_readOpen_72 recR z9)).bind (fun (σ5 : Mem) => j_X11_readFactor_134 recR σ5) := by
    rw [r_factorB hR.2.2.1 hL.2.2.1 (by omega) hx (Or.inl rfl), r_open hL.2.2.2.2.1 hL.2.2.1 hd, e2, e_bs, if_pos rfl]
  obtain ⟨ρ2, p2, e3, fr2, de2, hp2, _⟩ := r_must_dead (f := f1) (c := 41) (hR.frr fr').2.2.1 de1 (by decide)
  obtain ⟨ρ3, e4, fr3, de3, _⟩ := out_dead (f := f1) (rec := recR) de2
  refine ⟨ρ3, f1, p2, ?_, fr'.trans (fr2.trans fr3), kf, de3, by omega, fun _ => ⟨by omega, s1⟩⟩
  rw [er, e3, e_bs]
  exact e4
end BRK
