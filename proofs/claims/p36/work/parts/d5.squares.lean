/-! square brackets; both readers -/
section SQB
variable {σ : Mem} {w : List Nat}
theorem comm_O {G : GD} (hG : GOK G) (hJ : Jac G) {c v : Nat → Int} (hv : v = O) : EqG G (mul G (inv G (mul G v c)) (mul G c v)) O := by
  subst hv
  have h1 : EqG G (mul G O c) c := O_mul hG
  have h2 : EqG G (mul G c O) c := mul_O hG
  exact ((EqG.invs hG h1).times h2).trans (inv_mul hG hJ)
theorem isEl_O {G : GD} : isEl G O = true := isEl_small (fun _ => ⟨by show (-999 : Int) ≤ 0; omega, by show (0 : Int) ≤ 999; omega⟩)
/-- the reference: another word, its commutator -/
theorem r_j22 {S : AS} {recR : Mem → Int32 → Option Mem} {ρ ρ2 : Mem} {f : SF} {s m v8 : Nat} (hs : s < 90) (e : f_X11_must (PS ρ f) 44 = some (PS ρ2 f)) (h21 : ρ2.1 306 21 = i32 v8) : j_X11_readCommutator_22 recR (i32 s) (i32 m) (PS ρ f) = (recR (PS (wI ρ2 306 23 (i32 v8)) f) (i32 (s + 1))).bind (fun (σ10 : Mem) => (f_X11_isWrong σ10).bind (fun (b11 : Bool) => if b11 then some (Sum.inr (Sum.inr σ10)) else (f_X11_commutator σ10 (i32 s) (i32 (s + 1)) (i32 (s + 2))).bind (fun (σ12 : Mem) => (f_X11_copies σ12 (i32 (s + 2)) (i32 s)).bind (fun (σ13 : Mem) => (f_X11_checks σ13 (i32 s)).bind (fun (σ14 : Mem) => bd (i32 (m + 1)) (fun (v15 : Int32) => some (Sum.inl (σ14, v15)))))))) := by
  unfold j_X11_readCommutator_22
  have g : (PS ρ2 f).1 306 21 = i32 v8 := h21
  rw [e, e_bs, e_gF, g, e_pF, PS_wI, show i32 s + 1 = i32 (s + 1) from by rw [i32_1, i32_add], show i32 s + 2 = i32 (s + 2) from by rw [i32_2, i32_add], show i32 m + 1 = i32 (m + 1) from by rw [i32_1, i32_add]]
/-- the reference's commutator of s and s + 1, at s -/
theorem r_comm {S : AS} {ρ : Mem} {f : SF} {s : Nat} (hG : GOK (aG S)) (hR : BR (aG S) (aR S) w ρ) (hs : s < 90) (s0 : SmV (aG S) (f s)) (s1 : SmV (aG S) (f (s + 1))) : ∃ g B, ((f_X11_commutator (PS ρ f) (i32 s) (i32 (s + 1)) (i32 (s + 2))).bind (fun (σ12 : Mem) => f_X11_copies σ12 (i32 (s + 2)) (i32 s))) = some (PS ρ g) ∧ g s = B ∧ B = mul (aG S) (mul (aG S) (mul (aG S) (inv (aG S) (f s)) (inv (aG S) (f (s + 1)))) (f s)) (f (s + 1)) ∧ Z6 (aG S) B ∧ ∀ t, t < s → g t = f t := by
  obtain ⟨g, e1, g1, k1⟩ := p_commutator (σ := ρ) (f := f) hR.1 hG hR.2.1 (s := s) (r := s + 1) (t := s + 2) (by omega) (by omega) (by omega) (by omega) (by omega) (B := 999) (by omega) (by omega) s0.sb s1.sb
  have e2 : f_X11_copies (PS ρ g) (i32 (s + 2)) (i32 s) = some (PS ρ (uS g s (g (s + 2)))) := p_copies (by omega) (by omega) (by omega)
  refine ⟨uS g s (g (s + 2)), g (s + 2), by rw [e1, e_bs, e2], uS_self, g1, ?_, fun t ht => by rw [uS_ne (by omega), k1 t (by omega)]⟩
  rw [g1]
  intro k h1 h2
  rw [mul_beyond hG h1, mul_beyond hG h1, mul_beyond hG h1]
  exact inv_beyond _ h1
theorem d_commas {S : AS} {recR : Mem → Int32 → Option Mem} {s d q : Nat} (hG : GOK (aG S)) (jo : JWo S w recR (d + 1)) (jw : JWw recR) (hd : d < 8) (hs : s ≤ 11 + 2 * d) (hwl : w.length ≤ 200) : ∀ (n p m : Nat) (ρ : Mem) (f : SF), w.length - p < n → m + n ≤ 1000 → BR (aG S) (aR S) w ρ → DE w ρ q (d + 1) p → SmV (aG S) (f s) → ∃ rr ρ' f' p', loopO (fun (z4 : (Mem × Int32)) => l_X11_readCommutator_2 recR (i32 s) z4.1 z4.2) (PS ρ f, i32 m) = some rr ∧ (rr = Sum.inl (PS ρ' f') ∨ rr = Sum.inr (PS ρ' f')) ∧ FRr ρ ρ' ∧ (∀ t, t < s → f' t = f t) ∧ DE w ρ' q (d + 1) p' ∧ p ≤ p' ∧ SmV (aG S) (f' s) := by
  intro n
  induction n with
  | zero => intro p m ρ f hn; exact absurd hn (Nat.not_lt_zero _)
  | succ n ih =>
    intro p m ρ f hn hmp hR hL sf
    have hp := hL.2.1
    have hL' := hL
    obtain ⟨a1, a2, a3, a4, a5, a6⟩ := hL
    -- another word, from a state where a comma may come
    have step : ∀ (ρ1 : Mem) (p1 : Nat), p ≤ p1 → FRr ρ ρ1 → DE w ρ1 q (d + 1) p1 → ρ1.1 306 20 = -1 → l_X11_readCommutator_2 recR (i32 s) (PS ρ f) (i32 m) = j_X11_readCommutator_22 recR (i32 s) (i32 m) (PS ρ1 f) → ∃ rr ρ' f' p', loopO (fun (z4 : (Mem × Int32)) => l_X11_readCommutator_2 recR (i32 s) z4.1 z4.2) (PS ρ f, i32 m) = some rr ∧ (rr = Sum.inl (PS ρ' f') ∨ rr = Sum.inr (PS ρ' f')) ∧ FRr ρ ρ' ∧ (∀ t, t < s → f' t = f t) ∧ DE w ρ' q (d + 1) p' ∧ p ≤ p' ∧ SmV (aG S) (f' s) := by
      intro ρ1 p1 hp1 fr1 de1 nw hbody
      have hR1 := hR.frr fr1
      obtain ⟨ρ2, p2, e2, fr2, de2, hp2, prog⟩ := r_must_dead (f := f) (c := 44) hR1.2.2.1 de1 (by decide)
      have e22 := r_j22 (S := S) (recR := recR) (m := m) (s := s) (by omega) e2 de2.2.2.1
      have hR3 : BR (aG S) (aR S) w (wI ρ2 306 23 (i32 p2)) := (hR1.frr fr2).frr (FRr.fld (by omega))
      have fr3 : FRr ρ (wI ρ2 306 23 (i32 p2)) := fr1.trans (fr2.trans (FRr.fld (by omega)))
      have de3 : DE w (wI ρ2 306 23 (i32 p2)) q (d + 1) p2 := de2.bh
      rcases de3.2.2.2.2.2 with n3 | ⟨t, t1, t2, t3⟩
      · have hpp : p1 < p2 := prog (by rw [wI_1, if_neg (by omega)] at n3; exact n3)
        obtain ⟨ρ4, f4, p4, e4, fr4, kf4, de4, hp4, s4⟩ := jo (wI ρ2 306 23 (i32 p2)) f (s + 1) q p2 (by omega) hR3 de3
        have fr5 := fr3.trans fr4
        have f4s : f4 s = f s := kf4 s (by omega)
        rcases de4.2.2.2.2.2 with n4 | ⟨t, t1, t2, t3⟩
        · have hR4 := hR3.frr fr4
          obtain ⟨g, B, e5, gB, _, zB, kg⟩ := r_comm (S := S) (ρ := ρ4) (f := f4) (s := s) hG hR4 (by omega) (by rw [f4s]; exact sf) s4
          obtain ⟨σ12, e5a, e5b⟩ := Option.bind_eq_some_iff.mp e5
          have e6 := r_checks_dead (f := g) (s := s) de4 hwl (by omega)
          have ew : f_X11_isWrong (PS ρ4 f4) = some false := r_isWrong_no n4
          have hgo : l_X11_readCommutator_2 recR (i32 s) (PS ρ f) (i32 m) = some (Sum.inl (PS ρ4 (uS g s O), i32 (m + 1))) := by
            rw [hbody, e22, e4, e_bs, ew, e_bs, if_neg (by decide), e5a, e_bs, e5b, e_bs, e6, e_bs, e_bd]
          obtain ⟨rr, ρ', f', p', b1, b2, b3, b4, b5, b6, b7⟩ := ih p4 (m + 1) ρ4 (uS g s O) (by have := de4.2.1; omega) (by omega) hR4 de4 (by rw [uS_self]; exact SmV.O)
          refine ⟨rr, ρ', f', p', ?_, b2, fr5.trans b3, fun t ht => ?_, b5, by omega, b7⟩
          · rw [lp_go hgo]; exact b1
          · rw [b4 t ht, uS_ne (by omega), kg t ht, kf4 t (by omega)]
        · have ew : f_X11_isWrong (PS ρ4 f4) = some true := r_isWrong_yes (t := t) (by omega) t3
          have hend : l_X11_readCommutator_2 recR (i32 s) (PS ρ f) (i32 m) = some (Sum.inr (Sum.inr (PS ρ4 f4))) := by
            rw [hbody, e22, e4, e_bs, ew, e_bs, if_pos rfl]
          exact ⟨_, ρ4, f4, p4, lp_end hend, Or.inr rfl, fr5, fun t ht => kf4 t (by omega), de4, by omega, by rw [f4s]; exact sf⟩
      · have e4 := jw (wI ρ2 306 23 (i32 p2)) f (s + 1) t (by omega) (by omega) t3
        have ew : f_X11_isWrong (PS (wI ρ2 306 23 (i32 p2)) (uS f (s + 1) (fun _ => 0))) = some true := r_isWrong_yes (t := t) (by omega) t3
        have hend : l_X11_readCommutator_2 recR (i32 s) (PS ρ f) (i32 m) = some (Sum.inr (Sum.inr (PS (wI ρ2 306 23 (i32 p2)) (uS f (s + 1) (fun _ => 0))))) := by
          rw [hbody, e22, e4, e_bs, ew, e_bs, if_pos rfl]
        exact ⟨_, _, _, p2, lp_end hend, Or.inr rfl, fr3, fun t ht => uS_ne (by omega), de3, by omega, by rw [uS_ne (by omega)]; exact sf⟩
    rcases a6 with a6 | ⟨t, t1, t2, t3⟩
    · have ew : f_X11_isWrong (PS ρ f) = some false := r_isWrong_no a6
      by_cases hm0 : m = 0
      · refine step ρ p (Nat.le_refl _) FRr.refl hL' a6 ?_
        unfold l_X11_readCommutator_2
        rw [ew, e_bs, if_neg (by decide), hm0, if_pos (show i32 0 = 0 from rfl), e_bs]
        rfl
      · obtain ⟨q1, hsk⟩ := Sk_ex w (w.length - p) p a2 (Nat.le_refl _)
        have g21 : (PS ρ f).1 306 21 = i32 p := a3
        have hb : l_X11_readCommutator_2 recR (i32 s) (PS ρ f) (i32 m) = (if sn w q1 = 44 then (some (Sum.inl (PS (wI ρ 306 21 (i32 q1)) f))) else (some (Sum.inr (Sum.inr (Sum.inl (PS (wI ρ 306 21 (i32 q1)) f))))) : Option (Mem ⊕ ((Mem × Int32) ⊕ (Mem ⊕ Mem)))).bind (Sum.elim (fun (z6 : Mem) => j_X11_readCommutator_22 recR (i32 s) (i32 m) z6) some) := by
          unfold l_X11_readCommutator_2
          rw [ew, e_bs, if_neg (by decide), if_neg (i_ne0 hm0 (by omega)), r_skip (σ := PS ρ f) hR.2.2.1 g21 hsk, e_bq, PS_wI]
        by_cases h44 : sn w q1 = 44
        · refine step (wI ρ 306 21 (i32 q1)) q1 hsk.1 (FRr.fld (by omega)) (hL'.at hsk.1 hsk.2.1) (by rw [wI_1, if_neg (by omega)]; exact a6) ?_
          rw [hb, if_pos h44, e_bs]
          rfl
        · have hend : l_X11_readCommutator_2 recR (i32 s) (PS ρ f) (i32 m) = some (Sum.inr (Sum.inl (PS (wI ρ 306 21 (i32 q1)) f))) := by
            rw [hb, if_neg h44, e_bs]
            rfl
          exact ⟨_, _, f, q1, lp_end hend, Or.inl rfl, FRr.fld (by omega), fun _ _ => rfl, hL'.at hsk.1 hsk.2.1, hsk.1, sf⟩
    · have ew : f_X11_isWrong (PS ρ f) = some true := r_isWrong_yes (t := t) (by omega) t3
      have hend : l_X11_readCommutator_2 recR (i32 s) (PS ρ f) (i32 m) = some (Sum.inr (Sum.inl (PS ρ f))) := by
        unfold l_X11_readCommutator_2
        rw [ew, e_bs, if_pos rfl]
      exact ⟨_, ρ, f, p, lp_end hend, Or.inl rfl, FRr.refl, fun _ _ => rfl, hL', Nat.le_refl _, sf⟩
/-- what the commas' part comes to -/
def COut (S : AS) (w : List Nat) (d s p : Nat) (rc : Mem ⊕ (Mem ⊕ (Bool × Mem))) (rr : Mem ⊕ Mem) (σ' ρ' : Mem) (f' : SF) : Prop := (∃ q b b' c, rc = Sum.inr (Sum.inl σ') ∧ rr = Sum.inl (PS ρ' f') ∧ σ'.1 144 9 = i32 q ∧ BH σ' b' ∧ LV ρ' (d + 1) q b ∧ p ≤ q ∧ q ≤ w.length ∧ sn w q ≠ 32 ∧ H6 σ' (166 + d) c ∧ SmV (aG S) c ∧ f' s = c) ∨ (∃ k t, rc = Sum.inr (Sum.inr (false, σ')) ∧ rr = Sum.inr (PS ρ' f') ∧ WJ σ' ρ' (d + 1) k t) ∨ (∃ t, rc = Sum.inr (Sum.inr (false, σ')) ∧ (rr = Sum.inl (PS ρ' f') ∨ rr = Sum.inr (PS ρ' f')) ∧ OJ w σ' ρ' (d + 1) t ∧ SmV (aG S) (f' s)) ∨ (∃ t p', rc = Sum.inl σ' ∧ (rr = Sum.inl (PS ρ' f') ∨ rr = Sum.inr (PS ρ' f')) ∧ σ'.1 144 10 = i32 t ∧ DE w ρ' t (d + 1) p' ∧ SmV (aG S) (f' s))
theorem j_commas {S : AS} {recC : Mem → Int32 → Option (Bool × Mem)} {recR : Mem → Int32 → Option Mem} {s d : Nat} (hG : GOK (aG S)) (hJ : Jac (aG S)) (jl : JWl S w recC recR (d + 1)) (jo : JWo S w recR (d + 1)) (jw : JWw recR) (hd : d < 8) (hs : s ≤ 11 + 2 * d) (hwl : w.length ≤ 200) : ∀ (n p m b bc : Nat) (σ ρ : Mem) (f : SF) (c : Nat → Int), w.length - p < n → m < p → p ≤ w.length → BC (aG S) (aR S) w σ → BR (aG S) (aR S) w ρ → σ.1 144 9 = i32 p → BH σ bc → LV ρ (d + 1) p b → b ≤ p → sn w p ≠ 32 → (m = 0 → sn w p = 44) → H6 σ (166 + d) c → SmV (aG S) c → f s = c → ∃ rc rr σ' ρ' f', loopO (fun (z21 : (Mem × Int32)) => l_X5_readSquare_52 recC (i32 d) (166 + d) z21.1 z21.2) (σ, i32 m) = some rc ∧ loopO (fun (z4 : (Mem × Int32)) => l_X11_readCommutator_2 recR (i32 s) z4.1 z4.2) (PS ρ f, i32 m) = some rr ∧ FRx (Pf d) σ σ' ∧ FRr ρ ρ' ∧ (∀ t, t < s → f' t = f t) ∧ COut S w d s p rc rr σ' ρ' f' := by
  intro n
  induction n with
  | zero => intro p m b bc σ ρ f c hn; exact absurd hn (Nat.not_lt_zero _)
  | succ n ih =>
    intro p m b bc σ ρ f c hn hmp hp hC hR h9 h10 hL hb h32 hm44 hA sc hf
    obtain ⟨rW, _, _, lW, _, _⟩ := rows_d (d := d + 1) (by omega)
    obtain ⟨_, _, rCm, _, _, lC⟩ := rows_d (d := d) (by omega)
    have ew : f_X11_isWrong (PS ρ f) = some false := r_isWrong_no hL.2.1
    have g21 : (PS ρ f).1 306 21 = i32 p := hL.1
    by_cases h44 : sn w p = 44
    · have hlt := sn_lt h44 (by decide)
      -- the reference's body
      have hb0 : l_X11_readCommutator_2 recR (i32 s) (PS ρ f) (i32 m) = j_X11_readCommutator_22 recR (i32 s) (i32 m) (PS ρ f) := by
        unfold l_X11_readCommutator_2
        rw [ew, e_bs, if_neg (by decide)]
        by_cases hm0 : m = 0
        · rw [hm0, if_pos (show i32 0 = 0 from rfl), e_bs]; rfl
        · rw [if_neg (i_ne0 hm0 (by omega)), r_skip (σ := PS ρ f) hR.2.2.1 g21 (Sk_same hp h32), e_bq, wI_id g21, if_pos h44, e_bs]; rfl
      have e2 := r_must_yes (f := f) hR.2.2.1 hL.2.1 hL.1 hp h32 h44
      have e22 := r_j22 (S := S) (recR := recR) (m := m) (s := s) (v8 := p + 1) (by omega) e2 (by rw [wI_1, if_pos ⟨rfl, rfl⟩])
      -- the class's body
      have g9 : (wI σ 144 9 (i32 (p + 1))).1 144 9 = i32 (p + 1) := by rw [wI_1, if_pos ⟨rfl, rfl⟩]
      have f0 : FRx (Pf d) σ (wI σ 144 9 (i32 (p + 1))) := FRx.fld (by omega)
      have fr0 : FRr ρ (wI (wI ρ 306 21 (i32 (p + 1))) 306 23 (i32 (p + 1))) := (FRr.fld (by omega)).trans (FRr.fld (by omega))
      obtain ⟨r, σ1, ρ1, f1, e3, e4, fx, fr, kf, hout⟩ := jl (wI σ 144 9 (i32 (p + 1))) (wI (wI ρ 306 21 (i32 (p + 1))) 306 23 (i32 (p + 1))) f (s + 1) (p + 1) bc (p + 1) (by omega) (hC.frx f0 (fun x hx => Pf_72 hx)) (hR.frr fr0) (by omega) g9 h10.at ((hL.at (q := p + 1)).bh (q := p + 1)) (Nat.le_refl _)
      have fx1 : FRx (Pf d) σ σ1 := f0.trans (fx.mono (fun x hx => Pw_Pf hx))
      have fr1 : FRr ρ ρ1 := fr0.trans fr
      have f1s : f1 s = c := by rw [kf s (by omega), hf]
      have hcl : l_X5_readSquare_52 recC (i32 d) (166 + d) σ (i32 m) = if r = true then (f_X0_commutator σ1 (166 + d) (166 + d) (147 + d)).bind (fun (σ28 : Mem) => (f_X0_isWithin σ28 (166 + d) 999).bind (fun (b29 : Bool) => if b29 then some (Sum.inl (σ28, i32 (m + 1))) else some (Sum.inr (Sum.inl σ28)))) else some (Sum.inr (Sum.inr (Sum.inr (false, σ1)))) := by
        unfold l_X5_readSquare_52
        rw [show (200 : Int32) = i32 200 from rfl, if_neg (i_nle (by omega) (by omega)), c_sign hC.2.1 hp h9, e_bs, if_pos h44, e_gF, h9, i32_1, i32_add, e_pF, i32_add, e3, e_bq, e_gR ln_145s.1 (by omega) (by omega), rW, i32_add, show 146 + (d + 1) = 147 + d by omega]
      have hrl : l_X11_readCommutator_2 recR (i32 s) (PS ρ f) (i32 m) = (f_X11_isWrong (PS ρ1 f1)).bind (fun (b11 : Bool) => if b11 then some (Sum.inr (Sum.inr (PS ρ1 f1))) else (f_X11_commutator (PS ρ1 f1) (i32 s) (i32 (s + 1)) (i32 (s + 2))).bind (fun (σ12 : Mem) => (f_X11_copies σ12 (i32 (s + 2)) (i32 s)).bind (fun (σ13 : Mem) => (f_X11_checks σ13 (i32 s)).bind (fun (σ14 : Mem) => bd (i32 (m + 1)) (fun (v15 : Int32) => some (Sum.inl (σ14, v15))))))) := by
        rw [hb0, e22, e4, e_bs]
      rcases hout with ⟨q, b1, b1', v, rfl, k9, k10, hL1, hb1, hpq, hq, hq32, hAv, sv, hf1, hbv⟩ | ⟨k, t, rfl, hW⟩ | ⟨t, rfl, hO, so⟩
      · -- the word read: the commutator
        have hC1 := hC.frx fx1 (fun x hx => Pf_72 hx)
        have hR1 := hR.frr fr1
        have hA1 : H6 σ1 (166 + d) c := hA.row (by
          have h1 : σ1.2 (166 + d) = (wI σ 144 9 (i32 (p + 1))).2 (166 + d) := fx.2.2 _ (by unfold Pw; omega)
          exact h1)
        have n166 : notSum (166 + d) := fun k hk => by omega
        have lW' : ln (147 + d) = 6 := by rw [show 147 + d = 146 + (d + 1) by omega]; exact lW
        have hAv' : H6 σ1 (147 + d) v := by rw [show 147 + d = 146 + (d + 1) by omega]; exact hAv
        obtain ⟨σ2, e5, o2, c2⟩ := c_commutator hG (hC1.poly hG) (out := 166 + d) (a := 166 + d) (b := 147 + d) lC lC lW' hA1 hAv' (by omega) (by omega) n166 (by omega) (by omega) (M := 999) (by omega) (by omega) sc.sb sv.sb sc.z6 sv.z6
        have zc : Z6 (aG S) (mul (aG S) (inv (aG S) (mul (aG S) v c)) (mul (aG S) c v)) := Z6.muls hG Z6.invs
        have e6 := c_isElement hG lC c2 zc
        have fx2 : FRx (Pf d) σ1 σ2 := o2.frx (fun y hy => by unfold Pf; omega)
        obtain ⟨g, B, e7, gB, hB, zB, kg⟩ := r_comm (S := S) (ρ := ρ1) (f := f1) (s := s) hG hR1 (by omega) (by rw [f1s]; exact sc) (by rw [hf1]; exact sv)
        rw [f1s, hf1] at hB
        have hBe : EqG (aG S) B (mul (aG S) (inv (aG S) (mul (aG S) v c)) (mul (aG S) c v)) := by
          rw [hB]
          exact (comm_eq hG hJ).symm
        have hee := isEl_congr hBe
        obtain ⟨σ12, e7a, e7b⟩ := Option.bind_eq_some_iff.mp e7
        have ew1 : f_X11_isWrong (PS ρ1 f1) = some false := r_isWrong_no hL1.2.1
        rw [ew1, e_bs, if_neg (by decide), e7a, e_bs, e7b, e_bs] at hrl
        rw [if_pos rfl, e5, e_bs, e6, e_bs] at hcl
        have hk9 : σ2.1 144 9 = i32 q := by rw [o2.1]; exact k9
        have hk10 : BH σ2 b1' := k10.of (by rw [o2.1])
        rcases r_checks_live (w := w) (f := g) (s := s) hG hR1.1 hL1 hq hwl hb1 (by omega) gB zB with ⟨hel, e8⟩ | ⟨hel, ρ2, e8, fr2, de2⟩
        · have hel2 : isEl (aG S) (mul (aG S) (inv (aG S) (mul (aG S) v c)) (mul (aG S) c v)) = true := by rw [← hee]; exact hel
          rw [hel2, if_pos rfl] at hcl
          rw [e8, e_bs, e_bd] at hrl
          have hnr := nrm_congr hBe
          obtain ⟨rc, rr, σ', ρ', f', b1, b2, b3, b4, b5, b6⟩ := ih q (m + 1) _ _ σ2 ρ1 (uS g s (nrm (aG S) B)) (nrm (aG S) B) (by omega) (by omega) hq (hC1.frx fx2 (fun x hx => Pf_72 hx)) hR1 hk9 hk10 hL1 hb1 hq32 (fun z => by omega) (by rw [hnr]; exact c2.nrm zc) (nrm_sm hel) uS_self
          refine ⟨rc, rr, σ', ρ', f', by rw [lp_go hcl]; exact b1, by rw [lp_go hrl]; exact b2, fx1.trans (fx2.trans b3), fr1.trans b4, fun t ht => by rw [b5 t ht, uS_ne (by omega), kg t ht, kf t (by omega)], ?_⟩
          rcases b6 with ⟨q', b', b'', c', x1, x2, x3, x3', x4, x5, x6⟩ | x | x | x
          · exact Or.inl ⟨q', b', b'', c', x1, x2, x3, x3', x4, by omega, x6⟩
          · exact Or.inr (Or.inl x)
          · exact Or.inr (Or.inr (Or.inl x))
          · exact Or.inr (Or.inr (Or.inr x))
        · have hel2 : isEl (aG S) (mul (aG S) (inv (aG S) (mul (aG S) v c)) (mul (aG S) c v)) = false := by rw [← hee]; exact hel
          rw [hel2, if_neg (by decide)] at hcl
          rw [e8, e_bs, e_bd] at hrl
          have hbb : b1' = b1 := by
            rcases hbv with z | z
            · exact z
            · have := isEl_congr (comm_O hG hJ (c := c) z)
              rw [hel2, isEl_O] at this
              cases this
          obtain ⟨rr, ρ', f', p', b1, b2, b3, b4, b5, b6, b7⟩ := d_commas hG jo jw hd hs hwl (w.length - q + 1) q (m + 1) ρ2 (uS g s O) (by omega) (by omega) (hR1.frr fr2) de2 (by rw [uS_self]; exact SmV.O)
          refine ⟨_, rr, σ2, ρ', f', lp_end hcl, by rw [lp_go hrl]; exact b1, fx1.trans fx2, fr1.trans (fr2.trans b3), fun t ht => by rw [b4 t ht, uS_ne (by omega), kg t ht, kf t (by omega)], Or.inr (Or.inr (Or.inr ⟨_, p', rfl, b2, by rw [hk10.1, hbb], b5, b7⟩))⟩
      · rw [if_neg (by decide)] at hcl
        have ew1 : f_X11_isWrong (PS ρ1 f1) = some true := r_isWrong_yes (t := t) (by have := hW.2.2.2.1; omega) hW.2.2.2.2.2.1
        rw [ew1, e_bs, if_pos rfl] at hrl
        exact ⟨_, _, σ1, ρ1, f1, lp_end hcl, lp_end hrl, fx1, fr1, fun t ht => kf t (by omega), Or.inr (Or.inl ⟨k, t, rfl, rfl, hW⟩)⟩
      · rw [if_neg (by decide)] at hcl
        obtain ⟨o1, o2, p1, de1⟩ := hO
        have hR1 := hR.frr fr1
        rcases de1.2.2.2.2.2 with n4 | ⟨t', t1, t2, t3⟩
        · have ew1 : f_X11_isWrong (PS ρ1 f1) = some false := r_isWrong_no n4
          obtain ⟨g, B, e7, gB, hB, zB, kg⟩ := r_comm (S := S) (ρ := ρ1) (f := f1) (s := s) hG hR1 (by omega) (by rw [f1s]; exact sc) so
          obtain ⟨σ12, e7a, e7b⟩ := Option.bind_eq_some_iff.mp e7
          have e8 := r_checks_dead (f := g) (s := s) de1 hwl (by omega)
          rw [ew1, e_bs, if_neg (by decide), e7a, e_bs, e7b, e_bs, e8, e_bs, e_bd] at hrl
          obtain ⟨rr, ρ', f', p', b1, b2, b3, b4, b5, b6, b7⟩ := d_commas hG jo jw hd hs hwl (w.length - p1 + 1) p1 (m + 1) ρ1 (uS g s O) (by omega) (by omega) hR1 de1 (by rw [uS_self]; exact SmV.O)
          exact ⟨_, rr, σ1, ρ', f', lp_end hcl, by rw [lp_go hrl]; exact b1, fx1, fr1.trans b3, fun t ht => by rw [b4 t ht, uS_ne (by omega), kg t ht, kf t (by omega)], Or.inr (Or.inr (Or.inl ⟨t, rfl, b2, ⟨o1, o2, p', b5⟩, b7⟩))⟩
        · have ew1 : f_X11_isWrong (PS ρ1 f1) = some true := r_isWrong_yes (t := t') (by omega) t3
          rw [ew1, e_bs, if_pos rfl] at hrl
          exact ⟨_, _, σ1, ρ1, f1, lp_end hcl, lp_end hrl, fx1, fr1, fun t ht => kf t (by omega), Or.inr (Or.inr (Or.inl ⟨t, rfl, Or.inr rfl, ⟨o1, o2, p1, de1⟩, by rw [f1s]; exact sc⟩))⟩
    · -- no comma: both are through
      have hm0 : m ≠ 0 := fun z => h44 (hm44 z)
      have hcl : l_X5_readSquare_52 recC (i32 d) (166 + d) σ (i32 m) = some (Sum.inr (Sum.inr (Sum.inl σ))) := by
        unfold l_X5_readSquare_52
        rw [show (200 : Int32) = i32 200 from rfl, if_neg (i_nle (by omega) (by omega)), c_sign hC.2.1 hp h9, e_bs, if_neg h44]
      have hrl : l_X11_readCommutator_2 recR (i32 s) (PS ρ f) (i32 m) = some (Sum.inr (Sum.inl (PS ρ f))) := by
        unfold l_X11_readCommutator_2
        rw [ew, e_bs, if_neg (by decide), if_neg (i_ne0 hm0 (by omega)), r_skip (σ := PS ρ f) hR.2.2.1 g21 (Sk_same hp h32), e_bq, wI_id g21, if_neg h44, e_bs]
        rfl
      exact ⟨_, _, σ, ρ, f, lp_end hcl, lp_end hrl, FRx.refl, FRr.refl, fun _ _ => rfl, Or.inl ⟨p, b, bc, c, rfl, rfl, h9, h10, hL, Nat.le_refl _, hp, h32, hA, sc, hf⟩⟩
end SQB
