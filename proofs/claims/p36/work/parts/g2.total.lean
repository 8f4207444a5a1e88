/-! the reference: making ends whatever is due -/
section TOT
variable {σ : Mem}
/-- one number cleared, whatever is due -/
def CloT (m f k : Nat) (D : Nat → Nat → Int) (pv : Bool) : Prop := (pv = false ∧ ∀ c, f ≤ c → c < m → D c k = 0) ∨ (pv = true ∧ f < m ∧ D f k ≠ 0 ∧ ∀ c, f < c → c < m → D c k = 0)
theorem r_clearsAtT {C : Nat → Nat → Int} {m f k : Nat} (hm : m ≤ 20) (hfm : f ≤ m) (hk : k < 18) (hC : Cl σ C m) (h31 : σ.1 306 31 = i32 m) (h33 : σ.1 306 33 = 0) (hX : ∀ c, f ≤ c → c < m → Wi (2 ^ 62) (C c k)) : ∃ b pv τ D, f_X11_clearsAt σ (i32 f) (i32 k) = some (b, τ) ∧ FCm σ τ ∧ τ.1 306 34 = σ.1 306 34 ∧ τ.1 306 33 = b2i pv ∧ Cl τ D m ∧ Cln m f k C D ∧ CloT m f k D pv := by
  obtain ⟨x, e, τ, D, fr, hD, hcl, hW, hx⟩ := r_clearLoop hm hfm hk hC h31 hX
  have g33 : τ.1 306 33 = 0 := by rw [fr.1]; exact h33
  unfold f_X11_clearsAt
  rw [e, e_bs]
  rcases hx with ⟨rfl, hz⟩ | ⟨rfl, hf1, hp, hz⟩
  · refine ⟨decide (τ.2 321 k = 0), false, τ, D, ?_, fr.cm, by rw [fr.1], g33, hD, hcl, Or.inl ⟨rfl, hz⟩⟩
    show (j_X11_clearsAt_75 (i32 k) τ).bind _ = _
    unfold j_X11_clearsAt_75
    rw [e_gL ln_321 hk (by omega)]
    by_cases h0 : τ.2 321 k = 0
    · rw [if_pos h0, e_bs, decide_eq_true h0]
      rfl
    · rw [if_neg h0, e_bs, decide_eq_false h0]
      rfl
  · have wf := hW f (Nat.le_refl _) hf1
    have fr1 : FCm σ (wI τ 306 33 1) := fr.cm.trans (FCm.fld (by omega))
    have q1 : (wI τ 306 33 1).1 306 34 = σ.1 306 34 := by rw [wI_1, if_neg (by omega), fr.1]
    have q2 : (wI τ 306 33 1).1 306 33 = b2i true := by rw [wI_1, if_pos ⟨rfl, rfl⟩]; rfl
    have hD1 : Cl (wI τ 306 33 1) D m := hD
    have vp : f_X11_ofColumn (wI τ 306 33 1) (i32 f) (i32 k) = some (oi (D f k)) := by rw [r_ofColumn (by omega) hk]; exact congrArg some (hD f k hf1 hk)
    have np : oi (D f k) ≠ 0 := fun q => hp ((oi_is0 wf).mp q)
    show ∃ b pv τ' D, (j_X11_clearsAt_176 (i32 f) (i32 k) τ) = some (b, τ') ∧ _
    unfold j_X11_clearsAt_176
    rw [e_pF, e_gL ln_321 hk (by omega), vp, e_bs, e_nzL np]
    split
    · rw [e_gL ln_321 hk (by omega), e_bs, e_nzL np, e_bd, r_dueLess (by omega)]
      exact ⟨true, true, _, D, rfl, fr1.trans ⟨fun _ _ => rfl, fun _ _ _ => rfl, fun x _ h2 => rwL_x h2⟩, q1, q2, fun c j hc hj => by rw [rwL_x (by omega)]; exact hD c j hc hj, hcl, Or.inr ⟨rfl, hf1, hp, hz⟩⟩
    · exact ⟨false, true, _, D, rfl, fr1, q1, q2, hD1, hcl, Or.inr ⟨rfl, hf1, hp, hz⟩⟩
theorem r_canMakeT {C0 : Nat → Nat → Int} {m : Nat} {Bd : Nat → Nat → (Nat → Nat → Int) → Prop} (hm : m ≤ 20) (hC : Cl σ C0 m) (h31 : σ.1 306 31 = i32 m) (hB : ∀ k f C, k < 6 → f ≤ m → Bd k f C → (∀ c, f ≤ c → c < m → Wi (2 ^ 62) (C c k)) ∧ ∀ D pv, Cln m f k C D → CloT m f k D pv → Bd (k + 1) (f + if pv = true then 1 else 0) D) (h0 : Bd 0 0 C0) : ∃ b τ, f_X11_canMake σ = some (b, τ) ∧ FCm σ τ ∧ (b = true → ∃ f C, f ≤ m ∧ τ.1 306 34 = i32 f ∧ Cl τ C m ∧ Bd 6 f C) := by
  unfold f_X11_canMake
  rw [e_pF]
  have hl := loop_inv (body := fun (z3 : (Mem × Int32)) => l_X11_canMake_7 z3.1 z3.2) (fun n z => ∃ k f C τ, k ≤ 6 ∧ f ≤ m ∧ n = 6 - k ∧ z = (τ, i32 k) ∧ FCm σ τ ∧ τ.1 306 34 = i32 f ∧ Cl τ C m ∧ Bd k f C) (fun x => ∃ b τ, x = (b, τ) ∧ FCm σ τ ∧ (b = true → ∃ f C, f ≤ m ∧ τ.1 306 34 = i32 f ∧ Cl τ C m ∧ Bd 6 f C)) ?_ 6 (wI σ 306 34 0, 0) ⟨0, 0, C0, wI σ 306 34 0, by omega, by omega, rfl, rfl, FCm.fld (by omega), by rw [wI_1, if_pos ⟨rfl, rfl⟩]; rfl, hC, h0⟩
  · obtain ⟨x, e, b, τ, rfl, h1, h2⟩ := hl
    exact ⟨b, τ, e, h1, h2⟩
  · rintro n z ⟨k, f, C, τ, hk, hfm, rfl, rfl, fr, h34, hC, hBd⟩
    by_cases hk6 : k = 6
    · right
      subst hk6
      refine ⟨_, ?_, true, τ, rfl, fr, fun _ => ⟨f, C, hfm, h34, hC, hBd⟩⟩
      show l_X11_canMake_7 τ (i32 6) = _
      unfold l_X11_canMake_7
      rw [if_pos (by decide)]
    · have hk' : k < 6 := by omega
      obtain ⟨hX, hnext⟩ := hB k f C hk' hfm hBd
      have g31 : (wI τ 306 33 0).1 306 31 = i32 m := by rw [wI_1, if_neg (by omega), fr.2.1 31 (by omega) (by omega)]; exact h31
      have g34 : (wI τ 306 33 0).1 306 34 = i32 f := by rw [wI_1, if_neg (by omega)]; exact h34
      have g33 : (wI τ 306 33 0).1 306 33 = 0 := by rw [wI_1, if_pos ⟨rfl, rfl⟩]
      obtain ⟨b, pv, τ2, D, e, fr2, q34, q33, hD, hcl, hclo⟩ := r_clearsAtT (σ := wI τ 306 33 0) (C := C) (f := f) (k := k) hm hfm (by omega) hC g31 g33 hX
      have FR : FCm σ τ2 := fr.trans ((FCm.fld (by omega)).trans fr2)
      have h6 : ¬ 6 ≤ i32 k := i_nle (a := 6) hk' (by omega)
      cases b with
      | false =>
        right
        refine ⟨(false, τ2), ?_, false, τ2, rfl, FR, fun q => absurd q (by decide)⟩
        show l_X11_canMake_7 τ (i32 k) = _
        unfold l_X11_canMake_7
        rw [if_neg h6, e_pF, e_gF, g34, e, e_bq, if_neg (by decide)]
      | true =>
        left
        have hB2 := hnext D pv hcl hclo
        rw [g34] at q34
        cases pv with
        | true =>
          have hf1 : f < m := by
            rcases hclo with ⟨q, _⟩ | ⟨_, q, _⟩
            · exact absurd q (by decide)
            · exact q
          rw [if_pos rfl] at hB2
          have FR3 : FCm σ (wI τ2 306 34 (i32 (f + 1))) := FR.trans (FCm.fld (by omega))
          refine ⟨(wI τ2 306 34 (i32 (f + 1)), i32 (k + 1)), 6 - (k + 1), by omega, ?_, k + 1, f + 1, D, _, by omega, hf1, rfl, rfl, FR3, by rw [wI_1, if_pos ⟨rfl, rfl⟩], hD, hB2⟩
          show l_X11_canMake_7 τ (i32 k) = _
          unfold l_X11_canMake_7
          rw [if_neg h6, e_pF, e_gF, g34, e, e_bq, if_pos rfl, e_gZ q33, if_pos rfl, e_gF, q34, e_pF, e_bs, i32_1, i32_add]
          unfold j_X11_canMake_49
          rw [i32_1, i32_add]
        | false =>
          rw [if_neg (by decide), Nat.add_zero] at hB2
          refine ⟨(τ2, i32 (k + 1)), 6 - (k + 1), by omega, ?_, k + 1, f, D, _, by omega, hfm, rfl, rfl, FR, q34, hD, hB2⟩
          show l_X11_canMake_7 τ (i32 k) = _
          unfold l_X11_canMake_7
          rw [if_neg h6, e_pF, e_gF, g34, e, e_bq, if_pos rfl, e_gZ q33, if_neg (by decide), e_bs]
          unfold j_X11_canMake_49
          rw [i32_1, i32_add]
end TOT
