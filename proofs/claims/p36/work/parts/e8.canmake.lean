/-! the reference clears a number, then all six -/
section CMK
variable {σ : Mem}
theorem swp_f {C : Nat → Nat → Int} {b f : Nat} : swpC C b f f = C b := by
  unfold swpC
  by_cases h : f = b
  · rw [if_pos h, h]
  · rw [if_neg h, if_pos rfl]
theorem swp_perm {C : Nat → Nat → Int} {m b f c : Nat} (hb : f ≤ b) (hb2 : b < m) (h1 : f ≤ c) (h2 : c < m) : ∃ e, f ≤ e ∧ e < m ∧ swpC C b f c = C e := by
  unfold swpC
  by_cases h : c = b
  · exact ⟨f, Nat.le_refl _, by omega, by rw [if_pos h]⟩
  · by_cases h3 : c = f
    · exact ⟨b, hb, hb2, by rw [if_neg h, if_pos h3]⟩
    · exact ⟨c, h1, h2, by rw [if_neg h, if_neg h3]⟩
theorem r_clearLoop {C : Nat → Nat → Int} {m f k : Nat} (hm : m ≤ 20) (hfm : f ≤ m) (hk : k < 18) (hC : Cl σ C m) (h31 : σ.1 306 31 = i32 m) (hX : ∀ c, f ≤ c → c < m → Wi (2 ^ 62) (C c k)) : ∃ x, loopO (fun (z16 : (Mem × Int32)) => l_X11_clearsAt_2 (i32 f) (i32 k) z16.1 z16.2) (σ, i32 f) = some x ∧ ∃ τ D, FC0 σ τ ∧ Cl τ D m ∧ Cln m f k C D ∧ (∀ c, f ≤ c → c < m → Wi (2 ^ 62) (D c k)) ∧ ((x = Sum.inl τ ∧ ∀ c, f ≤ c → c < m → D c k = 0) ∨ (x = Sum.inr (Sum.inl τ) ∧ f < m ∧ D f k ≠ 0 ∧ ∀ c, f < c → c < m → D c k = 0)) := by
  refine loop_inv (body := fun (z16 : (Mem × Int32)) => l_X11_clearsAt_2 (i32 f) (i32 k) z16.1 z16.2) (fun n z => ∃ τ D r, z = (τ, r) ∧ FC0 σ τ ∧ Cl τ D m ∧ Cln m f k C D ∧ (∀ c, f ≤ c → c < m → Wi (2 ^ 62) (D c k)) ∧ ((r = -1 ∧ f < m ∧ D f k ≠ 0 ∧ ∀ c, f < c → c < m → D c k = 0) ∨ (r ≠ -1 ∧ ((∀ c, f ≤ c → c < m → D c k = 0) ∨ ∃ c, f ≤ c ∧ c < m ∧ D c k ≠ 0 ∧ (D c k).natAbs < n)))) _ ?_ (2 ^ 62 + 1) (σ, i32 f) ⟨σ, C, i32 f, rfl, FC0.refl, hC, Cln.refl, hX, Or.inr ⟨ne_m1 (by omega), ?_⟩⟩
  · rintro n z ⟨τ, D, r, rfl, fr, hD, hcl, hW, hr⟩
    have g31 : τ.1 306 31 = i32 m := by rw [fr.1]; exact h31
    rcases hr with ⟨rfl, a1, a2, a3⟩ | ⟨hne, hmeas⟩
    · right
      refine ⟨_, ?_, τ, D, fr, hD, hcl, hW, Or.inr ⟨rfl, a1, a2, a3⟩⟩
      show l_X11_clearsAt_2 (i32 f) (i32 k) τ (-1) = _
      unfold l_X11_clearsAt_2
      rw [if_pos rfl]
    · obtain ⟨r2, e2, hb⟩ := r_best (σ := τ) hm hfm hk hD g31 hW
      rcases hb with ⟨rfl, hz⟩ | ⟨b, rfl, b1, b2, b3, b4⟩
      · right
        refine ⟨_, ?_, τ, D, fr, hD, hcl, hW, Or.inl ⟨rfl, hz⟩⟩
        show l_X11_clearsAt_2 (i32 f) (i32 k) τ r = _
        unfold l_X11_clearsAt_2
        rw [if_neg hne, e2, e_bs]
        unfold j_X11_clearsAt_70
        rw [if_pos rfl]
      · have hfm' : f < m := by omega
        have e3 := r_changes (σ := τ) (a := b) (b := f) (by omega) (by omega)
        have hS := hD.swp (a := b) (b := f) b2 hfm'
        have frS : FC0 σ (rwL τ 320 (chF (τ.2 320) b f 18)) := fr.trans FC0.rw
        generalize rwL τ 320 (chF (τ.2 320) b f 18) = τ1 at e3 hS frS
        have clS : Cln m f k C (swpC D b f) := fun I i1 i2 i3 => i1 D b b1 b2 (hcl I i1 i2 i3)
        have hWS : ∀ c, f ≤ c → c < m → Wi (2 ^ 62) (swpC D b f c k) := fun c c1 c2 => by
          obtain ⟨e, q1, q2, q3⟩ := swp_perm (C := D) b1 b2 c1 c2
          rw [q3]
          exact hW e q1 q2
        have hpf : swpC D b f f k = D b k := by rw [swp_f]
        have h0 : swpC D b f f k ≠ 0 := by rw [hpf]; exact b3
        have hmin : ∀ c, f ≤ c → c < m → swpC D b f c k ≠ 0 → (swpC D b f f k).natAbs ≤ (swpC D b f c k).natAbs := fun c c1 c2 c3 => by
          obtain ⟨e, q1, q2, q3⟩ := swp_perm (C := D) b1 b2 c1 c2
          rw [q3] at c3 ⊢
          rw [hpf]
          exact b4 e q1 q2 c3
        have g31' : τ1.1 306 31 = i32 m := by rw [frS.1]; exact h31
        obtain ⟨mo, τ2, e4, fr4, hR, hmo⟩ := r_round (σ := τ1) hm hfm' hk hS g31' hWS h0
        have clR : Cln m f k C (rndC (swpC D b f) f k m) := fun I i1 i2 i3 => i2 _ h0 hmin (clS I i1 i2 i3)
        have hmod : ∀ c, f < c → c < m → (rndC (swpC D b f) f k m c k).natAbs < (D b k).natAbs := fun c c1 c2 => by
          rw [rnd_in ⟨c1, c2⟩, ← hpf]
          exact (tmod_btw h0).2
        have wb := hW b b1 b2
        have hrf : rndC (swpC D b f) f k m f k = D b k := by rw [rnd_at (by omega), hpf]
        have hWR : ∀ c, f ≤ c → c < m → Wi (2 ^ 62) (rndC (swpC D b f) f k m c k) := fun c c1 c2 => by
          by_cases hcf : c = f
          · rw [hcf, hrf]; exact wb
          · have := hmod c (by omega) c2
            have := wb.1
            have := wb.2
            exact ⟨by omega, by omega⟩
        have hbody : l_X11_clearsAt_2 (i32 f) (i32 k) τ r = some (Sum.inl (τ2, if mo = true then i32 b else -1)) := by
          unfold l_X11_clearsAt_2
          rw [if_neg hne, e2, e_bs]
          unfold j_X11_clearsAt_70
          rw [if_neg (ne_m1 (by omega)), e3, e_bs, e_bd, i32_1, i32_add, e4, e_bs]
          show j_X11_clearsAt_166 (i32 b) τ2 (b2i mo) = _
          unfold j_X11_clearsAt_166
          cases mo with
          | true => rw [if_neg (by decide), e_bs, if_pos rfl]; rfl
          | false => rw [if_pos (show b2i false = 0 from rfl), e_bs, if_neg (by decide)]; rfl
        left
        have hlt : (D b k).natAbs < n := by
          rcases hmeas with q | ⟨c, c1, c2, c3, c4⟩
          · exact absurd (q b b1 b2) b3
          · have := b4 c c1 c2 c3
            omega
        refine ⟨(τ2, if mo = true then i32 b else -1), (D b k).natAbs, hlt, hbody, τ2, rndC (swpC D b f) f k m, _, rfl, frS.trans fr4, hR, clR, hWR, ?_⟩
        cases mo with
        | true =>
          obtain ⟨c, c1, c2, c3⟩ := hmo.mp rfl
          exact Or.inr ⟨by rw [if_pos rfl]; exact ne_m1 (by omega), Or.inr ⟨c, by omega, c2, c3, hmod c c1 c2⟩⟩
        | false =>
          refine Or.inl ⟨by rw [if_neg (by decide)], hfm', by rw [hrf]; exact b3, fun c c1 c2 => ?_⟩
          refine Classical.byContradiction (fun q => ?_)
          exact absurd (hmo.mpr ⟨c, c1, c2, q⟩) (by decide)
  · by_cases hz : ∀ c, f ≤ c → c < m → C c k = 0
    · exact Or.inl hz
    · refine Or.inr (Classical.byContradiction (fun q => hz (fun c c1 c2 => Classical.byContradiction (fun z => q ⟨c, c1, c2, z, ?_⟩))))
      have := (hX c c1 c2).1
      have := (hX c c1 c2).2
      omega
/-- what is due -/
def Du (σ : Mem) (d : Nat → Int) : Prop := ∀ j, j < 18 → σ.2 321 j = oi (d j)
/-- what making changes -/
def FCm (σ τ : Mem) : Prop := (∀ x, x ≠ 306 → τ.1 x = σ.1 x) ∧ (∀ c, c ≠ 33 → c ≠ 34 → τ.1 306 c = σ.1 306 c) ∧ ∀ x, x ≠ 320 → x ≠ 321 → τ.2 x = σ.2 x
theorem FCm.refl : FCm σ σ := ⟨fun _ _ => rfl, fun _ _ _ => rfl, fun _ _ _ => rfl⟩
theorem FCm.trans {τ υ : Mem} (h : FCm σ τ) (k : FCm τ υ) : FCm σ υ := ⟨fun x h1 => (k.1 x h1).trans (h.1 x h1), fun c h1 h2 => (k.2.1 c h1 h2).trans (h.2.1 c h1 h2), fun x h1 h2 => (k.2.2 x h1 h2).trans (h.2.2 x h1 h2)⟩
theorem FC0.cm {τ : Mem} (h : FC0 σ τ) : FCm σ τ := ⟨fun x _ => by rw [h.1], fun c _ _ => by rw [h.1], fun x h1 _ => h.2 x h1⟩
theorem FCm.fld {c : Nat} {v : Int32} (h : c = 33 ∨ c = 34) : FCm σ (wI σ 306 c v) := ⟨fun x hx => by funext y; rw [wI_1, if_neg (fun q => hx q.1)], fun d h1 h2 => by rw [wI_1, if_neg (by omega)], fun _ _ _ => rfl⟩
theorem r_dueLess {f : Nat} {t : Int64} (hf : f < 20) : loopO (fun (z9 : (Mem × Int32)) => l_X11_clearsAt_219 (i32 f) t z9.1 z9.2) (σ, 0) = some (true, rwL σ 321 (fun y => if y < 18 then σ.2 321 y - t * σ.2 320 (18 * f + y) else σ.2 321 y)) := by
  refine loop_at (body := fun (z9 : (Mem × Int32)) => l_X11_clearsAt_219 (i32 f) t z9.1 z9.2) (fun i => (rwL σ 321 (fun y => if y < i then σ.2 321 y - t * σ.2 320 (18 * f + y) else σ.2 321 y), i32 i)) 0 18 ?_ (by omega) (fun i _ hi => ?_) ?_
  · exact Prod.ext (rwL_id (fun y => if_neg (Nat.not_lt_zero _))) rfl
  · show l_X11_clearsAt_219 (i32 f) t (rwL σ 321 (fun y => if y < i then σ.2 321 y - t * σ.2 320 (18 * f + y) else σ.2 321 y)) (i32 i) = _
    unfold l_X11_clearsAt_219
    rw [i32_18, if_neg (i_nle hi (by omega)), e_gL ln_321 (by omega) (by omega), r_ofColumn hf (by omega), e_bs, e_pL ln_321 (by omega) (by omega), rwL_w, rwL_a, if_neg (Nat.lt_irrefl _), rwL_x (by omega), i32_1, i32_add]
    refine congrArg (fun τ => some (Sum.inl (τ, i32 (i + 1)))) (rwL_congr (fun y => ?_))
    by_cases hy : y = i
    · rw [if_pos hy, hy, if_pos (by omega)]
    · rw [if_neg hy]
      by_cases h2 : y < i
      · rw [if_pos h2, if_pos (by omega)]
      · rw [if_neg h2, if_neg (by omega)]
  · show l_X11_clearsAt_219 (i32 f) t (rwL σ 321 (fun y => if y < 18 then σ.2 321 y - t * σ.2 320 (18 * f + y) else σ.2 321 y)) (i32 18) = _
    unfold l_X11_clearsAt_219
    rw [if_pos (by decide)]
/-- one number cleared: what comes of it -/
def Clo (m f k : Nat) (C D : Nat → Nat → Int) (d : Nat → Int) (b pv : Bool) (d' : Nat → Int) : Prop := (pv = false ∧ (∀ c, f ≤ c → c < m → D c k = 0) ∧ (b = true ↔ d k = 0) ∧ d' = d) ∨ (pv = true ∧ f < m ∧ D f k ≠ 0 ∧ (∀ c, f < c → c < m → D c k = 0) ∧ (b = true ↔ (d k).tdiv (D f k) * D f k = d k) ∧ (b = true → d' = fun j => d j - (d k).tdiv (D f k) * D f j))
theorem r_clearsAt {C : Nat → Nat → Int} {d : Nat → Int} {m f k : Nat} (hm : m ≤ 20) (hfm : f ≤ m) (hk : k < 18) (hC : Cl σ C m) (hd : Du σ d) (h31 : σ.1 306 31 = i32 m) (h33 : σ.1 306 33 = 0) (hX : ∀ c, f ≤ c → c < m → Wi (2 ^ 62) (C c k)) (hdk : Wi (2 ^ 62) (d k)) : ∃ b pv τ D d', f_X11_clearsAt σ (i32 f) (i32 k) = some (b, τ) ∧ FCm σ τ ∧ τ.1 306 34 = σ.1 306 34 ∧ τ.1 306 33 = b2i pv ∧ Cl τ D m ∧ Cln m f k C D ∧ (b = true → Du τ d') ∧ Clo m f k C D d b pv d' := by
  obtain ⟨x, e, τ, D, fr, hD, hcl, hW, hx⟩ := r_clearLoop hm hfm hk hC h31 hX
  have g33 : τ.1 306 33 = 0 := by rw [fr.1]; exact h33
  have hdτ : Du τ d := fun j hj => by rw [fr.2 321 (by omega)]; exact hd j hj
  unfold f_X11_clearsAt
  rw [e, e_bs]
  rcases hx with ⟨rfl, hz⟩ | ⟨rfl, hf1, hp, hz⟩
  · refine ⟨decide (d k = 0), false, τ, D, d, ?_, fr.cm, by rw [fr.1], g33, hD, hcl, fun _ => hdτ, Or.inl ⟨rfl, hz, by rw [decide_eq_true_eq], rfl⟩⟩
    show (j_X11_clearsAt_75 (i32 k) τ).bind _ = _
    unfold j_X11_clearsAt_75
    rw [e_gL ln_321 hk (by omega), hdτ k hk]
    by_cases h0 : d k = 0
    · rw [if_pos ((oi_is0 hdk).mpr h0), e_bs, decide_eq_true h0]
      rfl
    · rw [if_neg (fun q => h0 ((oi_is0 hdk).mp q)), e_bs, decide_eq_false h0]
      rfl
  · have wf := hW f (Nat.le_refl _) hf1
    have fr1 : FCm σ (wI τ 306 33 1) := fr.cm.trans (FCm.fld (by omega))
    have q1 : (wI τ 306 33 1).1 306 34 = σ.1 306 34 := by rw [wI_1, if_neg (by omega), fr.1]
    have q2 : (wI τ 306 33 1).1 306 33 = b2i true := by rw [wI_1, if_pos ⟨rfl, rfl⟩]; rfl
    have hD1 : Cl (wI τ 306 33 1) D m := hD
    have vd : (wI τ 306 33 1).2 321 k = oi (d k) := hdτ k hk
    have vp : f_X11_ofColumn (wI τ 306 33 1) (i32 f) (i32 k) = some (oi (D f k)) := by rw [r_ofColumn (by omega) hk]; exact congrArg some (hD f k hf1 hk)
    have np : oi (D f k) ≠ 0 := fun q => hp ((oi_is0 wf).mp q)
    have hmod := tmod_btw (x := d k) hp
    have wm : Wi (2 ^ 62) (d k - (d k).tdiv (D f k) * D f k) := by
      have := wf.1
      have := wf.2
      exact ⟨by omega, by omega⟩
    show ∃ b pv τ' D d', (j_X11_clearsAt_176 (i32 f) (i32 k) τ) = some (b, τ') ∧ _
    unfold j_X11_clearsAt_176
    rw [e_pF, e_gL ln_321 hk (by omega), vp, e_bs, e_nzL np, vd, oi_quo hdk wf, oi_mul, oi_sub]
    by_cases h0 : (d k).tdiv (D f k) * D f k = d k
    · rw [if_pos ((oi_is0 wm).mpr (by omega)), e_gL ln_321 hk (by omega), vd, e_bs, e_nzL np, e_bd, oi_quo hdk wf, r_dueLess (by omega)]
      refine ⟨true, true, _, D, _, rfl, fr1.trans ⟨fun _ _ => rfl, fun _ _ _ => rfl, fun x _ h2 => rwL_x h2⟩, q1, q2, fun c j hc hj => by rw [rwL_x (by omega)]; exact hD c j hc hj, hcl, fun _ j hj => ?_, Or.inr ⟨rfl, hf1, hp, hz, ⟨fun _ => h0, fun _ => rfl⟩, fun _ => rfl⟩⟩
      rw [rwL_a, if_pos hj]
      show τ.2 321 j - oi _ * τ.2 320 (18 * f + j) = _
      rw [hdτ j hj, hD f j hf1 hj, oi_mul, oi_sub]
    · rw [if_neg (fun q => h0 (by have := (oi_is0 wm).mp q; omega))]
      exact ⟨false, true, _, D, d, rfl, fr1, q1, q2, hD1, hcl, fun q => absurd q (by decide), Or.inr ⟨rfl, hf1, hp, hz, ⟨fun q => absurd q (by decide), fun q => absurd q h0⟩, fun q => absurd q (by decide)⟩⟩
end CMK
