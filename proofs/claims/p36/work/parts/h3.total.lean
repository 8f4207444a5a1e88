/-! the reference's alike ends -/
section TTL
variable {σ : Mem} {G : GD} {f : SF} {m t : Nat}
theorem PS_cg {g : SF} (h : ∀ q i, q < 100 → i < 6 → oi (f q i) = oi (g q i)) : PS σ f = PS σ g := by
  unfold PS
  refine congrArg (Prod.mk σ.1) ?_
  funext x y
  by_cases h1 : x = 313 ∧ y < 600
  · rw [if_pos h1, if_pos h1]
    exact h _ _ (by omega) (by omega)
  · rw [if_neg h1, if_neg h1]
theorem PS_of {τ : Mem} (h : τ.2 313 = (PS σ f).2 313) : PS τ f = τ := by
  unfold PS
  refine Prod.ext rfl ?_
  funext x y
  show (if x = 313 ∧ y < 600 then oi (f (y / 6) (y % 6)) else τ.2 x y) = τ.2 x y
  by_cases h1 : x = 313 ∧ y < 600
  · rw [if_pos h1, h1.1, h]
    show _ = if 313 = 313 ∧ y < 600 then oi (f (y / 6) (y % 6)) else σ.2 313 y
    rw [if_pos ⟨rfl, h1.2⟩]
  · rw [if_neg h1]
theorem r_inLast {D : Nat → Nat → Int} {k : Nat} (hG : GOK G) (hJ : Jac G) (hM : MG σ G) (h0 : M0 σ) (hsh : ∀ i, i < gn G → gw G i = wS m t i) (hmt : m + t ≤ gn G) (hY : ∀ i, i < gn G → -30 ≤ f 1 i ∧ f 1 i ≤ 30) (hk : k ≤ m) (hkt : k ≤ t) (h36 : σ.1 306 36 = i32 (m - k)) (hD : ∀ e, e < m - k → ∀ i, i < 6 → σ.2 322 (6 * e + i) = oi (D e i)) (hDb : ∀ e, e < m - k → ∀ i, i < gn G → (D e i).natAbs ≤ hq m t (hF m (XN m t (gn G)) k) i) : ∃ b τ, f_X11_areAlikeInLast (PS σ f) = some (b, τ) ∧ FCa σ τ := by
  have hn := hG.2.1
  obtain ⟨fh, fq⟩ := fit2 hn hmt hk hkt
  obtain ⟨b, eb, hb⟩ := r_upTo (σ := σ) (f := f) hG hM (w := 2) (s := 2) (y := 1) (by omega) (by omega) (by omega)
  have eb' : f_X11_areAlikeUpTo (PS σ f) 2 2 1 = some b := eb
  unfold f_X11_areAlikeInLast
  rw [eb', e_bs]
  cases b with
  | false => exact ⟨false, PS σ f, by rw [if_neg (by decide)], FCa.ps⟩
  | true =>
    rw [if_pos rfl]
    have hbb := hb rfl
    generalize hA' : (fun i => if i < gn G ∧ gw G i ≤ 2 then f 1 i else f 2 i) = A'
    have hAi : ∀ i, A' i = if i < gn G ∧ gw G i ≤ 2 then f 1 i else f 2 i := fun i => by rw [← hA']
    have eqM : PS σ f = PS σ (uS f 2 A') := PS_cg (fun q i _ _ => by
      by_cases hq : q = 2
      · rw [hq, uS_self, hAi]
        by_cases h1 : i < gn G ∧ gw G i ≤ 2
        · rw [if_pos h1]; exact hbb i h1.1 h1.2
        · rw [if_neg h1]
      · rw [uS_ne hq])
    have g2 : uS f 2 A' 2 = A' := uS_self
    have hA2 : ∀ i, i < gn G → gw G i ≤ 2 → (uS f 2 A' 2 i).natAbs ≤ 30 := fun i hi hw => by
      rw [g2, hAi, if_pos ⟨hi, hw⟩]
      have := hY i hi
      omega
    rw [eqM, e_pF, PS_wI6]
    have frw : FCa σ (wI σ 306 31 0) := FCa.fld (by omega)
    obtain ⟨τ, e1, σ1, f1, C1, rfl, fr1, q31, k1, hC1, hg1⟩ := r_stage2a (σ := wI σ 306 31 0) (f := uS f 2 A') (D := D) (qm := m - k) hG hJ (hM.ca frw) (h0.ca frw) hsh hA2 (by omega) fh (by rw [wI_1, if_pos ⟨rfl, rfl⟩]) (by rw [wI_1, if_neg (by omega)]; exact h36) hD hDb
    have e1' : loopO (fun (z16 : (Mem × Int32)) => l_X11_areAlikeInLast_19 z16.1 z16.2) (PS (wI σ 306 31 0) (uS f 2 A'), 0) = some (PS σ1 f1) := e1
    rw [e1', e_bs]
    unfold j_X11_areAlikeInLast_73
    have hf12 : f1 2 = uS f 2 A' 2 := k1 2 (by omega)
    have FR1 := frw.trans fr1
    obtain ⟨τ, e2, σ2, f2, C2, rfl, fr2, q312, k2, hC2, hg2⟩ := r_stage2b (σ := σ1) (f := f1) (C0 := C1) (qm := m - k) hG hJ (hM.ca FR1) (h0.ca FR1) hsh hmt (by rw [hf12]; exact hA2) (by omega) q31 hC1 hg1
    have e2' : loopO (fun (z9 : (Mem × Int32)) => l_X11_areAlikeInLast_75 z9.1 z9.2) (PS σ1 f1, 0) = some (PS σ2 f2) := e2
    rw [e2', e_bs]
    unfold j_X11_areAlikeInLast_117
    have FR2 := FR1.trans fr2
    obtain ⟨g, e3⟩ := r_laysDueT (σ := σ2) (f := f2) hG (hM.ca FR2) (w := 3) (s := 2) (y := 1) (by omega) (by omega)
    have e3' : f_X11_laysDue (PS σ2 f2) 2 1 3 = some (PS (rwL σ2 321 g) f2) := e3
    rw [e3', e_bs]
    have hC3 : Cl (PS (rwL σ2 321 g) f2) C2 (m - k + t) := fun c j hc hj => by
      rw [PS_2 (by omega), rwL_x (by omega)]
      exact hC2 c j hc hj
    have QP := QN_pos (m := m) (t := t) (n := gn G) (h := hF m (XN m t (gn G)) k)
    obtain ⟨b, τ, e4, fr4, _⟩ := r_canMakeZ (σ := PS (rwL σ2 321 g) f2) (X := (QN m t (gn G) (hF m (XN m t (gn G)) k) : Nat)) (m := m - k + t) (lo := m + t) (hi := gn G) (T := fun _ => False) (Z := fun _ => False) (C0 := C2) QP (by omega) hC3 q312 ⟨Or.inl rfl, fun c _ hc j hj hr => (hg2 c hc).1 j hj hr, fun c _ hc j hj => (hg2 c hc).2 j hj, fun _ _ _ _ hj => hj.elim, fun _ _ _ _ _ _ _ _ hj => hj.elim⟩ (fun _ _ _ hj => hj.elim) (fun p p1 p2 => fq p (by omega) (by omega))
    rw [e4, e_bq]
    exact ⟨b, τ, rfl, FR2.trans ((FCa.row (by omega)).trans (FCa.ps.trans fr4.cq.ca))⟩
theorem r_areAlikeT (hG : GOK G) (hJ : Jac G) (hM : MG σ G) (h0 : M0 σ) (hA : ∀ i, i < gn G → -30 ≤ f 0 i ∧ f 0 i ≤ 30) (hY : ∀ i, i < gn G → -30 ≤ f 1 i ∧ f 1 i ≤ 30) : ∃ b τ, f_X11_areAlike (PS σ f) = some (b, τ) ∧ FCa σ τ := by
  have hn := hG.2.1
  obtain ⟨m, t, hmt, hsh⟩ := shape_of hG
  obtain ⟨b, eb, _⟩ := r_upTo (σ := σ) (f := f) hG hM (w := 1) (s := 0) (y := 1) (by omega) (by omega) (by omega)
  have eb' : f_X11_areAlikeUpTo (PS σ f) 1 0 1 = some b := eb
  unfold f_X11_areAlike
  rw [eb', e_bs]
  cases b with
  | false => exact ⟨false, PS σ f, by rw [if_neg (by decide)], FCa.ps⟩
  | true =>
    rw [if_pos rfl, e_pF, PS_wI6]
    have frw : FCa σ (wI σ 306 31 0) := FCa.fld (by omega)
    obtain ⟨τ, e1, σ1, f1, C1, rfl, fr1, q31, k1, hC1, hc1⟩ := r_stage1 (σ := wI σ 306 31 0) (f := f) hG (hM.ca frw) (h0.ca frw) hsh hmt hA (by rw [wI_1, if_pos ⟨rfl, rfl⟩])
    have e1' : loopO (fun (z33 : (Mem × Int32)) => l_X11_areAlike_19 z33.1 z33.2) (PS (wI σ 306 31 0) f, 0) = some (PS σ1 f1) := e1
    rw [e1', e_bs]
    unfold j_X11_areAlike_61
    have FR1 := frw.trans fr1
    obtain ⟨g, e2⟩ := r_laysDueT (σ := σ1) (f := f1) hG (hM.ca FR1) (w := 2) (s := 0) (y := 1) (by omega) (by omega)
    have e2' : f_X11_laysDue (PS σ1 f1) 0 1 2 = some (PS (rwL σ1 321 g) f1) := e2
    rw [e2', e_bs]
    have hC3 : Cl (PS (rwL σ1 321 g) f1) C1 m := fun c j hc hj => by
      rw [PS_2 (by omega), rwL_x (by omega)]
      exact hC1 c j hc hj
    have XP := XN_pos (m := m) (t := t) (n := gn G)
    obtain ⟨b, τ, e4, fr4, hyes⟩ := r_canMakeZ (σ := PS (rwL σ1 321 g) f1) (X := (XN m t (gn G) : Nat)) (m := m) (lo := m) (hi := m + t) (T := fun j => 12 ≤ j ∧ j < 18) (Z := fun j => 12 + m ≤ j) (C0 := C1) XP (by omega) hC3 q31 (gro1 hG hJ hsh hmt hA hc1) (fun c hc j hj => by
      rw [hc1 c hc]
      unfold vcl
      rw [if_neg (by omega)]
      by_cases h1 : 12 ≤ j ∧ j < 12 + gn G
      · rw [if_pos h1, e1V_at, if_neg (by omega)]
      · rw [if_neg h1]) (fun p p1 p2 => fit1 hn hmt (by omega) (by omega))
    rw [e4, e_bq]
    have FR4 : FCa σ τ := FR1.trans ((FCa.row (by omega)).trans (FCa.ps.trans fr4.cq.ca))
    cases b with
    | false => exact ⟨false, τ, by rw [if_neg (by decide)], FR4⟩
    | true =>
      obtain ⟨k, C, hk, q34, hC, hGr, hZ⟩ := hyes rfl
      rw [if_pos rfl, e_pF]
      have hkt : k ≤ t := by
        rcases hGr.1 with q | q
        · omega
        · omega
      have s34 : (wI τ 306 36 0).1 306 34 = i32 k := by rw [wI_1, if_neg (by omega)]; exact q34
      have s31 : (wI τ 306 36 0).1 306 31 = i32 m := by
        rw [wI_1, if_neg (by omega), fr4.2.1 31 (by omega) (by omega)]
        exact q31
      obtain ⟨τ2, e5, fr5, r313, r321, s36, hqt⟩ := r_quiet (σ := wI τ 306 36 0) (m := m) (k := k) (by omega) hk s31 (by rw [wI_1, if_pos ⟨rfl, rfl⟩])
      rw [e_gF, s34, e5, e_bs]
      unfold j_X11_areAlike_148
      have FR5 : FCa σ τ2 := FR4.trans ((FCa.fld (by omega)).trans fr5)
      have sl : PS τ2 f1 = τ2 := PS_of (σ := rwL σ1 321 g) (f := f1) (by
        rw [r313]
        exact fr4.2.2 313 (by omega) (by omega))
      have hM5 := hM.ca FR5
      have h05 := h0.ca FR5
      have e6 : f_X11_ones τ2 41 = some (PS τ2 (uS f1 41 (fun _ => 0))) := by
        have := p_ones (σ := τ2) (f := f1) (s := 41) (by omega)
        rw [sl] at this
        exact this
      rw [e6, e_bs]
      obtain ⟨τ, e7, f7, rfl, k7⟩ := r_duePuts (σ := τ2) (f := uS f1 41 (fun _ => 0)) hG hM5
      have e7' : loopO (fun (z17 : (Mem × Int32)) => l_X11_areAlike_156 z17.1 z17.2) (PS τ2 (uS f1 41 (fun _ => 0)), 0) = some (PS τ2 f7) := e7
      rw [e7', e_bs]
      unfold j_X11_areAlike_187
      obtain ⟨f8, e8, k8⟩ := a_conjugates (σ := τ2) (f := f7) hM5 hG h05 (s := 0) (r := 41) (t := 42) (by omega) (by omega) (by omega) (by omega) (by omega)
      have e8' : f_X11_conjugates (PS τ2 f7) 0 41 42 = some (PS τ2 f8) := e8
      have e9 : f_X11_copies (PS τ2 f8) 42 2 = some (PS τ2 (uS f8 2 (f8 42))) := p_copies (σ := τ2) (f := f8) (s := 42) (r := 2) (by omega) (by omega) (by omega)
      rw [e8', e_bs, e9, e_bs]
      have hY9 : ∀ i, i < gn G → -30 ≤ uS f8 2 (f8 42) 1 i ∧ uS f8 2 (f8 42) 1 i ≤ 30 := fun i hi => by
        rw [uS_ne (by omega), k8 1 (by omega), k7 1 (by omega), uS_ne (by omega), k1 1 (by omega)]
        exact hY i hi
      obtain ⟨b, τ3, e10, fr10⟩ := r_inLast (σ := τ2) (f := uS f8 2 (f8 42)) (D := fun e i => C (k + e) (12 + i)) (k := k) hG hJ hM5 h05 hsh hmt hY9 hk hkt s36 (fun e he i hi => by
        rw [hqt e he i hi]
        show τ.2 320 (18 * (k + e) + 12 + i) = _
        rw [show 18 * (k + e) + 12 + i = 18 * (k + e) + (12 + i) by omega]
        exact hC (k + e) (12 + i) (by omega) (by omega)) (fun e he i hi => by
        show (C (k + e) (12 + i)).natAbs ≤ _
        by_cases him : i < m
        · have w := hGr.2.2.2.1 (k + e) (by omega) (by omega) (12 + i) ⟨by omega, by omega⟩
          rw [← gHN_c] at w
          unfold hq hF
          rw [beq_t (wS_1.mpr him), show Nat.ble m k = false from Bool.eq_false_iff.mpr (fun q => by rw [Nat.ble_eq] at q; omega)]
          show (C (k + e) (12 + i)).natAbs ≤ gHN (XN m t (gn G)) k
          have a := w.1
          have b := w.2
          omega
        · rw [hZ (k + e) (by omega) (by omega) (12 + i) (by omega)]
          exact Nat.zero_le _)
      rw [e10, e_bq]
      exact ⟨b, τ3, rfl, FR5.trans fr10⟩
end TTL
