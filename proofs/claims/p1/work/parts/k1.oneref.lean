/-! the reference's alike where both registers are ONE -/
section ONR
variable {σ : Mem} {G : GD} {f : SF} {m t : Nat}
theorem Clo.T {m f k : Nat} {C D : Nat → Nat → Int} {d d' : Nat → Int} {pv : Bool} (h : Clo m f k C D d true pv d') : CloT m f k D pv := by
  rcases h with ⟨a, b, _, _⟩ | ⟨a, b, c, d, _, _⟩
  · exact Or.inl ⟨a, b⟩
  · exact Or.inr ⟨a, b, c, d⟩
theorem r_canMakeO {X : Int} {m lo hi : Nat} {T Z : Nat → Prop} {C0 : Nat → Nat → Int} (hX : 1 ≤ X) (hm : m ≤ 20) (hC : Cl σ C0 m) (hd : Du σ (fun _ => 0)) (h31 : σ.1 306 31 = i32 m) (h0 : Gro X m lo hi T 0 0 C0) (hz : ∀ c, c < m → ∀ j, Z j → C0 c j = 0) (hfit : ∀ p, p + 1 ≤ m → p + lo + 1 ≤ hi → gG X p ≤ 2 ^ 62) : ∃ τ, f_X11_canMake σ = some (true, τ) ∧ FCm σ τ ∧ Du τ (fun _ => 0) ∧ ∃ k C, k ≤ m ∧ τ.1 306 34 = i32 k ∧ Cl τ C m ∧ Gro X m lo hi T 6 k C ∧ ∀ c, k ≤ c → c < m → ∀ j, Z j → C c j = 0 := by
  have main : ∃ b τ, f_X11_canMake σ = some (b, τ) ∧ FCm σ τ ∧ (b = true → ∃ f C d, τ.1 306 34 = i32 f ∧ Cl τ C m ∧ Du τ d ∧ Alg C0 (fun _ => 0) m 6 f C d ∧ (f ≤ m ∧ Gro X m lo hi T 6 f C ∧ (∀ c, f ≤ c → c < m → ∀ j, Z j → C c j = 0) ∧ d = fun _ => 0)) ∧ (b = false → ¬ Spn (fun j => j < 6) C0 m (fun _ => 0)) := by
    refine r_canMake (Bd := fun k f C d => f ≤ m ∧ Gro X m lo hi T k f C ∧ (∀ c, f ≤ c → c < m → ∀ j, Z j → C c j = 0) ∧ d = fun _ => 0) hm hC hd h31 (fun k f C d hk hA h => ⟨fun c c1 c2 => ?_, ?_, fun D d' pv hc ho => ⟨(hA.step hk hc ho).1, h.2.1.next hX hk hc ho.T, fun c c1 c2 j hj => hc.zero (fun c c1 c2 => h.2.2.1 c c1 c2 j hj) c (by omega) c2, ?_⟩⟩) ⟨Nat.zero_le _, h0, fun c _ c2 j hj => hz c c2 j hj, rfl⟩
    · by_cases hin : k < lo ∨ hi ≤ k
      · rw [h.2.1.2.1 c c1 c2 k hk hin]
        exact ⟨by omega, by omega⟩
      · refine (h.2.1.2.2.1 c c1 c2 k hk).mono (hfit f (by omega) ?_)
        rcases h.2.1.1 with q | q
        · omega
        · omega
    · rw [h.2.2.2]
      exact ⟨by show -(2 ^ 62 : Int) ≤ 0; omega, by show (0 : Int) ≤ 2 ^ 62; omega⟩
    · rcases ho with ⟨_, _, _, e⟩ | ⟨_, _, _, _, _, e⟩
      · rw [e, h.2.2.2]
      · rw [e rfl, h.2.2.2]
        funext j
        show (0 : Int) - (0 : Int).tdiv (D f k) * D f j = 0
        rw [Int.zero_tdiv, Int.zero_mul, Int.sub_zero]
  obtain ⟨b, τ, e, fr, hy, hn⟩ := main
  cases b with
  | false => exact absurd Spn.zero (hn rfl)
  | true =>
    obtain ⟨k, C, d, h34, hCl, hDu, _, hk, hGr, hZ, rfl⟩ := hy rfl
    exact ⟨τ, e, fr, hDu, k, C, hk, h34, hCl, hGr, hZ⟩
theorem r_upToO (hG : GOK G) (hM : MG σ G) {w s y : Nat} (hs : s < 100) (hy : y < 100) (hw : w ≤ 3) (he : ∀ i, i < gn G → f s i = f y i) : f_X11_areAlikeUpTo (PS σ f) (i32 w) (i32 s) (i32 y) = some true := by
  have hn := hG.2.1
  obtain ⟨b, e, hb⟩ : ∃ b, f_X11_areAlikeUpTo (PS σ f) (i32 w) (i32 s) (i32 y) = some b ∧ b = true := by
    unfold f_X11_areAlikeUpTo
    refine loop_inv (body := fun (z1 : Int32) => l_X11_areAlikeUpTo_3 (PS σ f) (i32 w) (i32 s) (i32 y) z1) (fun n z => ∃ i, i ≤ gn G ∧ n = gn G - i ∧ z = i32 i) _ ?_ (gn G) 0 ⟨0, by omega, rfl, rfl⟩
    rintro n z ⟨i, hi, rfl, rfl⟩
    by_cases hin : i = gn G
    · right
      subst hin
      refine ⟨true, ?_, rfl⟩
      unfold l_X11_areAlikeUpTo_3
      rw [e_n (PS_MG hM), e_bs, if_pos (i_le (Nat.le_refl _) (by omega))]
    · have hgw := (hG.2.2.1 i (by omega)).2
      left
      refine ⟨i32 (i + 1), gn G - (i + 1), by omega, ?_, i + 1, by omega, rfl, rfl⟩
      by_cases h1 : w < gw G i
      · unfold l_X11_areAlikeUpTo_3
        rw [e_n (PS_MG hM), e_bs, if_neg (i_nle (by omega) (by omega)), e_weight (PS_MG hM) (by omega), e_bs, if_pos (i_lt h1 (by omega)), e_bs]
        show j_X11_areAlikeUpTo_42 (i32 i) = _
        unfold j_X11_areAlikeUpTo_42
        rw [i32_1, i32_add]
      · unfold l_X11_areAlikeUpTo_3
        rw [e_n (PS_MG hM), e_bs, if_neg (i_nle (by omega) (by omega)), e_weight (PS_MG hM) (by omega), e_bs, if_neg (i_nlt (by omega) (by omega)), p_of hs (by omega), e_bs, p_of hy (by omega), e_bs, if_pos (by rw [he i (by omega)]), e_bs]
        show j_X11_areAlikeUpTo_42 (i32 i) = _
        unfold j_X11_areAlikeUpTo_42
        rw [i32_1, i32_add]
  rw [e, hb]
def AD0 (σ : Mem) (f : SF) (n : Nat) (τ : Mem) : Prop := ∃ g : Nat → Int64, τ = PS (rwL σ 321 g) f ∧ ∀ j, j < n → g j = 0
theorem r_laysDueO (hG : GOK G) (hM : MG σ G) {w s y : Nat} (hs : s < 100) (hy : y < 100) (he : ∀ i, i < gn G → f s i = f y i) : ∃ g : Nat → Int64, f_X11_laysDue (PS σ f) (i32 s) (i32 y) (i32 w) = some (PS (rwL σ 321 g) f) ∧ ∀ j, j < 18 → g j = 0 := by
  have hn := hG.2.1
  unfold f_X11_laysDue
  obtain ⟨τ, e, g, rfl, hg⟩ := cnt_inv (body := fun (z11 : (Mem × Int32)) => l_X11_laysDue_3 z11.1 z11.2) (P := fun i τ => AD0 σ f i τ) (Q := AD0 σ f 18) (a := 0) (b := 18) (s := PS σ f) (by omega) ⟨σ.2 321, by rw [rwL_id (fun _ => rfl)], fun j hj => absurd hj (Nat.not_lt_zero j)⟩ (by
    rintro i τ _ h2 ⟨g, rfl, hg⟩
    left
    show ∃ s', l_X11_laysDue_3 (PS (rwL σ 321 g) f) (i32 i) = _ ∧ _
    unfold l_X11_laysDue_3
    rw [i32_18, if_neg (i_nle h2 (by omega)), e_putD h2, i32_1, i32_add]
    refine ⟨_, rfl, _, rfl, fun j hj => ?_⟩
    by_cases hji : j = i
    · exact if_pos hji
    · exact (if_neg hji).trans (hg j (by omega))) (by
    rintro τ ⟨g, rfl, hg⟩
    show ∃ x, l_X11_laysDue_3 (PS (rwL σ 321 g) f) (i32 18) = _ ∧ _
    unfold l_X11_laysDue_3
    rw [if_pos (by decide)]
    exact ⟨_, rfl, g, rfl, hg⟩)
  rw [show (0 : Int32) = i32 0 from rfl, e, e_bs]
  unfold j_X11_laysDue_24
  obtain ⟨τ, e2, g2, rfl, hg2⟩ := cnt_inv (body := fun (z3 : (Mem × Int32)) => l_X11_laysDue_27 (i32 s) (i32 y) (i32 w) z3.1 z3.2) (P := fun _ τ => AD0 σ f 18 τ) (Q := AD0 σ f 18) (a := 0) (b := gn G) (s := PS (rwL σ 321 g) f) (by omega) ⟨g, rfl, hg⟩ (by
    rintro i τ _ h2 ⟨g, rfl, hg⟩
    left
    show ∃ s', l_X11_laysDue_27 (i32 s) (i32 y) (i32 w) (PS (rwL σ 321 g) f) (i32 i) = _ ∧ _
    have hM' : MG (PS (rwL σ 321 g) f) G := hM
    unfold l_X11_laysDue_27
    rw [e_n hM', e_bs, if_neg (i_nle h2 (by omega)), e_weight hM' (by omega), e_bs]
    split
    · rw [p_of hy (by omega), e_bs, p_of hs (by omega), e_bs, e_putD (by omega), e_bs]
      unfold j_X11_laysDue_68
      rw [i32_1, i32_add]
      refine ⟨_, rfl, _, rfl, fun j hj => ?_⟩
      by_cases hji : j = i
      · refine (if_pos hji).trans ?_
        rw [he i (by omega), oi_sub, Int.sub_self]
        rfl
      · exact (if_neg hji).trans (hg j hj)
    · rw [e_bs]
      unfold j_X11_laysDue_68
      rw [i32_1, i32_add]
      exact ⟨_, rfl, _, rfl, hg⟩) (by
    rintro τ ⟨g, rfl, hg⟩
    show ∃ x, l_X11_laysDue_27 (i32 s) (i32 y) (i32 w) (PS (rwL σ 321 g) f) (i32 (gn G)) = _ ∧ _
    have hM' : MG (PS (rwL σ 321 g) f) G := hM
    unfold l_X11_laysDue_27
    rw [e_n hM', e_bs, if_pos (i_le (Nat.le_refl _) (by omega))]
    exact ⟨_, rfl, g, rfl, hg⟩)
  exact ⟨g2, e2, hg2⟩
theorem r_duePutsO (hG : GOK G) (hM : MG σ G) (hd : Du σ (fun _ => 0)) (h41 : f 41 = fun _ => 0) : ∃ τ, loopO (fun (z17 : (Mem × Int32)) => l_X11_areAlike_156 z17.1 z17.2) (PS σ f, i32 0) = some τ ∧ ∃ f', τ = PS σ f' ∧ (∀ q, q ≠ 41 → f' q = f q) ∧ f' 41 = fun _ => 0 := by
  have hn := hG.2.1
  refine cnt_inv (body := fun (z17 : (Mem × Int32)) => l_X11_areAlike_156 z17.1 z17.2) (P := fun _ τ => ∃ f', τ = PS σ f' ∧ (∀ q, q ≠ 41 → f' q = f q) ∧ f' 41 = fun _ => 0) (a := 0) (b := gn G) (by omega) ⟨f, rfl, fun _ _ => rfl, h41⟩ ?_ ?_
  · rintro i τ _ h2 ⟨f', rfl, hf, hz⟩
    left
    have hv : (PS σ f').2 321 (12 + i) = 0 := by
      rw [PS_2 (by omega)]
      exact hd (12 + i) (by omega)
    show ∃ s', l_X11_areAlike_156 (PS σ f') (i32 i) = _ ∧ _
    unfold l_X11_areAlike_156
    rw [e_n (PS_MG hM), e_bs, if_neg (i_nle h2 (by omega)), i32_12, i32_add, e_gL ln_321 (by omega) (by omega), hv, show (41 : Int32) = i32 41 from rfl, show (-(0 : Int64)) = 0 from rfl, p_putsA (by omega) (by omega), e_bs, i32_1, i32_add]
    refine ⟨_, rfl, _, rfl, fun q hq => by rw [uS_ne hq, hf q hq], ?_⟩
    rw [uS_self, hz]
    funext j
    show (if j = i then ((0 : Int64)).toInt else (0 : Int)) = 0
    split <;> rfl
  · rintro τ ⟨f', rfl, hf, hz⟩
    show ∃ x, l_X11_areAlike_156 (PS σ f') (i32 (gn G)) = _ ∧ _
    unfold l_X11_areAlike_156
    rw [e_n (PS_MG hM), e_bs, if_pos (i_le (Nat.le_refl _) (by omega))]
    exact ⟨_, rfl, f', rfl, hf, hz⟩
theorem conj_O (hG : GOK G) : EqG G (mul G (mul G (inv G O) O) O) O := (mul_O hG).trans ((mul_O hG).trans ((O_mul hG).symm.trans (mul_inv hG)))
theorem r_inLastO {D : Nat → Nat → Int} {k : Nat} (hG : GOK G) (hJ : Jac G) (hM : MG σ G) (h0 : M0 σ) (hsh : ∀ i, i < gn G → gw G i = wS m t i) (hmt : m + t ≤ gn G) (z1 : ∀ i, i < gn G → f 1 i = 0) (z2 : ∀ i, i < gn G → f 2 i = 0) (hk : k ≤ m) (hkt : k ≤ t) (h36 : σ.1 306 36 = i32 (m - k)) (hD : ∀ e, e < m - k → ∀ i, i < 6 → σ.2 322 (6 * e + i) = oi (D e i)) (hDb : ∀ e, e < m - k → ∀ i, i < gn G → (D e i).natAbs ≤ hq m t (hF m (XN m t (gn G)) k) i) : ∃ τ, f_X11_areAlikeInLast (PS σ f) = some (true, τ) ∧ FCa σ τ := by
  have hn := hG.2.1
  obtain ⟨fh, fq⟩ := fit2 hn hmt hk hkt
  have eb := r_upToO (σ := σ) (f := f) hG hM (w := 2) (s := 2) (y := 1) (by omega) (by omega) (by omega) (fun i hi => by rw [z1 i hi, z2 i hi])
  have eb' : f_X11_areAlikeUpTo (PS σ f) 2 2 1 = some true := eb
  have hA2 : ∀ i, i < gn G → gw G i ≤ 2 → (f 2 i).natAbs ≤ 30 := fun i hi _ => by
    rw [z2 i hi]
    show (0 : Int).natAbs ≤ 30
    decide
  unfold f_X11_areAlikeInLast
  rw [eb', e_bs, if_pos rfl, e_pF, PS_wI6]
  have frw : FCa σ (wI σ 306 31 0) := FCa.fld (by omega)
  obtain ⟨τ, e1, σ1, f1, C1, rfl, fr1, q31, k1, hC1, hg1⟩ := r_stage2a (σ := wI σ 306 31 0) (f := f) (D := D) (qm := m - k) hG hJ (hM.ca frw) (h0.ca frw) hsh hA2 (by omega) fh (by rw [wI_1, if_pos ⟨rfl, rfl⟩]) (by rw [wI_1, if_neg (by omega)]; exact h36) hD hDb
  have e1' : loopO (fun (z16 : (Mem × Int32)) => l_X11_areAlikeInLast_19 z16.1 z16.2) (PS (wI σ 306 31 0) f, 0) = some (PS σ1 f1) := e1
  rw [e1', e_bs]
  unfold j_X11_areAlikeInLast_73
  have hf12 : f1 2 = f 2 := k1 2 (by omega)
  have FR1 := frw.trans fr1
  obtain ⟨τ, e2, σ2, f2, C2, rfl, fr2, q312, k2, hC2, hg2⟩ := r_stage2b (σ := σ1) (f := f1) (C0 := C1) (qm := m - k) hG hJ (hM.ca FR1) (h0.ca FR1) hsh hmt (by rw [hf12]; exact hA2) (by omega) q31 hC1 hg1
  have e2' : loopO (fun (z9 : (Mem × Int32)) => l_X11_areAlikeInLast_75 z9.1 z9.2) (PS σ1 f1, 0) = some (PS σ2 f2) := e2
  rw [e2', e_bs]
  unfold j_X11_areAlikeInLast_117
  have FR2 := FR1.trans fr2
  have hf22 : ∀ i, i < gn G → f2 2 i = 0 := fun i hi => by rw [k2 2 (by omega), k1 2 (by omega), z2 i hi]
  have hf21 : ∀ i, i < gn G → f2 1 i = 0 := fun i hi => by rw [k2 1 (by omega), k1 1 (by omega), z1 i hi]
  obtain ⟨g, e3, hg0⟩ := r_laysDueO (σ := σ2) (f := f2) hG (hM.ca FR2) (w := 3) (s := 2) (y := 1) (by omega) (by omega) (fun i hi => by rw [hf22 i hi, hf21 i hi])
  have e3' : f_X11_laysDue (PS σ2 f2) 2 1 3 = some (PS (rwL σ2 321 g) f2) := e3
  rw [e3', e_bs]
  have hC3 : Cl (PS (rwL σ2 321 g) f2) C2 (m - k + t) := fun c j hc hj => by
    rw [PS_2 (by omega), rwL_x (by omega)]
    exact hC2 c j hc hj
  have QP := QN_pos (m := m) (t := t) (n := gn G) (h := hF m (XN m t (gn G)) k)
  have hdu : Du (PS (rwL σ2 321 g) f2) (fun _ => 0) := fun j hj => by
    rw [PS_2 (by omega), rwL_a]
    exact hg0 j hj
  obtain ⟨τ, e4, fr4, _, _⟩ := r_canMakeO (σ := PS (rwL σ2 321 g) f2) (X := (QN m t (gn G) (hF m (XN m t (gn G)) k) : Nat)) (m := m - k + t) (lo := m + t) (hi := gn G) (T := fun _ => False) (Z := fun _ => False) (C0 := C2) QP (by omega) hC3 hdu q312 ⟨Or.inl rfl, fun c _ hc j hj hr => (hg2 c hc).1 j hj hr, fun c _ hc j hj => (hg2 c hc).2 j hj, fun _ _ _ _ hj => hj.elim, fun _ _ _ _ _ _ _ _ hj => hj.elim⟩ (fun _ _ _ hj => hj.elim) (fun p p1 p2 => fq p (by omega) (by omega))
  rw [e4, e_bq]
  exact ⟨τ, rfl, FR2.trans ((FCa.row (by omega)).trans (FCa.ps.trans fr4.cq.ca))⟩
theorem r_areAlikeO (hG : GOK G) (hJ : Jac G) (hM : MG σ G) (h0 : M0 σ) (z0 : f 0 = fun _ => 0) (z1 : f 1 = fun _ => 0) : ∃ τ, f_X11_areAlike (PS σ f) = some (true, τ) ∧ FCa σ τ := by
  have hn := hG.2.1
  obtain ⟨m, t, hmt, hsh⟩ := shape_of hG
  have eb := r_upToO (σ := σ) (f := f) hG hM (w := 1) (s := 0) (y := 1) (by omega) (by omega) (by omega) (fun i hi => by rw [z0, z1])
  have eb' : f_X11_areAlikeUpTo (PS σ f) 1 0 1 = some true := eb
  have hA : ∀ k, k < gn G → -30 ≤ f 0 k ∧ f 0 k ≤ 30 := fun k _ => by
    rw [z0]
    exact ⟨by show (-30 : Int) ≤ 0; omega, by show (0 : Int) ≤ 30; omega⟩
  unfold f_X11_areAlike
  rw [eb', e_bs]
  rw [if_pos rfl, e_pF, PS_wI6]
  have frw : FCa σ (wI σ 306 31 0) := FCa.fld (by omega)
  obtain ⟨τ, e1, σ1, f1, C1, rfl, fr1, q31, k1, hC1, hc1⟩ := r_stage1 (σ := wI σ 306 31 0) (f := f) hG (hM.ca frw) (h0.ca frw) hsh hmt hA (by rw [wI_1, if_pos ⟨rfl, rfl⟩])
  have e1' : loopO (fun (z33 : (Mem × Int32)) => l_X11_areAlike_19 z33.1 z33.2) (PS (wI σ 306 31 0) f, 0) = some (PS σ1 f1) := e1
  rw [e1', e_bs]
  unfold j_X11_areAlike_61
  have FR1 := frw.trans fr1
  obtain ⟨g, e2, hg0⟩ := r_laysDueO (σ := σ1) (f := f1) hG (hM.ca FR1) (w := 2) (s := 0) (y := 1) (by omega) (by omega) (fun i _ => by rw [k1 0 (by omega), k1 1 (by omega), z0, z1])
  have e2' : f_X11_laysDue (PS σ1 f1) 0 1 2 = some (PS (rwL σ1 321 g) f1) := e2
  rw [e2', e_bs]
  have hC3 : Cl (PS (rwL σ1 321 g) f1) C1 m := fun c j hc hj => by
    rw [PS_2 (by omega), rwL_x (by omega)]
    exact hC1 c j hc hj
  have XP := XN_pos (m := m) (t := t) (n := gn G)
  have hdu : Du (PS (rwL σ1 321 g) f1) (fun _ => 0) := fun j hj => by
    rw [PS_2 (by omega), rwL_a]
    exact hg0 j hj
  obtain ⟨τ, e4, fr4, hd4, k, C, hk, q34, hC, hGr, hZ⟩ := r_canMakeO (σ := PS (rwL σ1 321 g) f1) (X := (XN m t (gn G) : Nat)) (m := m) (lo := m) (hi := m + t) (T := fun j => 12 ≤ j ∧ j < 18) (Z := fun j => 12 + m ≤ j) (C0 := C1) XP (by omega) hC3 hdu q31 (gro1 hG hJ hsh hmt hA hc1) (fun c hc j hj => by
    rw [hc1 c hc]
    unfold vcl
    rw [if_neg (by omega)]
    by_cases h1 : 12 ≤ j ∧ j < 12 + gn G
    · rw [if_pos h1, e1V_at, if_neg (by omega)]
    · rw [if_neg h1]) (fun p p1 p2 => fit1 hn hmt (by omega) (by omega))
  rw [e4, e_bq]
  have FR4 : FCa σ τ := FR1.trans ((FCa.row (by omega)).trans (FCa.ps.trans fr4.cq.ca))
  rw [if_pos rfl, e_pF]
  have hkt : k ≤ t := by
    rcases hGr.1 with q | q
    · omega
    · omega
  have s34 : (wI τ 306 36 0).1 306 34 = i32 k := by rw [wI_1, if_neg (by omega)]; exact q34
  have s31 : (wI τ 306 36 0).1 306 31 = i32 m := by
    rw [wI_1, if_neg (by omega), fr4.2.1 31 (by omega) (by omega)]
    exact q31
  obtain ⟨τ2, e5, fr5, r313, r321, s36, hqt⟩ := r_quiet (σ := wI τ 306 36 0) (m := m) (k := k) (by omega) hk s31 (by rw [wI_1, if_pos ⟨rfl, rfl⟩])
  rw [e_gF, s34, e5, e_bs]
  unfold j_X11_areAlike_148
  have FR5 : FCa σ τ2 := FR4.trans ((FCa.fld (by omega)).trans fr5)
  have sl : PS τ2 f1 = τ2 := PS_of (σ := rwL σ1 321 g) (f := f1) (by
    rw [r313]
    exact fr4.2.2 313 (by omega) (by omega))
  have hM5 := hM.ca FR5
  have h05 := h0.ca FR5
  have e6 : f_X11_ones τ2 41 = some (PS τ2 (uS f1 41 (fun _ => 0))) := by
    have := p_ones (σ := τ2) (f := f1) (s := 41) (by omega)
    rw [sl] at this
    exact this
  rw [e6, e_bs]
  have hd5 : Du τ2 (fun _ => 0) := fun j hj => by rw [r321]; exact hd4 j hj
  obtain ⟨τ, e7, f7, rfl, k7, z7⟩ := r_duePutsO (σ := τ2) (f := uS f1 41 (fun _ => 0)) hG hM5 hd5 uS_self
  have e7' : loopO (fun (z17 : (Mem × Int32)) => l_X11_areAlike_156 z17.1 z17.2) (PS τ2 (uS f1 41 (fun _ => 0)), 0) = some (PS τ2 f7) := e7
  rw [e7', e_bs]
  unfold j_X11_areAlike_187
  have z70 : f7 0 = fun _ => 0 := by rw [k7 0 (by omega), uS_ne (by omega), k1 0 (by omega), z0]
  obtain ⟨f8, e8, v8, k8⟩ := p_conjugates (σ := τ2) (f := f7) hM5 hG h05 (s := 0) (r := 41) (t := 42) (by omega) (by omega) (by omega) (by omega) (by omega) (B := 1) (by omega) (by omega) (by rw [z70]; exact SB.zero (by omega)) (by rw [z7]; exact SB.zero (by omega))
  have e8' : f_X11_conjugates (PS τ2 f7) 0 41 42 = some (PS τ2 f8) := e8
  have e9 : f_X11_copies (PS τ2 f8) 42 2 = some (PS τ2 (uS f8 2 (f8 42))) := p_copies (σ := τ2) (f := f8) (s := 42) (r := 2) (by omega) (by omega) (by omega)
  rw [e8', e_bs, e9, e_bs]
  have y1 : ∀ i, i < gn G → uS f8 2 (f8 42) 1 i = 0 := fun i _ => by
    rw [uS_ne (by omega), k8 1 (by omega), k7 1 (by omega), uS_ne (by omega), k1 1 (by omega), z1]
  have y2 : ∀ i, i < gn G → uS f8 2 (f8 42) 2 i = 0 := fun i hi => by
    rw [uS_self, v8, z7, z70]
    exact conj_O hG i hi
  obtain ⟨τ3, e10, fr10⟩ := r_inLastO (σ := τ2) (f := uS f8 2 (f8 42)) (D := fun e i => C (k + e) (12 + i)) (k := k) hG hJ hM5 h05 hsh hmt y1 y2 hk hkt s36 (fun e he i hi => by
    rw [hqt e he i hi]
    show τ.2 320 (18 * (k + e) + 12 + i) = _
    rw [show 18 * (k + e) + 12 + i = 18 * (k + e) + (12 + i) by omega]
    exact hC (k + e) (12 + i) (by omega) (by omega)) (fun e he i hi => by
    show (C (k + e) (12 + i)).natAbs ≤ _
    by_cases him : i < m
    · have w := hGr.2.2.2.1 (k + e) (by omega) (by omega) (12 + i) ⟨by omega, by omega⟩
      rw [← gHN_c] at w
      unfold hq hF
      rw [beq_t (wS_1.mpr him), show Nat.ble m k = false from Bool.eq_false_iff.mpr (fun q => by rw [Nat.ble_eq] at q; omega)]
      show (C (k + e) (12 + i)).natAbs ≤ gHN (XN m t (gn G)) k
      have a := w.1
      have b := w.2
      omega
    · rw [hZ (k + e) (by omega) (by omega) (12 + i) (by omega)]
      exact Nat.zero_le _)
  rw [e10, e_bq]
  exact ⟨τ3, rfl, FR5.trans fr10⟩
end ONR
