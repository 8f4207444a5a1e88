/-! the class's search for a conjugator -/
section SRC
variable {σ : Mem} {G : GD}
theorem mul_left_below (hG : GOK G) {a a' b : Nat → Int} {m : Nat} (hm : m < gn G) (h : ∀ i, i < m → a i = a' i) : mul G a b m - a m = mul G a' b m - a' m := by
  rw [mul_eq hG hm, mul_eq hG hm]
  have e1 : pT G m a b = pT G m a' b := sm_congr (fun i _ => sm_congr (fun j _ => by
    by_cases hj : j < m
    · rw [h j hj]
    · rw [tI_low hG (by omega)]; simp))
  have e2 : pU G m a b = pU G m a' b := sm_congr (fun i _ => sm_congr (fun j _ => by
    by_cases hj : j < m
    · rw [h j hj]
    · rw [DD_low hG (by omega)]; simp))
  have e3 : pV G m a b = pV G m a' b := sm_congr (fun i _ => sm_congr (fun j _ => by
    by_cases hj : j < m
    · rw [h j hj]
    · rw [DD_low hG (by omega)]; simp))
  have e4 : pW G m a b = pW G m a' b := sm_congr (fun i _ => sm_congr (fun j _ => sm_congr (fun q _ => by
    by_cases hj : j < m
    · by_cases hq : q < m
      · rw [h j hj, h q hq]
      · rw [DD_low hG (by omega)]; simp
    · rw [DD_low hG (by omega)]; simp)))
  have e5 : pX G m a b = pX G m a' b := sm_congr (fun i _ => sm_congr (fun p _ => by
    by_cases hi : p < i
    · rw [if_pos hi, if_pos hi]
      refine sm_congr (fun j _ => ?_)
      by_cases hj : j < m
      · rw [h j hj]
      · rw [DD_low hG (by omega)]; simp
    · rw [if_neg hi, if_neg hi]))
  omega
def gapv (G : GD) (A Y : Nat → Int) (k : Nat) (u : Nat → Int) : Int := if k < gn G then mul G A u k - mul G u Y k else 0
theorem gap_local (hG : GOK G) {A Y u w : Nat → Int} {k : Nat} (h : ∀ i, i < k → u i = w i) : gapv G A Y k u = gapv G A Y k w := by
  unfold gapv
  by_cases hk : k < gn G
  · rw [if_pos hk, if_pos hk]
    have h1 := mul_below hG (a := A) hk h
    have h2 := mul_left_below hG (b := Y) hk h
    omega
  · rw [if_neg hk, if_neg hk]
def Kx (G : GD) (A Y u : Nat → Int) : Prop := ∀ k, k < 6 → oi (gapv G A Y k u) = 0
def Lxl (f : Nat) (w u : Nat → Int) : Prop := ∃ j, j < f ∧ (∀ p, p < j → w p = u p) ∧ w j < u j
def Bx (b : Int) (f : Nat) (w : Nat → Int) : Prop := (∀ i, i < f → -b ≤ w i ∧ w i ≤ b) ∧ ∀ i, f ≤ i → w i = 0
def Fst (G : GD) (A Y : Nat → Int) (b : Int) (f : Nat) (u : Nat → Int) : Prop := Bx b f u ∧ Kx G A Y u ∧ ∀ w, Bx b f w → Kx G A Y w → ¬ Lxl f w u
theorem lex_total (u w : Nat → Int) : ∀ f, (∀ i, i < f → u i = w i) ∨ Lxl f u w ∨ Lxl f w u
  | 0 => Or.inl (fun i hi => absurd hi (Nat.not_lt_zero i))
  | f + 1 => by
    rcases lex_total u w f with h | ⟨j, hj, h1, h2⟩ | ⟨j, hj, h1, h2⟩
    · rcases Int.lt_trichotomy (u f) (w f) with c | c | c
      · exact Or.inr (Or.inl ⟨f, by omega, h, c⟩)
      · refine Or.inl (fun i hi => ?_)
        by_cases hif : i = f
        · rw [hif]; exact c
        · exact h i (by omega)
      · exact Or.inr (Or.inr ⟨f, by omega, fun p hp => (h p hp).symm, c⟩)
    · exact Or.inr (Or.inl ⟨j, by omega, h1, h2⟩)
    · exact Or.inr (Or.inr ⟨j, by omega, h1, h2⟩)
theorem Fst.uniq {A Y u w : Nat → Int} {b : Int} {f : Nat} (h : Fst G A Y b f u) (k : Fst G A Y b f w) : u = w := by
  funext i
  by_cases hi : i < f
  · rcases lex_total u w f with c | c | c
    · exact c i hi
    · exact absurd c (k.2.2 u h.1 h.2.1)
    · exact absurd c (h.2.2 w k.1 k.2.1)
  · rw [h.1.2 i (by omega), k.1.2 i (by omega)]
/-- how many letters are lighter than the heaviest -/
def frc (G : GD) : Nat → Nat
  | 0 => 0
  | i + 1 => frc G i + if gw G i < topG G then 1 else 0
theorem frc_ok (hG : GOK G) : ∀ m, m ≤ gn G → frc G m ≤ m ∧ ∀ i, i < m → (gw G i < topG G ↔ i < frc G m)
  | 0, _ => ⟨Nat.le_refl _, fun i hi => absurd hi (Nat.not_lt_zero i)⟩
  | m + 1, hm => by
    obtain ⟨h1, h2⟩ := frc_ok hG m (by omega)
    show frc G m + (if gw G m < topG G then 1 else 0) ≤ m + 1 ∧ ∀ i, i < m + 1 → (gw G i < topG G ↔ i < frc G m + if gw G m < topG G then 1 else 0)
    by_cases hw : gw G m < topG G
    · rw [if_pos hw]
      have hfm : frc G m = m := by
        by_cases hm0 : m = 0
        · omega
        · have a1 := hG.2.2.2.1 (m - 1) m (by omega) (by omega)
          have := (h2 (m - 1) (by omega)).mp (by omega)
          omega
      refine ⟨by omega, fun i hi => ?_⟩
      have a1 := hG.2.2.2.1 i m (by omega) (by omega)
      exact ⟨fun _ => by omega, fun _ => by omega⟩
    · rw [if_neg hw]
      refine ⟨by omega, fun i hi => ?_⟩
      by_cases him : i = m
      · subst him
        exact ⟨fun q => absurd q hw, fun q => by omega⟩
      · exact h2 i (by omega)
def fre (G : GD) : Nat := frc G (gn G)
theorem fre_lt (hG : GOK G) : fre G < gn G := by
  have h := frc_ok hG (gn G) (Nat.le_refl _)
  have h1 := hG.1
  have h2 := (h.2 (gn G - 1) (by omega))
  have h3 : ¬ gw G (gn G - 1) < topG G := by unfold topG; omega
  have : ¬ gn G - 1 < frc G (gn G) := fun q => h3 (h2.mpr q)
  unfold fre
  omega
theorem fre_iff (hG : GOK G) {i : Nat} (hi : i < gn G) : gw G i < topG G ↔ i < fre G := (frc_ok hG (gn G) (Nat.le_refl _)).2 i hi
theorem c_free (hG : GOK G) (h : CG σ 41 G) : loopO (fun (z10 : (Int32 × Int32)) => l_X7_conjugator_17 σ z10.1 z10.2) (0, 0) = some (i32 (fre G)) := by
  have hn := hG.2.1
  refine loop_up (body := fun (z10 : (Int32 × Int32)) => l_X7_conjugator_17 σ z10.1 z10.2) (fun k => (i32 (frc G k), i32 k)) 0 (gn G) _ (by omega) (fun k _ hk => ?_) ?_
  · show l_X7_conjugator_17 σ (i32 (frc G k)) (i32 k) = _
    unfold l_X7_conjugator_17
    have ht := topG_le hG
    have hw := hG.2.2.1 k hk
    rw [e_gF, h.1, if_neg (i_nle hk (by omega)), e_gI ln_42 (by omega) (by omega), h.2.1 k (by omega), c_top hG h (by decide +kernel) ln_42, e_bs]
    by_cases hc : gw G k < topG G
    · rw [if_neg (i_nle hc (by omega)), e_bs]
      unfold j_X7_conjugator_65
      rw [e_bd, show i32 k + 1 = i32 (k + 1) from by rw [i32_1, i32_add], show i32 (frc G k) + b2i true = i32 (frc G (k + 1)) from by
        show i32 (frc G k) + i32 1 = i32 (frc G k + if gw G k < topG G then 1 else 0)
        rw [i32_add, if_pos hc]]
    · rw [if_pos (i_le (by omega) (by omega)), e_bs]
      unfold j_X7_conjugator_65
      rw [e_bd, show i32 k + 1 = i32 (k + 1) from by rw [i32_1, i32_add], show i32 (frc G k) + b2i false = i32 (frc G (k + 1)) from by
        show i32 (frc G k) + i32 0 = i32 (frc G k + if gw G k < topG G then 1 else 0)
        rw [i32_add, if_neg hc]]
  · show l_X7_conjugator_17 σ (i32 (frc G (gn G))) (i32 (gn G)) = _
    unfold l_X7_conjugator_17
    rw [e_gF, h.1, if_pos (i_le (Nat.le_refl _) (by omega))]
    rfl
/-- the class's u: its row and its table -/
def CU (G : GD) (σ : Mem) (u : Nat → Int) (p : Nat → Prop) : Prop := (∀ i, i < 6 → p i → σ.2 103 i = oi (u i)) ∧ ∃ x : Nat → Int, (∀ v, v < 6 → x v = u v) ∧ TbU G σ 100 x (fun v => v < 6 ∧ p v)
theorem c_setU {i : Nat} {y : Int} {u : Nat → Int} {p : Nat → Prop} (hi : i < 6) (hy : gw G i = 1 → two64ok y) (h : CU G σ u p) : ∃ τ, f_X7_setU σ (i32 i) (oi y) = some τ ∧ OL (fun x => x = 100 ∨ x = 103) σ τ ∧ CU G τ (uV u i y) (fun v => p v ∨ v = i) := by
  obtain ⟨h1, x, hx, hT⟩ := h
  have o1 : OL (fun z => z = 103) σ (wL σ 103 i (oi y)) := OL.wL rfl
  have hT1 : TbU G (wL σ 103 i (oi y)) 100 x (fun v => v < 6 ∧ p v) := TbU.keep hT o1 (by omega)
  obtain ⟨τ, e, o2, t2⟩ := c_putT (G := G) (σ := wL σ 103 i (oi y)) (t := 100) (v := i) (y := y) (x := x) ln_100 (by omega) (fun q => hy (by rwa [Nat.mod_eq_of_lt hi] at q)) hT1
  unfold f_X7_setU
  rw [if_neg (show ¬ i32 i < 0 from i_nlt (b := 0) (by omega) (by omega)), i32_6, if_neg (i_nle hi (by omega)), e_pL ln_103 hi (by omega), e, e_bs]
  refine ⟨τ, rfl, (o1.mono (fun x hx => Or.inr hx)).trans (o2.mono (fun x hx => Or.inl hx)), fun j hj hp => ?_, upx x i y, fun v hv => ?_, fun v hv hp => ?_⟩
  · rw [o2.2 103 (by omega), wL_2]
    unfold uV
    by_cases hji : j = i
    · rw [if_pos ⟨rfl, hji⟩, if_pos hji]
    · rw [if_neg (fun q => hji q.2), if_neg hji]
      rcases hp with hp | hp
      · exact h1 j hj hp
      · exact absurd hp hji
  · unfold upx uV
    by_cases h : v = i
    · rw [if_pos h, if_pos h]
    · rw [if_neg h, if_neg h]; exact hx v hv
  · refine t2 v hv ?_
    show (v < 6 ∧ p v) ∨ v = i
    obtain ⟨hv6, hp⟩ := hp
    rcases hp with hp | hp
    · exact Or.inl ⟨hv6, hp⟩
    · exact Or.inr hp
theorem CU.congr {u w : Nat → Int} {p q : Nat → Prop} (h : CU G σ u p) (hu : ∀ v, v < 6 → u v = w v) (hp : ∀ v, v < 6 → q v → p v) : CU G σ w q := by
  obtain ⟨h1, x, hx, hT⟩ := h
  exact ⟨fun i hi hq => by rw [← hu i hi]; exact h1 i hi (hp i hi hq), x, fun v hv => by rw [hx v hv, hu v hv], fun v hv hq => hT v hv ⟨hq.1, hp v hq.1 hq.2⟩⟩
theorem c_putU {y : Int} (hy : two64ok y) : ∃ τ, f_X7_putU σ (oi y) = some τ ∧ OL (fun x => x = 100 ∨ x = 103) σ τ ∧ CU G τ (fun _ => y) (fun _ => True) := by
  unfold f_X7_putU
  have hl := loop_inv (body := fun (z2 : (Mem × Int32)) => l_X7_putU_2 (oi y) z2.1 z2.2) (fun n z => ∃ k τ, k ≤ 6 ∧ n = 6 - k ∧ z = (τ, i32 k) ∧ OL (fun x => x = 100 ∨ x = 103) σ τ ∧ CU G τ (fun _ => y) (fun v => v < k)) (fun τ => OL (fun x => x = 100 ∨ x = 103) σ τ ∧ CU G τ (fun _ => y) (fun _ => True)) ?_ 6 (σ, 0) ⟨0, σ, by omega, rfl, rfl, OL.refl, fun i _ h => absurd h (Nat.not_lt_zero i), fun _ => y, fun _ _ => rfl, fun v _ h => absurd h.2 (Nat.not_lt_zero v)⟩
  · exact hl
  · rintro n z ⟨k, τ, hk, rfl, rfl, o, c⟩
    by_cases hk6 : k = 6
    · right
      subst hk6
      refine ⟨τ, ?_, o, c.congr (fun _ _ => rfl) (fun v hv _ => hv)⟩
      show l_X7_putU_2 (oi y) τ (i32 6) = _
      unfold l_X7_putU_2
      rw [i32_6, if_pos (i_le (Nat.le_refl _) (by omega))]
    · left
      obtain ⟨τ2, e2, o2, c2⟩ := c_setU (i := k) (y := y) (by omega) (fun _ => hy) c
      refine ⟨(τ2, i32 (k + 1)), 6 - (k + 1), by omega, ?_, k + 1, τ2, by omega, rfl, rfl, o.trans o2, c2.congr (fun v _ => ?_) (fun v _ hv => ?_)⟩
      · show l_X7_putU_2 (oi y) τ (i32 k) = _
        unfold l_X7_putU_2
        rw [i32_6, if_neg (i_nle (by omega) (by omega)), e2, e_bs, i32_1, i32_add]
      · unfold uV
        split <;> rfl
      · have hv' : v < k + 1 := hv
        show v < k ∨ v = k
        omega
theorem CU.gap {A Y u : Nat → Int} {k : Nat} (hk : k < 6) (hg : GapOK G σ A Y) (h : CU G σ u (fun _ => True)) : f_X9_value σ (104 + 4 * k) 100 = some (oi (gapv G A Y k u)) := by
  obtain ⟨_, x, hx, hT⟩ := h
  exact c_gapVal hk hg (fun v hv hp => hT v hv ⟨hp, trivial⟩) hx
theorem c_areClosed {A Y u : Nat → Int} {s m : Nat} (hg : GapOK G σ A Y) (h : CU G σ u (fun _ => True)) (hs : s ≤ 6) (hm : m ≤ 6) : ∃ b, f_X7_areClosed σ (i32 s) (i32 m) = some b ∧ (b = true ↔ ∀ k, s ≤ k → k < m → oi (gapv G A Y k u) = 0) := by
  unfold f_X7_areClosed
  refine loop_inv (body := fun (z1 : Int32) => l_X7_areClosed_2 σ (i32 m) z1) (fun n z => ∃ k, s ≤ k ∧ k ≤ 6 ∧ n = 6 - k ∧ z = i32 k ∧ ∀ p, s ≤ p → p < k → oi (gapv G A Y p u) = 0) _ ?_ (6 - s) (i32 s) ⟨s, Nat.le_refl _, hs, rfl, rfl, fun p h1 h2 => by omega⟩
  rintro n z ⟨k, hk1, hk2, rfl, rfl, hd⟩
  by_cases hkm : m ≤ k
  · right
    refine ⟨true, ?_, fun _ p h1 h2 => hd p h1 (by omega), fun _ => rfl⟩
    unfold l_X7_areClosed_2
    rw [if_pos (i_le hkm (by omega))]
  · have hbody : l_X7_areClosed_2 σ (i32 m) (i32 k) = if oi (gapv G A Y k u) = 0 then some (Sum.inl (i32 k + 1)) else some (Sum.inr false) := by
      unfold l_X7_areClosed_2
      rw [if_neg (i_nle (by omega) (by omega)), i32_6, if_neg (i_nle (by omega) (by omega)), e_gR ln_99 (by omega) (by omega), (SP_gap (show k < 6 by omega)).2, CU.gap (show k < 6 by omega) hg h, e_bs]
    by_cases hz : oi (gapv G A Y k u) = 0
    · left
      refine ⟨i32 (k + 1), 6 - (k + 1), by omega, ?_, k + 1, by omega, by omega, rfl, rfl, fun p h1 h2 => ?_⟩
      · rw [hbody, if_pos hz, i32_1, i32_add]
      · by_cases hpk : p = k
        · rw [hpk]; exact hz
        · exact hd p h1 (by omega)
    · right
      refine ⟨false, ?_, fun q => absurd q (by decide), fun q => absurd (q k hk1 (by omega)) hz⟩
      rw [hbody, if_neg hz]
/-- steps taken: costs of subtrees -/
def cst : Nat → Nat
  | 0 => 1
  | r + 1 => 8 * cst r + 2
def pot (f : Nat) (b : Int) (u : Nat → Int) : Nat → Nat
  | 0 => 0
  | i + 1 => pot f b u i + (u i + b).toNat * cst (f - 1 - i)
theorem pot_congr {f : Nat} {b : Int} {u w : Nat → Int} : ∀ i, (∀ p, p < i → u p = w p) → pot f b u i = pot f b w i
  | 0, _ => rfl
  | i + 1, h => by
    show pot f b u i + _ = pot f b w i + _
    rw [pot_congr i (fun p hp => h p (by omega)), h i (by omega)]
theorem pot_le {f : Nat} {b : Int} {u : Nat → Int} (hb : b ≤ 3) : ∀ i, i ≤ f → (∀ p, p < i → u p ≤ b + 1) → pot f b u i + cst (f - i) ≤ cst f
  | 0, _, _ => by show 0 + cst (f - 0) ≤ cst f; rw [Nat.sub_zero, Nat.zero_add]; exact Nat.le_refl _
  | i + 1, hi, h => by
    have ih := pot_le (f := f) (u := u) hb i (by omega) (fun p hp => h p (by omega))
    have h1 := h i (by omega)
    have h2 : (u i + b).toNat ≤ 7 := by omega
    have h3 := Nat.mul_le_mul_right (cst (f - 1 - i)) h2
    have h4 : cst (f - i) = 8 * cst (f - 1 - i) + 2 := by
      rw [show f - i = (f - 1 - i) + 1 by omega]; rfl
    have h5 : f - (i + 1) = f - 1 - i := by omega
    show pot f b u i + (u i + b).toNat * cst (f - 1 - i) + cst (f - (i + 1)) ≤ cst f
    rw [h5]
    omega
theorem cst_5 {f : Nat} (h : f ≤ 5) : cst f ≤ 42130 := by
  rcases (show f = 0 ∨ f = 1 ∨ f = 2 ∨ f = 3 ∨ f = 4 ∨ f = 5 by omega) with z | z | z | z | z | z <;> subst z <;> decide
theorem cst_pos : ∀ r, 1 ≤ cst r
  | 0 => Nat.le_refl _
  | r + 1 => by show 1 ≤ 8 * cst r + 2; omega
theorem uV_self {u : Nat → Int} {i : Nat} {y : Int} : uV u i y i = y := if_pos rfl
theorem uV_ne {u : Nat → Int} {i p : Nat} {y : Int} (h : p ≠ i) : uV u i y p = u p := if_neg h
theorem le_small {x y : Int} (hx : -100 ≤ x ∧ x ≤ 100) (hy : -100 ≤ y ∧ y ≤ 100) : oi x ≤ oi y ↔ x ≤ y := by
  rw [Int64.le_iff_toInt_le, oi_toInt (by omega) (by omega), oi_toInt (by omega) (by omega)]
theorem neg_b {b : Nat} (hb : b ≤ 3) : (-(i32 b)).toInt64 = oi (-(b : Int)) := by
  rcases (show b = 0 ∨ b = 1 ∨ b = 2 ∨ b = 3 by omega) with z | z | z | z <;> subst z <;> decide
/-- what the search keeps -/
def SInv (G : GD) (A Y : Nat → Int) (b : Int) (f i : Nat) (u : Nat → Int) : Prop := (∀ p, p < i → -b ≤ u p ∧ u p ≤ b) ∧ (i < f → -b ≤ u i ∧ u i ≤ b + 1) ∧ (∀ p, p < f → -b ≤ u p ∧ u p ≤ b + 1 ∨ u p = 0) ∧ (∀ p, f ≤ p → u p = 0) ∧ (∀ k, k ≤ i → k < 6 → oi (gapv G A Y k u) = 0) ∧ ∀ w, Bx b f w → Kx G A Y w → ¬ ∃ j, j ≤ i ∧ j < f ∧ (∀ p, p < j → w p = u p) ∧ w j < u j
theorem c_findLoopU {A Y : Nat → Int} {b f : Nat} {u0 : Nat → Int} (hG : GOK G) (hb : 1 ≤ b ∧ b ≤ 3) (hf : 1 ≤ f ∧ f ≤ 5) (hfn : f < gn G) (hg : GapOK G σ A Y) (h : CU G σ u0 (fun _ => True)) (hi : SInv G A Y b f 0 u0) (hu0 : u0 0 = -(b : Int)) : ∃ r, loopO (fun (z7 : (Mem × Int32 × Int32)) => l_X7_findWithin_21 (i32 b) (i32 f) z7.1 z7.2.1 z7.2.2) (σ, 0, 0) = some r ∧ ∃ τ, OL (fun x => x = 100 ∨ x = 103) σ τ ∧ ((∃ u, r = Sum.inl (τ, i32 f) ∧ Fst G A Y b f u ∧ CU G τ u (fun _ => True)) ∨ (r = Sum.inr (false, τ) ∧ ∀ w, Bx b f w → ¬ Kx G A Y w)) := by
  have hn := hG.2.1
  refine loop_inv (body := fun (z7 : (Mem × Int32 × Int32)) => l_X7_findWithin_21 (i32 b) (i32 f) z7.1 z7.2.1 z7.2.2) (fun n z => ∃ i s u τ, i ≤ f ∧ n = 50000 - s ∧ z = (τ, i32 i, i32 s) ∧ OL (fun x => x = 100 ∨ x = 103) σ τ ∧ CU G τ u (fun _ => True) ∧ SInv G A Y b f i u ∧ (i = f → Kx G A Y u) ∧ s ≤ pot f b u (if i < f then i + 1 else i) + i) _ ?_ 50000 (σ, 0, 0) ⟨0, 0, u0, σ, by omega, rfl, rfl, OL.refl, h, hi, fun q => by omega, Nat.zero_le _⟩
  rintro n z ⟨i, s, u, τ, hif, rfl, rfl, o, cu, si, hK, hs⟩
  obtain ⟨s1, s2, s3, s4, s5, s6⟩ := si
  have hgt : GapOK G τ A Y := hg.eqs (fun x h1 h2 => ⟨by rw [o.1], o.2 x (by omega)⟩)
  have c5 := cst_5 hf.2
  have hsb : s ≤ 42140 := by
    by_cases hif2 : i < f
    · rw [if_pos hif2] at hs
      have := pot_le (f := f) (b := b) (u := u) (by omega) (i + 1) (by omega) (fun p hp => by
        by_cases hpi : p = i
        · rw [hpi]; exact (s2 hif2).2
        · have := s1 p (by omega); omega)
      omega
    · rw [if_neg hif2] at hs
      have := pot_le (f := f) (b := b) (u := u) (by omega) i (by omega) (fun p hp => by have := s1 p hp; omega)
      omega
  by_cases hif2 : i = f
  · right
    subst hif2
    refine ⟨Sum.inl (τ, i32 i), ?_, τ, o, Or.inl ⟨u, rfl, ⟨⟨s1, s4⟩, hK rfl, fun w hw hkw ⟨j, hj, h1, h2⟩ => s6 w hw hkw ⟨j, by omega, hj, h1, h2⟩⟩, cu⟩⟩
    show l_X7_findWithin_21 (i32 b) (i32 i) τ (i32 i) (i32 s) = _
    unfold l_X7_findWithin_21
    rw [show (1000000 : Int32) = i32 1000000 from rfl, if_neg (i_nle (by omega) (by omega)), if_pos (i_le (Nat.le_refl _) (by omega))]
  · have hlt : i < f := by omega
    rw [if_pos hlt] at hs
    have hui := s2 hlt
    have c0 : cu.1 i (by omega) trivial = cu.1 i (by omega) trivial := rfl
    have hrow : τ.2 103 i = oi (u i) := cu.1 i (by omega) trivial
    have hb64 : (i32 b).toInt64 = oi (b : Int) := n64 (by omega)
    have hpre : l_X7_findWithin_21 (i32 b) (i32 f) τ (i32 i) (i32 s) = ((if oi (u i) ≤ oi (b : Int) then ((if (i32 i + 1) = i32 f then (some 6) else (some (i32 i + 2)) : Option Int32).bind (fun (z11 : Int32) => j_X7_findWithin_89 (i32 b) (i32 f) τ (i32 i) z11)) else (if 0 ≤ (i32 i + (-1)) then (gL τ 103 (i32 i + (-1)) (fun (v16 : Int64) => (f_X7_setU τ (i32 i + (-1)) (v16 + 1)).bind (fun (σ17 : Mem) => some (Sum.inl (σ17, i32 i + (-1)))))) else (some (Sum.inr (Sum.inr (Sum.inr (false, τ)))))) : Option ((Mem × Int32) ⊕ ((Mem × Int32 × Int32) ⊕ ((Mem × Int32) ⊕ (Bool × Mem))))).bind (Sum.elim (fun (z10 : (Mem × Int32)) => j_X7_findWithin_127 (i32 s) z10.1 z10.2) some)) := by
      unfold l_X7_findWithin_21
      rw [show (1000000 : Int32) = i32 1000000 from rfl, if_neg (i_nle (by omega) (by omega)), if_neg (i_nle (by omega) (by omega)), e_gL ln_103 (by omega) (by omega), hrow, hb64]
    by_cases hle : u i ≤ b
    · -- within the bound: are the gaps closed
      have hle' : oi (u i) ≤ oi (b : Int) := (le_small (by omega) (by omega)).mpr hle
      obtain ⟨bc, ec, hbc⟩ := c_areClosed (s := i + 1) (m := if i + 1 = f then 6 else i + 2) hgt cu (by omega) (by split <;> omega)
      have em : (if (i32 i + 1) = i32 f then (some 6) else (some (i32 i + 2)) : Option Int32) = some (i32 (if i + 1 = f then 6 else i + 2)) := by
        rw [i32_1, i32_add, i32_2, i32_add]
        by_cases q : i + 1 = f
        · rw [if_pos (by rw [q]), if_pos q]; rfl
        · rw [if_neg (i_ne q (by omega) (by omega)), if_neg q]
      rw [if_pos hle', em, e_bs] at hpre
      unfold j_X7_findWithin_89 at hpre
      rw [show i32 i + 1 = i32 (i + 1) from by rw [i32_1, i32_add], ec, e_bs] at hpre
      cases hbt : bc with
      | true =>
        have hcl := hbc.mp hbt
        rw [hbt, if_pos rfl] at hpre
        left
        by_cases hi1 : i + 1 = f
        · rw [if_pos hi1] at hcl
          rw [if_pos (show i32 f ≤ i32 (i + 1) by rw [hi1]; exact i_le (Nat.le_refl _) (by omega)), e_bs] at hpre
          refine ⟨(τ, i32 (i + 1), i32 (s + 1)), 50000 - (s + 1), by omega, ?_, i + 1, s + 1, u, τ, by omega, rfl, rfl, o, cu, ⟨fun p hp => ?_, fun q => by omega, s3, s4, fun k h1 h2 => ?_, fun w hw hkw ⟨j, hj, hjf, h1, h2⟩ => s6 w hw hkw ⟨j, by omega, hjf, h1, h2⟩⟩, fun _ k hk => ?_, ?_⟩
          · show l_X7_findWithin_21 (i32 b) (i32 f) τ (i32 i) (i32 s) = _
            rw [hpre]
            show j_X7_findWithin_127 (i32 s) τ (i32 (i + 1)) = _
            unfold j_X7_findWithin_127
            rw [i32_1, i32_add]
          · by_cases hpi : p = i
            · rw [hpi]; exact ⟨hui.1, hle⟩
            · exact s1 p (by omega)
          · by_cases hki : k ≤ i
            · exact s5 k hki h2
            · exact hcl k (by omega) h2
          · by_cases hki : k ≤ i
            · exact s5 k hki hk
            · exact hcl k (by omega) hk
          · rw [if_neg (by omega)]
            omega
        · rw [if_neg hi1] at hcl
          rw [if_neg (i_nle (by omega) (by omega)), neg_b hb.2] at hpre
          obtain ⟨τ2, e2, o2, c2⟩ := c_setU (i := i + 1) (y := -(b : Int)) (by omega) (fun _ => by unfold two64ok; omega) cu
          rw [e2, e_bs, e_bs] at hpre
          have uag : ∀ p, p < i + 1 → uV u (i + 1) (-(b : Int)) p = u p := fun p hp => uV_ne (by omega)
          refine ⟨(τ2, i32 (i + 1), i32 (s + 1)), 50000 - (s + 1), by omega, ?_, i + 1, s + 1, uV u (i + 1) (-(b : Int)), τ2, by omega, rfl, rfl, o.trans o2, c2.congr (fun _ _ => rfl) (fun _ _ _ => Or.inl trivial), ⟨fun p hp => ?_, fun _ => ?_, fun p hp => ?_, fun p hp => ?_, fun k h1 h2 => ?_, fun w hw hkw ⟨j, hj, hjf, h1, h2⟩ => ?_⟩, fun q => absurd q (by omega), ?_⟩
          · show l_X7_findWithin_21 (i32 b) (i32 f) τ (i32 i) (i32 s) = _
            rw [hpre]
            show j_X7_findWithin_127 (i32 s) τ2 (i32 (i + 1)) = _
            unfold j_X7_findWithin_127
            rw [i32_1, i32_add]
          · rw [uag p hp]
            by_cases hpi : p = i
            · rw [hpi]; exact ⟨hui.1, hle⟩
            · exact s1 p (by omega)
          · rw [uV_self]; omega
          · by_cases hpi : p = i + 1
            · rw [hpi, uV_self]; omega
            · rw [uV_ne hpi]; exact s3 p hp
          · rw [uV_ne (by omega)]; exact s4 p hp
          · rw [gap_local hG (w := u) (fun p hp => uag p (by omega))]
            by_cases hki : k ≤ i
            · exact s5 k hki h2
            · exact hcl k (by omega) (by omega)
          · by_cases hji : j = i + 1
            · subst hji
              rw [uV_self] at h2
              have := (hw.1 (i + 1) hjf).1
              omega
            · rw [uag j (by omega)] at h2
              exact s6 w hw hkw ⟨j, by omega, hjf, fun p hp => by rw [h1 p hp]; exact uag p (by omega), h2⟩
          · rw [if_pos (by omega)]
            show s + 1 ≤ pot f b (uV u (i + 1) (-(b : Int))) (i + 1) + (uV u (i + 1) (-(b : Int)) (i + 1) + b).toNat * cst (f - 1 - (i + 1)) + (i + 1)
            rw [pot_congr (w := u) (i + 1) uag]
            omega
      | false =>
        rw [hbt, if_neg (by decide), e_gL ln_103 (by omega) (by omega), hrow, show oi (u i) + 1 = oi (u i + 1) from by rw [← oi_add]; rfl] at hpre
        obtain ⟨τ2, e2, o2, c2⟩ := c_setU (i := i) (y := u i + 1) (by omega) (fun _ => by unfold two64ok; omega) cu
        rw [e2, e_bs, e_bs] at hpre
        have hncl : ¬ ∀ k, i + 1 ≤ k → k < (if i + 1 = f then 6 else i + 2) → oi (gapv G A Y k u) = 0 := fun q => by
          have := hbc.mpr q
          rw [hbt] at this
          cases this
        have uag : ∀ p, p < i → uV u i (u i + 1) p = u p := fun p hp => uV_ne (by omega)
        left
        refine ⟨(τ2, i32 i, i32 (s + 1)), 50000 - (s + 1), by omega, ?_, i, s + 1, uV u i (u i + 1), τ2, by omega, rfl, rfl, o.trans o2, c2.congr (fun _ _ => rfl) (fun _ _ _ => Or.inl trivial), ⟨fun p hp => by rw [uag p hp]; exact s1 p hp, fun _ => by rw [uV_self]; omega, fun p hp => ?_, fun p hp => by rw [uV_ne (by omega)]; exact s4 p hp, fun k h1 h2 => by rw [gap_local hG (w := u) (fun p hp => uag p (by omega))]; exact s5 k h1 h2, fun w hw hkw ⟨j, hj, hjf, h1, h2⟩ => ?_⟩, fun q => absurd q hif2, ?_⟩
        · show l_X7_findWithin_21 (i32 b) (i32 f) τ (i32 i) (i32 s) = _
          rw [hpre]
          show j_X7_findWithin_127 (i32 s) τ2 (i32 i) = _
          unfold j_X7_findWithin_127
          rw [i32_1, i32_add]
        · by_cases hpi : p = i
          · rw [hpi, uV_self]; omega
          · rw [uV_ne hpi]; exact s3 p hp
        · by_cases hji : j = i
          · subst hji
            rw [uV_self] at h2
            have hag : ∀ p, p < j → w p = u p := fun p hp => by rw [h1 p hp]; exact uag p hp
            by_cases hwj : w j < u j
            · exact s6 w hw hkw ⟨j, Nat.le_refl _, hjf, hag, hwj⟩
            · have hwe : w j = u j := by omega
              have hag2 : ∀ p, p < j + 1 → u p = w p := fun p hp => by
                by_cases hpj : p = j
                · rw [hpj, hwe]
                · rw [hag p (by omega)]
              refine hncl (fun k hk1 hk2 => ?_)
              have hk6 : k < 6 := by
                by_cases q : j + 1 = f
                · rw [if_pos q] at hk2; exact hk2
                · rw [if_neg q] at hk2; omega
              have hloc : gapv G A Y k u = gapv G A Y k w := gap_local hG (fun p hp => by
                by_cases q : j + 1 = f
                · by_cases hpj : p < j + 1
                  · exact hag2 p hpj
                  · rw [s4 p (by omega), hw.2 p (by omega)]
                · rw [if_neg q] at hk2
                  exact hag2 p (by omega))
              rw [hloc]
              exact hkw k hk6
          · rw [uV_ne hji] at h2
            exact s6 w hw hkw ⟨j, hj, hjf, fun p hp => by rw [h1 p hp]; exact uag p (by omega), h2⟩
        · rw [if_pos hlt]
          show s + 1 ≤ pot f b (uV u i (u i + 1)) i + (uV u i (u i + 1) i + b).toNat * cst (f - 1 - i) + i
          rw [pot_congr (w := u) i uag, uV_self, show (u i + 1 + (b : Int)).toNat = (u i + b).toNat + 1 by omega, Nat.add_mul, Nat.one_mul]
          have : pot f b u (i + 1) = pot f b u i + (u i + b).toNat * cst (f - 1 - i) := rfl
          have h1 := cst_pos (f - 1 - i)
          omega
    · -- beyond the bound: one back
      have hle' : ¬ oi (u i) ≤ oi (b : Int) := fun q => hle ((le_small (by omega) (by omega)).mp q)
      have hue : u i = b + 1 := by omega
      rw [if_neg hle'] at hpre
      by_cases hi0 : i = 0
      · right
        subst hi0
        rw [if_neg (show ¬ 0 ≤ i32 0 + (-1) by decide), e_bs] at hpre
        refine ⟨_, ?_, τ, o, Or.inr ⟨rfl, fun w hw hkw => s6 w hw hkw ⟨0, Nat.le_refl _, by omega, fun p hp => absurd hp (Nat.not_lt_zero _), ?_⟩⟩⟩
        · show l_X7_findWithin_21 (i32 b) (i32 f) τ (i32 0) (i32 s) = _
          rw [hpre]
          rfl
        · have := (hw.1 0 (by omega)).2
          omega
      · left
        have hi1 : i32 i + (-1) = i32 (i - 1) := i32_add_one (by omega)
        have hrow1 : τ.2 103 (i - 1) = oi (u (i - 1)) := cu.1 (i - 1) (by omega) trivial
        have hb1 := s1 (i - 1) (by omega)
        rw [hi1, if_pos (show 0 ≤ i32 (i - 1) from i_le (a := 0) (by omega) (by omega)), e_gL ln_103 (by omega) (by omega), hrow1, show oi (u (i - 1)) + 1 = oi (u (i - 1) + 1) from by rw [← oi_add]; rfl] at hpre
        obtain ⟨τ2, e2, o2, c2⟩ := c_setU (i := i - 1) (y := u (i - 1) + 1) (by omega) (fun _ => by unfold two64ok; omega) cu
        rw [e2, e_bs, e_bs] at hpre
        have uag : ∀ p, p < i - 1 → uV u (i - 1) (u (i - 1) + 1) p = u p := fun p hp => uV_ne (by omega)
        refine ⟨(τ2, i32 (i - 1), i32 (s + 1)), 50000 - (s + 1), by omega, ?_, i - 1, s + 1, uV u (i - 1) (u (i - 1) + 1), τ2, by omega, rfl, rfl, o.trans o2, c2.congr (fun _ _ => rfl) (fun _ _ _ => Or.inl trivial), ⟨fun p hp => by rw [uag p hp]; exact s1 p (by omega), fun _ => by rw [uV_self]; omega, fun p hp => ?_, fun p hp => by rw [uV_ne (by omega)]; exact s4 p hp, fun k h1 h2 => by rw [gap_local hG (w := u) (fun p hp => uag p (by omega))]; exact s5 k (by omega) h2, fun w hw hkw ⟨j, hj, hjf, h1, h2⟩ => ?_⟩, fun q => by omega, ?_⟩
        · show l_X7_findWithin_21 (i32 b) (i32 f) τ (i32 i) (i32 s) = _
          rw [hpre]
          show j_X7_findWithin_127 (i32 s) τ2 (i32 (i - 1)) = _
          unfold j_X7_findWithin_127
          rw [i32_1, i32_add]
        · by_cases hpi : p = i - 1
          · rw [hpi, uV_self]; omega
          · rw [uV_ne hpi]; exact s3 p hp
        · by_cases hji : j = i - 1
          · subst hji
            rw [uV_self] at h2
            have hag : ∀ p, p < i - 1 → w p = u p := fun p hp => by rw [h1 p hp]; exact uag p hp
            by_cases hwj : w (i - 1) < u (i - 1)
            · exact s6 w hw hkw ⟨i - 1, by omega, hjf, hag, hwj⟩
            · refine s6 w hw hkw ⟨i, Nat.le_refl _, hlt, fun p hp => ?_, ?_⟩
              · by_cases hpi : p = i - 1
                · rw [hpi]; omega
                · exact hag p (by omega)
              · have := (hw.1 i hlt).2
                omega
          · rw [uV_ne hji] at h2
            exact s6 w hw hkw ⟨j, by omega, hjf, fun p hp => by rw [h1 p hp]; exact uag p (by omega), h2⟩
        · rw [if_pos (show i - 1 < f by omega)]
          show s + 1 ≤ pot f b (uV u (i - 1) (u (i - 1) + 1)) (i - 1) + (uV u (i - 1) (u (i - 1) + 1) (i - 1) + b).toNat * cst (f - 1 - (i - 1)) + (i - 1)
          rw [pot_congr (w := u) (i - 1) uag, uV_self, show (u (i - 1) + 1 + (b : Int)).toNat = (u (i - 1) + b).toNat + 1 by omega, Nat.add_mul, Nat.one_mul]
          have e1 : pot f b u (i + 1) = pot f b u i + (u i + b).toNat * cst (f - 1 - i) := rfl
          have e2 : pot f b u i = pot f b u (i - 1) + (u (i - 1) + b).toNat * cst (f - 1 - (i - 1)) := by
            rw [show i = (i - 1) + 1 by omega]; rfl
          have e3 : cst (f - 1 - (i - 1)) = 8 * cst (f - 1 - i) + 2 := by
            rw [show f - 1 - (i - 1) = (f - 1 - i) + 1 by omega]; rfl
          have h7 : (u i + (b : Int)).toNat ≤ 7 := by omega
          have h8 := Nat.mul_le_mul_right (cst (f - 1 - i)) h7
          omega
end SRC
