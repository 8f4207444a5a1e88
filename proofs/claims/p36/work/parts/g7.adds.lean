/-! the reference: a commutator becomes a column -/
section ADS
variable {σ : Mem} {G : GD} {f : SF}
theorem PS_rwL {a : Nat} {g : Nat → Int64} (h : a ≠ 313) : rwL (PS σ f) a g = PS (rwL σ a g) f := by
  unfold rwL PS
  refine congrArg (Prod.mk σ.1) ?_
  funext x y
  show (if x = a then g y else if x = 313 ∧ y < 600 then oi (f (y / 6) (y % 6)) else σ.2 x y) = if x = 313 ∧ y < 600 then oi (f (y / 6) (y % 6)) else if x = a then g y else σ.2 x y
  by_cases h1 : x = a
  · rw [if_pos h1, if_neg (by omega), if_pos h1]
  · rw [if_neg h1, if_neg h1]
theorem PS_wI6 {k : Nat} {v : Int32} : wI (PS σ f) 306 k v = PS (wI σ 306 k v) f := rfl
/-- what the search of alike changes, but for slots -/
def FCa (σ τ : Mem) : Prop := (∀ x, x ≠ 306 → τ.1 x = σ.1 x) ∧ (∀ c, c ≠ 31 → c ≠ 33 → c ≠ 34 → c ≠ 36 → τ.1 306 c = σ.1 306 c) ∧ ∀ x, x ≠ 313 → x ≠ 320 → x ≠ 321 → x ≠ 322 → τ.2 x = σ.2 x
theorem FCa.refl : FCa σ σ := ⟨fun _ _ => rfl, fun _ _ _ _ _ => rfl, fun _ _ _ _ _ => rfl⟩
theorem FCa.trans {τ υ : Mem} (h : FCa σ τ) (k : FCa τ υ) : FCa σ υ := ⟨fun x h1 => (k.1 x h1).trans (h.1 x h1), fun c h1 h2 h3 h4 => (k.2.1 c h1 h2 h3 h4).trans (h.2.1 c h1 h2 h3 h4), fun x h1 h2 h3 h4 => (k.2.2 x h1 h2 h3 h4).trans (h.2.2 x h1 h2 h3 h4)⟩
theorem FCq.ca {τ : Mem} (h : FCq σ τ) : FCa σ τ := ⟨h.1, fun c a b d _ => h.2.1 c a b d, fun x _ a b _ => h.2.2 x a b⟩
theorem FCa.fld {c : Nat} {v : Int32} (h : c = 31 ∨ c = 33 ∨ c = 34 ∨ c = 36) : FCa σ (wI σ 306 c v) := ⟨fun x hx => by funext y; rw [wI_1, if_neg (fun q => hx q.1)], fun d h1 h2 h3 h4 => by rw [wI_1, if_neg (by omega)], fun _ _ _ _ _ => rfl⟩
theorem FCa.row {a : Nat} {g : Nat → Int64} (h : a = 320 ∨ a = 321 ∨ a = 322) : FCa σ (rwL σ a g) := ⟨fun _ _ => rfl, fun _ _ _ _ _ => rfl, fun x _ h1 h2 h3 => rwL_x (by omega)⟩
theorem FCa.ps : FCa σ (PS σ f) := ⟨fun _ _ => rfl, fun _ _ _ _ _ => rfl, fun x h _ _ _ => PS_2 h⟩
theorem MG.ca {τ : Mem} (h : MG σ G) (k : FCa σ τ) : MG τ G := by
  unfold MG
  rw [k.1 307 (by omega)]
  exact h
theorem M0.ca {τ : Mem} (h : M0 σ) (k : FCa σ τ) : M0 τ := fun m hm => by rw [k.2.2 314 (by omega) (by omega) (by omega) (by omega)]; exact h m hm
theorem FCa.sr {τ : Mem} (k : FCa σ τ) : SR σ τ := ⟨fun x hx => ⟨k.1 x (by omega), k.2.2 x (by omega) (by omega) (by omega) (by omega)⟩, fun x hx => k.1 x (by omega), fun c hc => k.2.1 c (by omega) (by omega) (by omega) (by omega), k.2.2 312 (by omega) (by omega) (by omega) (by omega), fun m _ => by rw [k.2.2 314 (by omega) (by omega) (by omega) (by omega)]⟩
theorem i32_12 : (12 : Int32) = i32 12 := rfl
theorem i32_50 : (50 : Int32) = i32 50 := rfl
/-- the column of a commutator's numbers of one weight, and who made it -/
def vcl (G : GD) (w : Nat) (a b : Nat → Int) : Nat → Int := fun k => if k < 6 then (if k < gn G ∧ gw G k = w then cmm G a b k else 0) else if 12 ≤ k ∧ k < 12 + gn G then b (k - 12) else 0
def az0 (r : Nat → Int64) (m i : Nat) : Nat → Int64 := fun y => if 18 * m ≤ y ∧ y < 18 * m + i then 0 else r y
def az1 (G : GD) (w : Nat) (c : Nat → Int) (r : Nat → Int64) (m i : Nat) : Nat → Int64 := fun y => if 18 * m ≤ y ∧ y < 18 * m + 18 then (if y < 18 * m + i ∧ gw G (y - 18 * m) = w then oi (c (y - 18 * m)) else 0) else r y
def az2 (G : GD) (w : Nat) (c b : Nat → Int) (r : Nat → Int64) (m i : Nat) : Nat → Int64 := fun y => if 18 * m + 12 ≤ y ∧ y < 18 * m + 12 + i then oi (b (y - (18 * m + 12))) else az1 G w c r m (gn G) y
theorem r_adds0 {m : Nat} (hm : m < 20) (h31 : σ.1 306 31 = i32 m) : loopO (fun (z22 : (Mem × Int32)) => l_X11_adds_11 z22.1 z22.2) (PS σ f, 0) = some (PS (rwL σ 320 (az0 (σ.2 320) m 18)) f) := by
  refine loop_at (body := fun (z22 : (Mem × Int32)) => l_X11_adds_11 z22.1 z22.2) (fun i => (PS (rwL σ 320 (az0 (σ.2 320) m i)) f, i32 i)) 0 18 ?_ (by omega) (fun i _ hi => ?_) ?_
  · refine Prod.ext ?_ rfl
    show PS (rwL σ 320 (az0 (σ.2 320) m 0)) f = PS σ f
    rw [rwL_id (f := az0 (σ.2 320) m 0) (fun y => by
      unfold az0
      rw [if_neg (by omega)])]
  · show l_X11_adds_11 (PS (rwL σ 320 (az0 (σ.2 320) m i)) f) (i32 i) = _
    unfold l_X11_adds_11
    have g31 : (PS (rwL σ 320 (az0 (σ.2 320) m i)) f).1 306 31 = i32 m := h31
    rw [i32_18, if_neg (i_nle hi (by omega)), e_gF, g31, i32_mul, i32_add, e_pL ln_320 (by omega) (by omega), i32_1, i32_add, ← PS_rwL (by omega), rwL_w, PS_rwL (by omega)]
    refine congrArg (fun τ => some (Sum.inl (PS τ f, i32 (i + 1)))) (rwL_congr (fun y => ?_))
    unfold az0
    by_cases hy : y = 18 * m + i
    · rw [if_pos hy, if_pos (by omega)]
    · rw [if_neg hy]
      by_cases h2 : 18 * m ≤ y ∧ y < 18 * m + i
      · rw [if_pos h2, if_pos (by omega)]
      · rw [if_neg h2, if_neg (by omega)]
  · show l_X11_adds_11 _ (i32 18) = _
    unfold l_X11_adds_11
    rw [if_pos (by decide)]
theorem r_adds1 {m w : Nat} (hG : GOK G) (hM : MG σ G) (hm : m < 20) (h31 : σ.1 306 31 = i32 m) (hw : w < 2 ^ 31) : loopO (fun (z14 : (Mem × Int32)) => l_X11_adds_43 (i32 w) z14.1 z14.2) (PS (rwL σ 320 (az0 (σ.2 320) m 18)) f, 0) = some (PS (rwL σ 320 (az1 G w (f 50) (σ.2 320) m (gn G))) f) := by
  have hn := hG.2.1
  refine loop_at (body := fun (z14 : (Mem × Int32)) => l_X11_adds_43 (i32 w) z14.1 z14.2) (fun i => (PS (rwL σ 320 (az1 G w (f 50) (σ.2 320) m i)) f, i32 i)) 0 (gn G) ?_ (by omega) (fun i _ hi => ?_) ?_
  · refine Prod.ext ?_ rfl
    show PS (rwL σ 320 (az1 G w (f 50) (σ.2 320) m 0)) f = PS (rwL σ 320 (az0 (σ.2 320) m 18)) f
    refine congrArg (fun τ => PS τ f) (rwL_congr (fun y => ?_))
    unfold az1 az0
    by_cases h1 : 18 * m ≤ y ∧ y < 18 * m + 18
    · rw [if_pos h1, if_pos h1, if_neg (by omega)]
    · rw [if_neg h1, if_neg h1]
  · show l_X11_adds_43 (i32 w) (PS (rwL σ 320 (az1 G w (f 50) (σ.2 320) m i)) f) (i32 i) = _
    unfold l_X11_adds_43
    have hM' : MG (PS (rwL σ 320 (az1 G w (f 50) (σ.2 320) m i)) f) G := hM
    have g31 : (PS (rwL σ 320 (az1 G w (f 50) (σ.2 320) m i)) f).1 306 31 = i32 m := h31
    have hw3 := (hG.2.2.1 i hi).2
    rw [e_n hM', e_bs, if_neg (i_nle hi (by omega)), e_weight hM' (by omega), e_bs]
    by_cases hwi : gw G i = w
    · rw [if_pos (by rw [hwi]), e_gF, g31, i32_50, p_of (by omega) (by omega), e_bs, i32_18, i32_mul, i32_add, e_pL ln_320 (by omega) (by omega), e_bs]
      unfold j_X11_adds_85
      rw [i32_1, i32_add, ← PS_rwL (by omega), rwL_w, PS_rwL (by omega)]
      refine congrArg (fun τ => some (Sum.inl (PS τ f, i32 (i + 1)))) (rwL_congr (fun y => ?_))
      unfold az1
      by_cases hy : y = 18 * m + i
      · rw [if_pos hy, if_pos (by omega), hy, show 18 * m + i - 18 * m = i by omega, if_pos ⟨by omega, hwi⟩]
      · rw [if_neg hy]
        by_cases h1 : 18 * m ≤ y ∧ y < 18 * m + 18
        · rw [if_pos h1, if_pos h1]
          by_cases h2 : y < 18 * m + i ∧ gw G (y - 18 * m) = w
          · rw [if_pos h2, if_pos ⟨by omega, h2.2⟩]
          · rw [if_neg h2, if_neg (fun q => h2 ⟨by omega, q.2⟩)]
        · rw [if_neg h1, if_neg h1]
    · rw [if_neg (i_ne hwi (by omega) hw), e_bs]
      unfold j_X11_adds_85
      rw [i32_1, i32_add]
      refine congrArg (fun τ => some (Sum.inl (PS τ f, i32 (i + 1)))) (rwL_congr (fun y => ?_))
      unfold az1
      by_cases h1 : 18 * m ≤ y ∧ y < 18 * m + 18
      · rw [if_pos h1, if_pos h1]
        by_cases h2 : y < 18 * m + i ∧ gw G (y - 18 * m) = w
        · rw [if_pos h2, if_pos ⟨by omega, h2.2⟩]
        · rw [if_neg h2, if_neg (fun q => h2 ⟨by
            by_cases h3 : y - 18 * m = i
            · exact absurd (h3 ▸ q.2) hwi
            · omega, q.2⟩)]
      · rw [if_neg h1, if_neg h1]
  · show l_X11_adds_43 (i32 w) (PS (rwL σ 320 (az1 G w (f 50) (σ.2 320) m (gn G))) f) (i32 (gn G)) = _
    unfold l_X11_adds_43
    have hM' : MG (PS (rwL σ 320 (az1 G w (f 50) (σ.2 320) m (gn G))) f) G := hM
    rw [e_n hM', e_bs, if_pos (i_le (Nat.le_refl _) (by omega))]
theorem r_adds2 {m w b : Nat} (hG : GOK G) (hM : MG σ G) (hm : m < 20) (hb : b < 100) (h31 : σ.1 306 31 = i32 m) : loopO (fun (z8 : (Mem × Int32)) => l_X11_adds_94 (i32 b) z8.1 z8.2) (PS (rwL σ 320 (az1 G w (f 50) (σ.2 320) m (gn G))) f, 0) = some (PS (rwL σ 320 (az2 G w (f 50) (f b) (σ.2 320) m (gn G))) f) := by
  have hn := hG.2.1
  refine loop_at (body := fun (z8 : (Mem × Int32)) => l_X11_adds_94 (i32 b) z8.1 z8.2) (fun i => (PS (rwL σ 320 (az2 G w (f 50) (f b) (σ.2 320) m i)) f, i32 i)) 0 (gn G) ?_ (by omega) (fun i _ hi => ?_) ?_
  · refine Prod.ext ?_ rfl
    exact congrArg (fun τ => PS τ f) (rwL_congr (fun y => if_neg (by omega)))
  · show l_X11_adds_94 (i32 b) (PS (rwL σ 320 (az2 G w (f 50) (f b) (σ.2 320) m i)) f) (i32 i) = _
    unfold l_X11_adds_94
    have hM' : MG (PS (rwL σ 320 (az2 G w (f 50) (f b) (σ.2 320) m i)) f) G := hM
    have g31 : (PS (rwL σ 320 (az2 G w (f 50) (f b) (σ.2 320) m i)) f).1 306 31 = i32 m := h31
    rw [e_n hM', e_bs, if_neg (i_nle hi (by omega)), e_gF, g31, p_of hb (by omega), e_bs, i32_18, i32_12, i32_mul, i32_add, i32_add, e_pL ln_320 (by omega) (by omega), i32_1, i32_add, ← PS_rwL (by omega), rwL_w, PS_rwL (by omega)]
    refine congrArg (fun τ => some (Sum.inl (PS τ f, i32 (i + 1)))) (rwL_congr (fun y => ?_))
    unfold az2
    by_cases hy : y = 18 * m + 12 + i
    · rw [if_pos hy, if_pos (by omega), hy, show 18 * m + 12 + i - (18 * m + 12) = i by omega]
    · rw [if_neg hy]
      by_cases h2 : 18 * m + 12 ≤ y ∧ y < 18 * m + 12 + i
      · rw [if_pos h2, if_pos (by omega)]
      · rw [if_neg h2, if_neg (by omega)]
  · show l_X11_adds_94 (i32 b) (PS (rwL σ 320 (az2 G w (f 50) (f b) (σ.2 320) m (gn G))) f) (i32 (gn G)) = _
    unfold l_X11_adds_94
    have hM' : MG (PS (rwL σ 320 (az2 G w (f 50) (f b) (σ.2 320) m (gn G))) f) G := hM
    rw [e_n hM', e_bs, if_pos (i_le (Nat.le_refl _) (by omega))]
theorem r_adds {C : Nat → Nat → Int} {m s b w : Nat} (hG : GOK G) (hM : MG σ G) (h0 : M0 σ) (hm : m < 20) (hC : Cl σ C m) (h31 : σ.1 306 31 = i32 m) (hs : s < 50) (hb : b < 50) (hw : w < 2 ^ 31) {B : Int} (hB : 4 * B ≤ 2 ^ 30) (hB0 : 0 ≤ B) (ha : SB G B (f s)) (hbb : SB G B (f b)) : ∃ σ' f', f_X11_adds (PS σ f) (i32 s) (i32 b) (i32 w) = some (PS σ' f') ∧ FCa σ σ' ∧ σ'.1 306 31 = i32 (m + 1) ∧ (∀ q, q < 50 → f' q = f q) ∧ Cl σ' (adC C m (vcl G w (f s) (f b))) (m + 1) ∧ σ'.2 322 = σ.2 322 ∧ σ'.1 306 36 = σ.1 306 36 := by
  have hn := hG.2.1
  obtain ⟨f1, e1, c1, k1⟩ := p_commutator (f := f) hM hG h0 (s := s) (r := b) (t := 50) (by omega) (by omega) (by omega) (by omega) (by omega) hB hB0 ha hbb
  unfold f_X11_adds
  rw [i32_50, e1, e_bs, r_adds0 hm h31, e_bs]
  unfold j_X11_adds_40
  rw [r_adds1 hG hM hm h31 hw, e_bs]
  unfold j_X11_adds_91
  rw [r_adds2 hG hM hm (by omega) h31, e_bs]
  unfold j_X11_adds_134
  have g31 : (PS (rwL σ 320 (az2 G w (f1 50) (f1 b) (σ.2 320) m (gn G))) f1).1 306 31 = i32 m := h31
  rw [e_gF, g31, i32_1, i32_add, e_pF, PS_wI6]
  refine ⟨_, f1, rfl, (FCa.row (by omega)).trans (FCa.fld (by omega)), by rw [wI_1, if_pos ⟨rfl, rfl⟩], fun q hq => k1 q (by omega), fun c k hc hk => ?_, rwL_x (σ := σ) (a := 320) (x := 322) (f := az2 G w (f1 50) (f1 b) (σ.2 320) m (gn G)) (by omega), by rw [wI_1, if_neg (by omega)]; rfl⟩
  have hfb : f1 b = f b := k1 b (by omega)
  refine (rwL_a (σ := σ) (a := 320) (f := az2 G w (f1 50) (f1 b) (σ.2 320) m (gn G)) (y := 18 * c + k)).trans ?_
  by_cases hcm : c = m
  · subst hcm
    rw [adC_m]
    unfold az2 vcl az1
    rw [hfb, c1]
    by_cases h6 : k < 6
    · rw [if_neg (by omega), if_pos (by omega), if_pos h6, show 18 * c + k - 18 * c = k by omega]
      by_cases h7 : k < gn G ∧ gw G k = w
      · rw [if_pos ⟨by omega, h7.2⟩, if_pos h7]
        rfl
      · rw [if_neg (fun q => h7 ⟨by omega, q.2⟩), if_neg h7]
        rfl
    · rw [if_neg h6]
      by_cases h8 : 12 ≤ k ∧ k < 12 + gn G
      · rw [if_pos (by omega), if_pos h8, show 18 * c + k - (18 * c + 12) = k - 12 by omega]
      · rw [if_neg (by omega), if_pos (by omega), if_neg (by omega), if_neg h8]
        rfl
  · rw [adC_n hcm]
    unfold az2 az1
    rw [if_neg (by omega), if_neg (by omega)]
    exact hC c k (by omega) hk
end ADS
