/-! the class's balls grow -/
section CGR
variable {σ : Mem} {G : GD}
def yE (i : Nat) (y : Int) : Nat → Int := fun m => if m = i then y else 0
theorem mul_yE (hG : GOK G) {v : Nat → Int} {j : Nat} {y : Int} (hj : j < gn G) : mul G v (yE j y) = TL G v j y := by
  have key : ∀ K, K ≤ gn G → mulU G v (yE j y) K = if j < K then TL G v j y else v := by
    intro K
    induction K with
    | zero => intro _; rw [if_neg (Nat.not_lt_zero j)]; rfl
    | succ K ih =>
      intro hK
      show TL G (mulU G v (yE j y) K) K (yE j y K) = _
      rw [ih (by omega)]
      by_cases h1 : K = j
      · subst h1
        rw [if_neg (Nat.lt_irrefl K), if_pos (Nat.lt_succ_self K)]
        unfold yE
        rw [if_pos rfl]
      · have e0 : yE j y K = 0 := by unfold yE; rw [if_neg h1]
        rw [e0, TL_zero hG (by omega)]
        by_cases h2 : j < K
        · rw [if_pos h2, if_pos (by omega)]
        · rw [if_neg h2, if_neg (by omega)]
  unfold mul
  rw [key (gn G) (Nat.le_refl _), if_pos hj]
theorem c_makeGen {a i : Nat} {y : Int} (ha : ln a = 6) (hi : i < 6) : ∃ τ, f_X0_makeGenerator σ a (i32 i) (oi y) = some τ ∧ OL (fun x => x = a) σ τ ∧ H6 τ a (yE i y) := by
  unfold f_X0_makeGenerator
  obtain ⟨τ, e, o, v⟩ := fillL (σ := σ) (v := 0) ha (by omega)
  rw [e, e_bs, if_neg (show ¬ i32 i < 0 from i_nlt (b := 0) (by omega) (by omega)), i32_6, if_neg (i_nle hi (by omega)), e_pL ha hi (by omega)]
  refine ⟨_, rfl, o.trans (OL.wL rfl), fun k hk => ?_⟩
  rw [wL_2]
  unfold yE
  by_cases h : k = i
  · rw [if_pos ⟨rfl, h⟩, if_pos h]
  · rw [if_neg (fun q => h q.2), if_neg h, v k hk]; rfl
theorem PB.zb {B : Int} {x : Nat → Int} (h : PB G B x) : Zb G x := h.2
theorem PB.w1 {B : Int} {x : Nat → Int} (hG : GOK G) (h : PB G B x) (hB : B ≤ 2 ^ 31) : W1 G x := h.1.w1 hG hB
theorem PB.z6 {B : Int} {x : Nat → Int} (h : PB G B x) : Z6 G x := fun k h1 _ => h.2 k h1
theorem W1_yE {i : Nat} {y : Int} (hy : -1 ≤ y ∧ y ≤ 1) : W1 G (yE i y) := fun k _ _ => by
  unfold yE two64ok
  split <;> omega
theorem CPoly.fba {τ : Mem} (h : CPoly G σ) (f : FBa σ τ) : CPoly G τ := fun k hk => (h k hk).of (f.1 _ (by omega) (by omega)) (f.1 _ (by omega) (by omega)) (f.2.2 _ (by omega) (by omega) (by omega) (by omega) (by omega)) (f.1 _ (by omega) (by omega))
theorem CG41.fba {τ : Mem} (h : CG σ 41 G) (f : FBa σ τ) : CG τ 41 G := by
  unfold CG
  rw [f.1 41 (by omega) (by omega), f.1 (41 + 1) (by omega) (by omega), f.1 (41 + 2) (by omega) (by omega)]
  exact h
theorem H6.row {τ : Mem} {a : Nat} {x : Nat → Int} (h : H6 σ a x) (e : τ.2 a = σ.2 a) : H6 τ a x := fun k hk => by rw [e]; exact h k hk
theorem c_growBy {B y : Int} {x : Nat → Int} {M : List (Nat → Int)} {i : Nat} (hG : GOK G) (hP : CPoly G σ) (hX : H6 σ 132 x) (hM : CBl σ M) (hl : M.length ≤ 1001) (hF : Far G M) (hB : 0 ≤ B ∧ B ≤ 100) (pM : ∀ y, y ∈ M → PB G (B + 1) y) (px : PB G B x) (hi : i < gn G) (hy : -1 ≤ y ∧ y ≤ 1) (v : Int32) (hv : v.toInt64 = oi y) : ∃ τ, f_X1_growBy σ (i32 i) v = some τ ∧ CBl τ (addE G M (TL G x i y)) ∧ FBa σ τ ∧ H6 τ 132 x := by
  have hn := hG.2.1
  obtain ⟨σ1, e1, o1, r1⟩ := c_makeGen (σ := σ) (a := 133) (i := i) (y := y) ln_133 (by omega)
  have f1 := o1.fba (fun x hx => by omega)
  have n134 : notSum 134 := fun k hk => by omega
  have hX1 : H6 σ1 132 x := hX.row (o1.2 132 (by omega))
  obtain ⟨σ2, e2, o2, r2⟩ := c_product hG (CPoly.ok hG (hP.fba f1)) (out := 134) (a := 132) (b := 133) ln_134 ln_132 ln_133 hX1 r1 (by omega) n134 (by omega) (by omega) (px.w1 hG (by omega)) (W1_yE hy) px.z6
  have f2 := o2.fba (fun x hx => by omega)
  rw [mul_yE hG hi] at r2
  have pT := TL_pb hG hi px hy
  obtain ⟨τ, e3, c3, f3, k3⟩ := c_keepMade (σ := σ2) hn r2 ((hM.ol o1 (by omega)).ol o2 (by omega)) hl hF (fun z hz => (pM z hz).zb) pT.zb
  refine ⟨τ, ?_, c3, f1.trans (f2.trans f3), (hX1.row (o2.2 132 (by omega))).row k3⟩
  unfold f_X1_growBy
  rw [hv, e1, e_bs, e2, e_bs, e3, e_bs]
theorem genE_h {x : Nat → Int} {M : List (Nat → Int)} {i : Nat} (h : gw G i = 1) : genE G x M (i + 1) = addE G (addE G (genE G x M i) (TL G x i 1)) (TL G x i (-1)) := if_pos h
theorem c_growRow {B : Int} {x : Nat → Int} {M : List (Nat → Int)} (hG : GOK G) (h41 : CG σ 41 G) (hP : CPoly G σ) (hX : H6 σ 132 x) (hM : CBl σ M) (hl : M.length ≤ 1001) (hF : Far G M) (hB : 0 ≤ B ∧ B ≤ 100) (pM : ∀ y, y ∈ M → PB G (B + 1) y) (px : PB G B x) : ∃ τ, loopO (fun (z7 : (Mem × Int32)) => l_X1_grow_38 z7.1 z7.2) (σ, 0) = some τ ∧ CBl τ (genE G x M (gn G)) ∧ FBa σ τ := by
  have hn := hG.2.1
  refine loop_inv (body := fun (z7 : (Mem × Int32)) => l_X1_grow_38 z7.1 z7.2) (fun n z => ∃ i τ, i ≤ gn G ∧ n = gn G - i ∧ z = (τ, i32 i) ∧ CBl τ (genE G x M i) ∧ FBa σ τ ∧ H6 τ 132 x) _ ?_ (gn G) (σ, 0) ⟨0, σ, by omega, rfl, rfl, hM, FBa.refl, hX⟩
  rintro n z ⟨i, τ, hi, rfl, rfl, c, f, r⟩
  have h41' := CG41.fba h41 f
  by_cases hin : i = gn G
  · right
    subst hin
    refine ⟨τ, ?_, c, f⟩
    show l_X1_grow_38 τ (i32 (gn G)) = _
    unfold l_X1_grow_38
    rw [e_gF, h41'.1, if_pos (i_le (Nat.le_refl _) (by omega))]
  · have hbody : l_X1_grow_38 τ (i32 i) = if i32 (gw G i) = 1 then ((f_X1_growBy τ (i32 i) 1).bind (fun (σ10 : Mem) => (f_X1_growBy σ10 (i32 i) (-1)).bind (fun (σ11 : Mem) => some (Sum.inl (σ11, i32 i + 1))))) else (some (Sum.inr τ)) := by
      unfold l_X1_grow_38
      rw [e_gF, h41'.1, if_neg (i_nle (by omega) (by omega)), e_gI ln_42 (by omega) (by omega), h41'.2.1 i (by omega)]
    by_cases hw : gw G i = 1
    · left
      have l1 : (genE G x M i).length ≤ 1001 := by rw [← hE_gen]; exact hE_len hl _
      have q1 : Far G (genE G x M i) := by rw [← hE_gen]; exact hE_far hF _
      have p1 : ∀ y, y ∈ genE G x M i → PB G (B + 1) y := by rw [← hE_gen]; exact hE_pb hG px pM _ (by omega)
      have pT1 : PB G (B + 1) (TL G x i 1) := TL_pb hG (by omega) px (by omega)
      obtain ⟨τ1, e1, c1, f1, r1⟩ := c_growBy (σ := τ) (y := 1) (i := i) hG (hP.fba f) r c l1 q1 hB p1 px (by omega) (by omega) 1 rfl
      obtain ⟨τ2, e2, c2, f2, r2⟩ := c_growBy (σ := τ1) (y := -1) (i := i) hG ((hP.fba f).fba f1) r1 c1 (addE_len l1) (addE_far q1) hB (addE_all p1 pT1) px (by omega) (by omega) (-1) rfl
      refine ⟨(τ2, i32 (i + 1)), gn G - (i + 1), by omega, ?_, i + 1, τ2, by omega, rfl, rfl, ?_, f.trans (f1.trans f2), r2⟩
      · show l_X1_grow_38 τ (i32 i) = _
        rw [hbody, hw, if_pos (show i32 1 = 1 from rfl), e1, e_bs, e2, e_bs, i32_1, i32_add]
      · rw [genE_h hw]; exact c2
    · right
      have hw3 := (hG.2.2.1 i (by omega)).2
      refine ⟨τ, ?_, ?_, f⟩
      · show l_X1_grow_38 τ (i32 i) = _
        rw [hbody, if_neg (i_ne1 hw (by omega))]
      · have := genE_stop (x := x) (M := M) hG hw (gn G - i)
        rw [show i + (gn G - i) = gn G by omega] at this
        rw [this]; exact c
theorem c_grow {B : Int} {M : List (Nat → Int)} {s : Nat} (hG : GOK G) (h41 : CG σ 41 G) (hP : CPoly G σ) (hM : CBl σ M) (hl : M.length ≤ 1001) (hF : Far G M) (hB : 0 ≤ B ∧ B ≤ 100) (pM : ∀ y, y ∈ M → PB G B y) (hs : s ≤ M.length) : ∃ τ, f_X1_grow σ (i32 s) (i32 M.length) = some τ ∧ CBl τ (growE G M s (M.length - s)) ∧ FBa σ τ := by
  have hn := hG.2.1
  unfold f_X1_grow
  refine loop_inv (body := fun (z2 : (Mem × Int32)) => l_X1_grow_2 (i32 M.length) z2.1 z2.2) (fun n z => ∃ k τ, s + k ≤ M.length ∧ n = M.length - (s + k) ∧ z = (τ, i32 (s + k)) ∧ CBl τ (growE G M s k) ∧ FBa σ τ) _ ?_ (M.length - s) (σ, i32 s) ⟨0, σ, by omega, rfl, rfl, hM, FBa.refl⟩
  rintro n z ⟨k, τ, hk, rfl, rfl, c, f⟩
  by_cases hkn : s + k = M.length
  · right
    refine ⟨τ, ?_, ?_, f⟩
    · show l_X1_grow_2 (i32 M.length) τ (i32 (s + k)) = _
      unfold l_X1_grow_2
      rw [hkn, if_pos (i_le (Nat.le_refl _) (by omega))]
    · rw [show M.length - s = k by omega]; exact c
  · have l1 := growE_len (G := G) (s := s) hl k
    by_cases hov : 1000 < (growE G M s k).length
    · right
      refine ⟨τ, ?_, ?_, f⟩
      · show l_X1_grow_2 (i32 M.length) τ (i32 (s + k)) = _
        unfold l_X1_grow_2
        rw [if_neg (i_nle (by omega) (by omega)), e_gF, c.1, show (1000 : Int32) = i32 1000 from rfl, if_pos (i_lt hov (by omega))]
      · have := growE_over hov (M.length - s - k)
        rw [show k + (M.length - s - k) = M.length - s by omega] at this
        rw [this]; exact c
    · left
      have hsk : s + k < M.length := by omega
      have hpre := growE_pre (G := G) (M := M) (s := s) k
      have hget : (growE G M s k)[s + k]? = some (M.getD (s + k) O) := by
        rw [pre_get hpre hsk, List.getD_eq_getElem?_getD, List.getElem?_eq_getElem hsk]
        rfl
      have hrow := c.2.1 _ _ hget
      have f1 : FBa τ (cpL τ 130 132 (6 * (s + k)) 0 6) := ⟨fun _ _ _ => rfl, fun _ _ => rfl, fun z _ _ h3 _ _ => by
        funext y
        rw [cpL_to, if_neg (fun q => h3 q.1)]⟩
      have c1 : CBl (cpL τ 130 132 (6 * (s + k)) 0 6) (growE G M s k) := by
        refine ⟨c.1, fun q x hq j hj => ?_, c.2.2⟩
        rw [cpL_to, if_neg (by omega)]
        exact c.2.1 q x hq j hj
      have r1 : H6 (cpL τ 130 132 (6 * (s + k)) 0 6) 132 (M.getD (s + k) O) := fun j hj => by
        rw [cpL_to, if_pos ⟨rfl, by omega, by omega⟩, show 6 * (s + k) + (j - 0) = 6 * (s + k) + j by omega]
        exact hrow j hj
      have hP1 := hP.fba (f.trans f1)
      have h1 := CG41.fba h41 (f.trans f1)
      obtain ⟨τ2, e2, c2, f2⟩ := c_growRow hG h1 hP1 r1 c1 l1 (growE_far hF k) hB (growE_pb hG hB.1 pM k) (getD_pb hB.1 pM (s + k))
      refine ⟨(τ2, i32 (s + (k + 1))), M.length - (s + (k + 1)), by omega, ?_, k + 1, τ2, by omega, rfl, rfl, c2, f.trans (f1.trans f2)⟩
      show l_X1_grow_2 (i32 M.length) τ (i32 (s + k)) = _
      unfold l_X1_grow_2
      rw [if_neg (i_nle (by omega) (by omega)), e_gF, c.1, show (1000 : Int32) = i32 1000 from rfl, if_neg (i_nlt (by omega) (by omega)), show i32 (s + k) * 6 = i32 (6 * (s + k)) from by rw [i32_6, i32_mul, Nat.mul_comm], i32_0, e_cLto (by rw [ln_130]; omega) (by rw [ln_132]; omega) (by omega) (by omega)]
      have e2' : loopO (fun (z7 : (Mem × Int32)) => l_X1_grow_38 z7.1 z7.2) (cpL τ 130 132 (6 * (s + k)) 0 6, i32 0) = some τ2 := e2
      rw [e2', e_bs]
      unfold j_X1_grow_90
      rw [i32_1, i32_add, Nat.add_assoc]
/-- what finding balls changes -/
def FBf (σ τ : Mem) : Prop := (∀ x, x ≠ 128 → x ≠ 129 → x ≠ 131 → τ.1 x = σ.1 x) ∧ (∀ c, c ≠ 2 → c ≠ 6 → τ.1 128 c = σ.1 128 c) ∧ ∀ x, x ≠ 73 → x ≠ 130 → x ≠ 132 → x ≠ 133 → x ≠ 134 → τ.2 x = σ.2 x
theorem FBf.refl : FBf σ σ := ⟨fun _ _ _ _ => rfl, fun _ _ _ => rfl, fun _ _ _ _ _ _ => rfl⟩
theorem FBf.trans {τ υ : Mem} (h : FBf σ τ) (k : FBf τ υ) : FBf σ υ := ⟨fun x h1 h2 h3 => (k.1 x h1 h2 h3).trans (h.1 x h1 h2 h3), fun c h1 h2 => (k.2.1 c h1 h2).trans (h.2.1 c h1 h2), fun x h1 h2 h3 h4 h5 => (k.2.2 x h1 h2 h3 h4 h5).trans (h.2.2 x h1 h2 h3 h4 h5)⟩
theorem FBa.fbf {τ : Mem} (h : FBa σ τ) : FBf σ τ := ⟨fun x h1 _ h3 => h.1 x h1 h3, fun c _ h2 => h.2.1 c h2, h.2.2⟩
theorem CPoly.fbf {τ : Mem} (h : CPoly G σ) (f : FBf σ τ) : CPoly G τ := fun k hk => (h k hk).of (f.1 _ (by omega) (by omega) (by omega)) (f.1 _ (by omega) (by omega) (by omega)) (f.2.2 _ (by omega) (by omega) (by omega) (by omega) (by omega)) (f.1 _ (by omega) (by omega) (by omega))
theorem CG41.fbf {τ : Mem} (h : CG σ 41 G) (f : FBf σ τ) : CG τ 41 G := by
  unfold CG
  rw [f.1 41 (by omega) (by omega) (by omega), f.1 (41 + 1) (by omega) (by omega) (by omega), f.1 (41 + 2) (by omega) (by omega) (by omega)]
  exact h
theorem c_findLoop {s0 : Mem} (hG : GOK G) (h41 : CG σ 41 G) (hP : CPoly G σ) (hM : CBl σ [O]) (h0 : σ.1 129 0 = 1) (hs : s0 = σ) : ∃ τ, loopO (fun (z13 : (Mem × Int32 × Int32)) => l_X1_find_65 z13.1 z13.2.1 z13.2.2) (σ, 0, 1) = some τ ∧ BallOK τ G ∧ FBf σ τ ∧ τ.1 128 2 = σ.1 128 2 := by
  have hn := hG.2.1
  refine loop_inv (body := fun (z13 : (Mem × Int32 × Int32)) => l_X1_find_65 z13.1 z13.2.1 z13.2.2) (fun n z => ∃ l τ, l ≤ 4 ∧ n = 4 - l ∧ z = (τ, i32 (lvl G l).1, i32 (l + 1)) ∧ CBl τ (lvl G l).2 ∧ (∀ q, q ≤ l → τ.1 129 q = if (lvl G q).2.length ≤ 1000 then i32 (lvl G q).2.length else -1) ∧ FBf σ τ ∧ τ.1 128 2 = σ.1 128 2) _ ?_ 4 (σ, 0, 1) ⟨0, σ, by omega, rfl, rfl, hM, fun q hq => by
    have : q = 0 := by omega
    subst this
    rw [h0]
    exact (if_pos (show [O].length ≤ 1000 by decide)).symm, FBf.refl, rfl⟩
  rintro n z ⟨l, τ, hl, rfl, rfl, c, hs, f, k2⟩
  obtain ⟨a1, a2, a3, a4, a5⟩ := lvl_facts hG l
  by_cases hl4 : l = 4
  · right
    subst hl4
    refine ⟨τ, ?_, ⟨c.1, hs, c.2.1, c.2.2⟩, f, k2⟩
    show l_X1_find_65 τ _ (i32 5) = _
    unfold l_X1_find_65
    rw [if_pos (show (4 : Int32) < i32 5 by decide)]
  · left
    obtain ⟨τ1, e1, c1, f1⟩ := c_grow (σ := τ) (B := l) (s := (lvl G l).1) hG (CG41.fbf h41 f) (hP.fbf f) c a2 a4 ⟨by omega, by omega⟩ a5 a1
    have c1' : CBl τ1 (lvl G (l + 1)).2 := c1
    obtain ⟨b1, b2, b3, b4, b5⟩ := lvl_facts hG (l + 1)
    refine ⟨(wI τ1 129 (l + 1) (if (lvl G (l + 1)).2.length ≤ 1000 then i32 (lvl G (l + 1)).2.length else -1), i32 (lvl G (l + 1)).1, i32 (l + 1 + 1)), 4 - (l + 1), by omega, ?_, l + 1, _, by omega, rfl, rfl, ?_, fun q hq => ?_, f.trans (f1.fbf.trans ⟨fun x _ h2 _ => ?_, fun c _ _ => ?_, fun _ _ _ _ _ _ => rfl⟩), ?_⟩
    · show l_X1_find_65 τ (i32 (lvl G l).1) (i32 (l + 1)) = _
      unfold l_X1_find_65
      rw [show (4 : Int32) = i32 4 from rfl, if_neg (i_nlt (by omega) (by omega)), e_gF, c.1, e1, e_bs, e_gF, c1'.1, show (1000 : Int32) = i32 1000 from rfl]
      by_cases hlen : (lvl G (l + 1)).2.length ≤ 1000
      · rw [if_pos (i_le hlen (by omega)), e_gF, c1'.1, e_bs, if_pos hlen]
        unfold j_X1_find_104
        rw [e_pI ln_129 (by omega) (by omega), i32_1, i32_add]
        rfl
      · rw [if_neg (i_nle (by omega) (by omega)), e_bs, if_neg hlen]
        unfold j_X1_find_104
        rw [e_pI ln_129 (by omega) (by omega), i32_1, i32_add]
        rfl
    · refine ⟨?_, c1'.2.1, ?_⟩
      · rw [wI_1, if_neg (by omega)]; exact c1'.1
      · have : (wI τ1 129 (l + 1) (if (lvl G (l + 1)).2.length ≤ 1000 then i32 (lvl G (l + 1)).2.length else -1)).1 131 = τ1.1 131 := by
          funext y; rw [wI_1, if_neg (by omega)]
        rw [this]; exact c1'.2.2
    · rw [wI_1]
      by_cases hql : q = l + 1
      · rw [if_pos ⟨rfl, hql⟩, hql]
      · rw [if_neg (fun z => hql z.2), f1.1 129 (by omega) (by omega)]
        exact hs q (by omega)
    · funext y; rw [wI_1, if_neg (fun z => h2 z.1)]
    · rw [wI_1, if_neg (by omega)]
    · rw [wI_1, if_neg (by omega), f1.2.1 2 (by omega)]
      exact k2
theorem c_find (hG : GOK G) {c : Nat} (hc : c < 520) (hl : CLaw c σ G) (hcons : Cons G) : ∃ τ, f_X1_find σ = some τ ∧ BallOK τ G ∧ FBf σ τ ∧ τ.1 128 2 = τ.1 40 4 := by
  have hn := hG.2.1
  obtain ⟨h41, hL, ed, bd, e1, e2, e3, e4, e5⟩ := hl
  have hP : CPoly G σ := by
    obtain ⟨c', a1, a2, a3, a4⟩ := hL
    exact a3 (a2.mpr hcons)
  unfold f_X1_find
  rw [e_gF, e_gF, e1, e2]
  by_cases hb : bd = ed
  · subst hb
    rw [if_pos rfl]
    exact ⟨σ, rfl, e5 rfl, FBf.refl, by rw [e1, e2]⟩
  · rw [if_neg (i_ne hb (by omega) (by omega)), e_gF, e1, e_pF]
    have f1 : FBf σ (wI σ 128 2 (i32 ed)) := ⟨fun x h1 _ _ => by funext y; rw [wI_1, if_neg (fun z => h1 z.1)], fun c h1 _ => by rw [wI_1, if_neg (fun z => h1 z.2)], fun _ _ _ _ _ _ => rfl⟩
    obtain ⟨σ2, k2, o2, z2⟩ := fillI (σ := wI σ 128 2 (i32 ed)) (a := 131) (v := 0) ln_131 (by omega)
    have f2 : FBf (wI σ 128 2 (i32 ed)) σ2 := ⟨fun x _ _ h3 => o2.2 x h3, fun c _ _ => by rw [o2.2 128 (by omega)], fun x _ _ _ _ _ => by rw [o2.1]⟩
    have f3 : FBf σ2 (wI σ2 128 6 0) := ⟨fun x h1 _ _ => by funext y; rw [wI_1, if_neg (fun z => h1 z.1)], fun c _ h2 => by rw [wI_1, if_neg (fun z => h2 z.2)], fun _ _ _ _ _ _ => rfl⟩
    obtain ⟨σ4, k4, o4, z4⟩ := fillL (σ := wI σ2 128 6 0) (a := 134) (v := 0) ln_134 (by omega)
    have f4 : FBf (wI σ2 128 6 0) σ4 := (o4.fba (fun x hx => by omega)).fbf
    have hO : H6 σ4 134 O := fun k hk => z4 k hk
    have c0 : CBl σ4 [] := by
      refine ⟨?_, fun q x hq => by simp at hq, fun _ => 0, fun p hp => ⟨?_, Nat.zero_le _⟩, ?_, fun q x hq => by simp at hq⟩
      · rw [o4.1, wI_1, if_pos ⟨rfl, rfl⟩]; rfl
      · rw [o4.1, wI_1, if_neg (by omega)]; exact z2 p hp
      · exact nzS_zero 4096 (fun _ _ => rfl)
    obtain ⟨σ5, k5, c5, f5, _⟩ := c_keepMade (σ := σ4) (G := G) hn hO c0 (Nat.zero_le _) List.Pairwise.nil (fun y hy => by cases hy) (fun _ _ => rfl)
    have c5' : CBl σ5 [O] := c5
    have F5 : FBf σ σ5 := f1.trans (f2.trans (f3.trans (f4.trans f5.fbf)))
    have f6 : FBf σ5 (wI σ5 129 0 (i32 1)) := ⟨fun x _ h2 _ => by funext y; rw [wI_1, if_neg (fun z => h2 z.1)], fun c _ _ => by rw [wI_1, if_neg (by omega)], fun _ _ _ _ _ _ => rfl⟩
    have c6 : CBl (wI σ5 129 0 (i32 1)) [O] := by
      refine ⟨by rw [wI_1, if_neg (by omega)]; exact c5'.1, c5'.2.1, ?_⟩
      have : (wI σ5 129 0 (i32 1)).1 131 = σ5.1 131 := by funext y; rw [wI_1, if_neg (by omega)]
      rw [this]; exact c5'.2.2
    have F6 := F5.trans f6
    obtain ⟨τ, k7, b7, f7, t7⟩ := c_findLoop (σ := wI σ5 129 0 (i32 1)) hG (CG41.fbf h41 F6) (hP.fbf F6) c6 (by rw [wI_1, if_pos ⟨rfl, rfl⟩]; rfl) rfl
    have p129 : ∀ g : Mem → Option Mem, pI σ5 129 0 (i32 1) g = g (wI σ5 129 0 (i32 1)) := fun g => e_pI (k := 0) ln_129 (by omega) (by omega)
    have l5 : σ5.1 128 6 = i32 1 := c5'.1
    rw [k2, e_bs, e_pF, k4, e_bs, k5, e_bs, e_gF, l5, p129, k7]
    refine ⟨τ, rfl, b7, F6.trans f7, ?_⟩
    rw [t7, (F6.trans f7).1 40 (by omega) (by omega) (by omega), e1, wI_1, if_neg (by omega), f5.2.1 2 (by omega), o4.1, wI_1, if_neg (by omega), o2.2 128 (by omega), wI_1, if_pos ⟨rfl, rfl⟩]
theorem ICls.fbf {c : Nat} {S : AS} {τ : Mem} (h : ICls c S σ) (f : FBf σ τ) (hb : BallOK τ (aG S)) (he : τ.1 128 2 = τ.1 40 4) : ICls c S τ := by
  obtain ⟨h1, h2, h3, h4, h5, h6, m, l, ed, bd, e1, e2, e3, e4, e5⟩ := h
  have g1 : ∀ x, x < 128 ∨ 131 < x → τ.1 x = σ.1 x := fun x hx => f.1 x (by omega) (by omega) (by omega)
  have g2 : ∀ x, x ≠ 73 → x < 130 ∨ 134 < x → τ.2 x = σ.2 x := fun x h0 hx => f.2.2 x h0 (by omega) (by omega) (by omega) (by omega)
  refine ⟨h1.eqs (fun x a b => g1 x (by omega)) (fun x a b => g2 x (by omega) (by omega)), h2.eqs (g1 16 (by omega)), h3.eqs (g1 0 (by omega)) (fun x a _ => g1 x (by omega)) (fun x a _ => g2 x (by omega) (by omega)), ⟨by rw [g1 0 (by omega)]; exact h4.1, fun y hy => ⟨(h4.2 y hy).1.eqs (fun x a b => g1 x (by omega)) (fun x a b => g2 x (by omega) (by omega)), (h4.2 y hy).2.eqs (g1 32 (by omega))⟩⟩, ⟨by rw [g1 0 (by omega)]; exact h5.1, fun p x hp => by rw [g1 34 (by omega)]; exact h5.2 p x hp⟩, ⟨by rw [g1 144 (by omega)]; exact h6.1, by rw [g1 144 (by omega)]; exact h6.2⟩, CG41.fbf m f, l.eqs (by rw [g1 40 (by omega)]) (fun x a b => ⟨g1 x (by omega), ?_⟩), ed, ed, by rw [g1 40 (by omega)]; exact e1, by rw [he, g1 40 (by omega)]; exact e1, Nat.le_refl _, e4, fun _ => hb⟩
  exact g2 x (by omega) (by omega)
theorem FBf.hi {τ : Mem} (f : FBf σ τ) : HI σ τ := fun x hx => ⟨f.1 x (by omega) (by omega) (by omega), f.2.2 x (by omega) (by omega) (by omega) (by omega) (by omega)⟩
def szE (G : GD) (l : Nat) : Int32 := if (lvl G l).2.length ≤ 1000 then i32 (lvl G l).2.length else -1
theorem c_sizeOf {c l : Nat} {S : AS} (ok : OKS S) (hc : c < 520) (h : ICls c S σ) (hcons : Cons (aG S)) (hl : l ≤ 4) : ∃ τ, f_X1_sizeOf σ (i32 l) = some (szE (aG S) l, τ) ∧ ICls c S τ ∧ HI σ τ := by
  obtain ⟨τ, e, hb, f, he⟩ := c_find ok.1.1 hc h.law hcons
  refine ⟨τ, ?_, h.fbf f hb he, f.hi⟩
  unfold f_X1_sizeOf
  rw [e, e_bs, if_neg (show ¬ i32 l < 0 from i_nlt (b := 0) (by omega) (by omega)), if_neg (show ¬ 4 < i32 l from i_nlt (a := 4) (by omega) (by omega)), e_gI ln_129 (by omega) (by omega), e_bs, hb.2.1 l hl]
  rfl
end CGR
