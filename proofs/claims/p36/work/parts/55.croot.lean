/-! the class's roots -/
section CR
variable {G : GD} {σ : Mem}
theorem mul_belowL (hG : GOK G) {a a' x : Nat → Int} {m : Nat} (hm : m < gn G) (h : ∀ i, i < m → a i = a' i) : mul G a x m - a m = mul G a' x m - a' m := by
  rw [mul_eq hG hm, mul_eq hG hm]
  have e1 : pT G m a x = pT G m a' x := sm_congr (fun i _ => sm_congr (fun j _ => by
    by_cases hi : j < m
    · rw [h j hi]
    · rw [tI_low hG (by omega)]; simp))
  have e2 : pU G m a x = pU G m a' x := sm_congr (fun i _ => sm_congr (fun j _ => by
    by_cases hi : j < m
    · rw [h j hi]
    · rw [DD_low hG (by omega)]; simp))
  have e3 : pV G m a x = pV G m a' x := sm_congr (fun i _ => sm_congr (fun j _ => by
    by_cases hi : j < m
    · rw [h j hi]
    · rw [DD_low hG (by omega)]; simp))
  have e4 : pW G m a x = pW G m a' x := sm_congr (fun i _ => sm_congr (fun j _ => sm_congr (fun q _ => by
    by_cases hi : j < m ∧ q < m
    · rw [h j hi.1, h q hi.2]
    · rw [DD_low hG (by omega)]; simp)))
  have e5 : pX G m a x = pX G m a' x := sm_congr (fun i _ => sm_congr (fun p _ => by
    split
    · refine sm_congr (fun j _ => ?_)
      by_cases hi2 : j < m
      · rw [h j hi2]
      · rw [DD_low hG (by omega)]; simp
    · rfl))
  omega
/-- a square, when exponent k alone has changed -/
theorem sq_below (hG : GOK G) {r r' : Nat → Int} {m : Nat} (h : ∀ i, i < m → r i = r' i) : mul G r' r' m = mul G r r m + 2 * (r' m - r m) ∨ ¬ m < gn G := by
  by_cases hm : m < gn G
  · left
    have h1 := mul_belowL hG (x := r') hm h
    have h2 := mul_below hG (a := r) hm h
    omega
  · exact Or.inr hm
theorem TbU.mono {t : Nat} {x x' : Nat → Int} {p q : Nat → Prop} (h : TbU G σ t x p) (hq : ∀ v, v < 12 → q v → p v ∧ x v = x' v) : TbU G σ t x' q := fun v hv hqv => by
  obtain ⟨h1, h2⟩ := hq v hv hqv
  rw [← h2]
  exact h v hv h1
def upx (x : Nat → Int) (v : Nat) (y : Int) : Nat → Int := fun u => if u = v then y else x u
theorem c_putT {t v : Nat} {y : Int} {x : Nat → Int} {p : Nat → Prop} (ht : ln t = 64) (hv : v < 12) (hy : gw G (v % 6) = 1 → two64ok y) (hT : TbU G σ t x p) :
    ∃ τ, f_X4_put σ t (i32 v) (oi y) = some τ ∧ OL (fun x => x = t) σ τ ∧ TbU G τ t (upx x v y) (fun u => p u ∨ u = v) := by
  obtain ⟨τ, e, o, s, r⟩ := c_put (G := G) (σ := σ) ht hv hy
  refine ⟨τ, e, o, fun u hu hpu => ?_⟩
  unfold upx
  by_cases h : u = v
  · rw [if_pos h, h]; exact s
  · rw [if_neg h]
    obtain ⟨q1, q2, q3⟩ := r u h
    rw [q1, q2, q3]
    exact hT u hu (by rcases hpu with h1 | h1; exact h1; exact absurd h1 h)
theorem TbU.keep {P : Nat → Prop} {τ : Mem} {t : Nat} {x : Nat → Int} {p : Nat → Prop} (h : TbU G σ t x p) (ho : OL P σ τ) (hn : ¬ P t) : TbU G τ t x p := fun v hv hp => by rw [ho.2 t hn]; exact h v hv hp
theorem c_putRoot {k : Nat} {y : Int} {x w : Nat → Int} {p q : Nat → Prop} (hk : k < 6) (hy : gw G k = 1 → two64ok y) (hT : TbU G σ 73 x p) (hW : TbU G σ 74 w q) :
    ∃ τ, f_X0_putRoot σ (i32 k) (oi y) = some τ ∧ OL (fun x => x = 73 ∨ x = 74 ∨ x = 75) σ τ ∧ (∀ i, τ.2 75 i = if i = k then oi y else σ.2 75 i) ∧ TbU G τ 73 (upx (upx x k y) (6 + k) y) (fun u => (p u ∨ u = k) ∨ u = 6 + k) ∧ TbU G τ 74 (upx w (6 + k) y) (fun u => q u ∨ u = 6 + k) := by
  unfold f_X0_putRoot
  have m1 : k % 6 = k := by omega
  have m2 : (6 + k) % 6 = k := by omega
  have o0 : OL (fun x => x = 75) σ (wL σ 75 k (oi y)) := OL.wL rfl
  obtain ⟨τ1, e1, o1, t1⟩ := c_putT (σ := wL σ 75 k (oi y)) (t := 73) (v := k) (y := y) ln_73 (by omega) (by rw [m1]; exact hy) (hT.keep o0 (by omega))
  obtain ⟨τ2, e2, o2, t2⟩ := c_putT (σ := τ1) (t := 73) (v := 6 + k) (y := y) ln_73 (by omega) (by rw [m2]; exact hy) t1
  obtain ⟨τ3, e3, o3, t3⟩ := c_putT (σ := τ2) (t := 74) (v := 6 + k) (y := y) ln_74 (by omega) (by rw [m2]; exact hy) (((hW.keep o0 (by omega)).keep o1 (by omega)).keep o2 (by omega))
  refine ⟨τ3, ?_, (o0.mono ?_).trans ((o1.mono ?_).trans ((o2.mono ?_).trans (o3.mono ?_))), ?_, t2.keep o3 (by omega), t3⟩
  · rw [e_pL ln_75 hk (by omega), e1, e_bs, i32_6, i32_add, e2, e_bs, e3, e_bs]
  · intro x hx; omega
  · intro x hx; omega
  · intro x hx; omega
  · intro x hx; omega
  · intro i
    rw [o3.2 75 (by omega), o2.2 75 (by omega), o1.2 75 (by omega), wL_2]
    by_cases h : i = k
    · rw [if_pos ⟨rfl, h⟩, if_pos h]
    · rw [if_neg (fun z => h z.2), if_neg h]
def SQ (G : GD) (r : Nat → Int) : Nat → Int := mul G r r
/-- how far the roots are -/
def RtI (G : GD) (σ τ : Mem) (A : Nat → Int) (z : Int) (k : Nat) : Prop :=
  OL (fun x => x = 73 ∨ x = 74 ∨ x = 75 ∨ x = 76 ∨ x = 77) σ τ ∧ (∀ i, i < k → τ.2 75 i = oi (rtU G A z k i)) ∧ TbU G τ 73 (two6 (rtU G A z k) (rtU G A z k)) (fun v => v % 6 < k) ∧ TbU G τ 74 (two6 (SQ G (rtU G A z k)) (rtU G A z k)) (fun v => v % 6 < k) ∧ (∀ i, i < k → rtOK G A z i ∧ rtIn G A z i)
theorem two6_l {a b : Nat → Int} {v : Nat} (h : v < 6) : two6 a b v = a v := by unfold two6; rw [if_pos h]
theorem two6_r {a b : Nat → Int} {v : Nat} (h : 6 ≤ v) : two6 a b v = b (v - 6) := by unfold two6; rw [if_neg (by omega)]
theorem two6_mul {a b : Nat → Int} {k : Nat} (hG : GOK G) (hk : k < 6) (za : gn G ≤ k → a k = 0) : (if k < gn G then mul G (two6 a b) (fun i => two6 a b (6 + i)) k else 0) = mul G a b k := by
  have hn := hG.2.1
  by_cases h1 : k < gn G
  · rw [if_pos h1]
    refine mul_congr (fun i hi => ?_) (fun i hi => ?_) h1
    · exact two6_l (by omega)
    · show two6 a b (6 + i) = b i
      rw [two6_r (by omega), show 6 + i - 6 = i by omega]
  · rw [if_neg h1, mul_beyond hG (by omega), za (by omega)]
theorem Q_all (hG : GOK G) {r : Nat → Int} {z : Int} {k : Nat} (hr : r k = 0) : r k * z + (mul G r r k - 2 * r k) * two z + (mul G (mul G r r) r k - 3 * mul G r r k + 3 * r k) * three z = Q G r z k := by
  by_cases h1 : k < gn G
  · have hq := Q_numbers hG (a := r) h1
    rw [hq.1, hq.2]
    rfl
  · have w0 : gw G k = 0 := hG.2.2.2.2.1 k (by omega)
    have m1 : mul G r r k = 0 := by rw [mul_beyond hG (by omega)]; exact hr
    have m2 : mul G (mul G r r) r k = 0 := by rw [mul_beyond hG (by omega)]; exact m1
    rw [Q_one hG (by omega), m1, m2, hr]
    simp
theorem c_rootStep (hG : GOK G) {τ : Mem} {x1 : Nat} {A : Nat → Int} {z : Int} {k : Nat} (hP : PolyOK G σ) (hx1 : ln x1 = 6) (hA : H6 σ x1 A) (zA : Z6 G A) (hx : x1 ≠ 73 ∧ x1 ≠ 74 ∧ x1 ≠ 75 ∧ x1 ≠ 76 ∧ x1 ≠ 77) (hz : 1 ≤ z ∧ z ≤ 99) (hk : k < 6) (hI : RtI G σ τ A z k) :
    ∃ υ, OL (fun x => x = 73 ∨ x = 74 ∨ x = 75 ∨ x = 76 ∨ x = 77) σ υ ∧ ((rtOK G A z k ∧ rtIn G A z k ∧ l_X0_extract_11 x1 (oi z) τ (i32 k) = some (Sum.inl (υ, i32 (k + 1))) ∧ RtI G σ υ A z (k + 1)) ∨ (¬ (rtOK G A z k ∧ rtIn G A z k) ∧ l_X0_extract_11 x1 (oi z) τ (i32 k) = some (Sum.inr (Sum.inr (false, υ))))) := by
  obtain ⟨ho, h75, hT, hW, hok⟩ := hI
  have hn := hG.2.1
  have n73 : notSum 73 := fun k hk => by omega
  have n74 : notSum 74 := fun k hk => by omega
  have n75 : notSum 75 := fun k hk => by omega
  have n76 : notSum 76 := fun k hk => by omega
  have n77 : notSum 77 := fun k hk => by omega
  have nS : ∀ x, (x = 73 ∨ x = 74 ∨ x = 75 ∨ x = 76 ∨ x = 77) → notSum x := fun x hx => by
    rcases hx with h | h | h | h | h <;> rw [h] <;> assumption
  have rk0 : rtU G A z k k = 0 := rtU_beyond k (Nat.le_refl k)
  have sq1 : gw G k = 1 → SQ G (rtU G A z k) k = 0 := fun hw => by
    show mul G _ _ k = 0
    rw [m1 hG hw, rk0]; rfl
  obtain ⟨τ5, e5, o5, q5, T5, W5⟩ := c_putRoot (k := k) (y := 0) hk (fun _ => ⟨by omega, by omega⟩) hT hW
  have O5 : OL (fun x => x = 73 ∨ x = 74 ∨ x = 75 ∨ x = 76 ∨ x = 77) σ τ5 := ho.trans (o5.mono (fun x hx => by omega))
  have T5' : TbU G τ5 73 (two6 (rtU G A z k) (rtU G A z k)) (fun v => v % 6 ≤ k) := T5.mono (fun v hv hvk => by
    refine ⟨by omega, ?_⟩
    unfold upx
    by_cases h1 : v = 6 + k
    · rw [if_pos h1, two6_r (by omega), h1, show 6 + k - 6 = k by omega, rk0]
    · rw [if_neg h1]
      by_cases h2 : v = k
      · rw [if_pos h2, two6_l (by omega), h2, rk0]
      · rw [if_neg h2])
  have v7 := (hP.keep O5 nS).valueU hk ln_73 T5'
  rw [two6_mul hG hk (fun _ => rk0)] at v7
  -- the square
  have O8 : OL (fun x => x = 76) τ5 (wL τ5 76 k (oi (SQ G (rtU G A z k) k))) := OL.wL rfl
  obtain ⟨τ10, e10, o10, W10⟩ := c_putT (σ := wL τ5 76 k (oi (SQ G (rtU G A z k) k))) (t := 74) (v := k) (y := SQ G (rtU G A z k) k) ln_74 (by omega) (fun hw => by
    rw [Nat.mod_eq_of_lt hk] at hw
    rw [sq1 hw]; exact ⟨by omega, by omega⟩) (W5.keep O8 (by omega))
  have O10 : OL (fun x => x = 73 ∨ x = 74 ∨ x = 75 ∨ x = 76 ∨ x = 77) σ τ10 := O5.trans ((O8.mono (fun x hx => by omega)).trans (o10.mono (fun x hx => by omega)))
  have W10' : TbU G τ10 74 (two6 (SQ G (rtU G A z k)) (rtU G A z k)) (fun v => v % 6 ≤ k) := W10.mono (fun v hv hvk => by
    refine ⟨by omega, ?_⟩
    unfold upx
    by_cases h2 : v = k
    · rw [if_pos h2, two6_l (by omega), h2]
    · rw [if_neg h2]
      by_cases h1 : v = 6 + k
      · rw [if_pos h1, two6_r (by omega), h1, show 6 + k - 6 = k by omega, rk0]
      · rw [if_neg h1])
  have v12 := (hP.keep O10 nS).valueU hk ln_74 W10'
  rw [two6_mul hG hk (fun h => by show mul G _ _ k = 0; rw [mul_beyond hG h]; exact rk0)] at v12
  have O13 : OL (fun x => x = 77) τ10 (wL τ10 77 k (oi (mul G (SQ G (rtU G A z k)) (rtU G A z k) k))) := OL.wL rfl
  have P13 : OL (fun x => x = 73 ∨ x = 74 ∨ x = 75 ∨ x = 76 ∨ x = 77) σ (wL τ10 77 k (oi (mul G (SQ G (rtU G A z k)) (rtU G A z k) k))) := O10.trans (O13.mono (fun x hx => by omega))
  have T13 := (T5'.keep O8 (by omega)).keep o10 (by omega) |>.keep O13 (by omega)
  have W13 := W10'.keep O13 (by omega)
  have a75 : (wL τ10 77 k (oi (mul G (SQ G (rtU G A z k)) (rtU G A z k) k))).2 75 k = oi (rtU G A z k k) := by
    rw [O13.2 75 (by omega), o10.2 75 (by omega), O8.2 75 (by omega), q5, if_pos rfl, rk0]
  have a76 : (wL τ10 77 k (oi (mul G (SQ G (rtU G A z k)) (rtU G A z k) k))).2 76 k = oi (mul G (rtU G A z k) (rtU G A z k) k) := by
    rw [O13.2 76 (by omega), o10.2 76 (by omega), wL_2, if_pos ⟨rfl, rfl⟩]; rfl
  have a77 : (wL τ10 77 k (oi (mul G (SQ G (rtU G A z k)) (rtU G A z k) k))).2 77 k = oi (mul G (mul G (rtU G A z k) (rtU G A z k)) (rtU G A z k) k) := by
    rw [wL_2, if_pos ⟨rfl, rfl⟩]; rfl
  have b75 : ∀ i, (wL τ10 77 k (oi (mul G (SQ G (rtU G A z k)) (rtU G A z k) k))).2 75 i = if i = k then oi 0 else τ.2 75 i := fun i => by
    rw [O13.2 75 (by omega), o10.2 75 (by omega), O8.2 75 (by omega), q5]
  have hpa := c_powerAt hk (z := z) (by omega) a75 a76 a77
  rw [Q_all hG rk0] at hpa
  have hA13 := hA.keep P13 (by omega) k hk
  have hbody : ∀ y, (if (rtD G A z (rtU G A z k) k / oi z * oi z) = rtD G A z (rtU G A z k) k then (if rtD G A z (rtU G A z k) k / oi z < (-999) then (some (Sum.inr (Sum.inr (false, (wL τ10 77 k (oi (mul G (SQ G (rtU G A z k)) (rtU G A z k) k))))))) else (if rtD G A z (rtU G A z k) k / oi z ≤ 999 then ((f_X0_putRoot (wL τ10 77 k (oi (mul G (SQ G (rtU G A z k)) (rtU G A z k) k))) (i32 k) (rtD G A z (rtU G A z k) k / oi z)).bind (fun (σ18 : Mem) => gL σ18 76 (i32 k) (fun (v19 : Int64) => pL σ18 76 (i32 k) (v19 + (2 * (rtD G A z (rtU G A z k) k / oi z))) (fun (σ20 : Mem) => gL σ20 76 (i32 k) (fun (v21 : Int64) => (f_X4_put σ20 74 (i32 k) v21).bind (fun (σ22 : Mem) => some (Sum.inl (σ22, (i32 k) + 1)))))))) else (some (Sum.inr (Sum.inr (false, (wL τ10 77 k (oi (mul G (SQ G (rtU G A z k)) (rtU G A z k) k))))))))) else (some (Sum.inr (Sum.inr (false, (wL τ10 77 k (oi (mul G (SQ G (rtU G A z k)) (rtU G A z k) k)))))))) = y → l_X0_extract_11 x1 (oi z) τ (i32 k) = y := by
    intro y hy
    unfold l_X0_extract_11
    rw [i32_6, if_neg (i_nle (by omega) (by omega)), show (0 : Int64) = oi 0 from rfl, e5, e_bs, e_gR ln_44 (by omega) (by omega), rf_44 hk, v7, e_bs, e_pL ln_76 hk (by omega), e_gL ln_76 hk (by omega), wL_2, if_pos ⟨rfl, rfl⟩]
    rw [show mul G (rtU G A z k) (rtU G A z k) k = SQ G (rtU G A z k) k from rfl, e10, e_bs, e_gR ln_44 (by omega) (by omega), rf_44 hk, v12, e_bs, e_pL ln_77 hk (by omega), e_gL hx1 hk (by omega), hA13, hpa, e_bs, e_bd, oi_sub, e_nzL (oiz_ne hz), e_bd]
    exact hy
  generalize wL τ10 77 k (oi (mul G (SQ G (rtU G A z k)) (rtU G A z k) k)) = τ13 at P13 T13 W13 a76 b75 hbody
  by_cases hr : rtOK G A z k
  · have hE : rtD G A z (rtU G A z k) k / oi z = oi (rtE G A z (rtU G A z k) k) := oi_toInt'.symm
    have hr' : rtD G A z (rtU G A z k) k / oi z * oi z = rtD G A z (rtU G A z k) k := hr
    rw [if_pos hr', hE] at hbody
    by_cases hi1 : oi (rtE G A z (rtU G A z k) k) < -999
    · exact ⟨τ13, P13, Or.inr ⟨fun q => Int64.not_le.mpr hi1 q.2.1, hbody _ (by rw [if_pos hi1])⟩⟩
    rw [if_neg hi1] at hbody
    by_cases hi2 : oi (rtE G A z (rtU G A z k) k) ≤ 999
    · rw [if_pos hi2] at hbody
      have hin : rtIn G A z k := ⟨Int64.not_lt.mp hi1, hi2⟩
      have hEI : (oi (rtE G A z (rtU G A z k) k)).toInt = rtE G A z (rtU G A z k) k := by
        rw [← hE]; rfl
      have hb1 : -999 ≤ rtE G A z (rtU G A z k) k := by
        have := Int64.le_iff_toInt_le.mp hin.1
        rw [hEI] at this
        exact this
      have hb2 : rtE G A z (rtU G A z k) k ≤ 999 := by
        have := Int64.le_iff_toInt_le.mp hin.2
        rw [hEI] at this
        exact this
      have hE0 : gn G ≤ k → rtE G A z (rtU G A z k) k = 0 := fun hnk => by
        have w0 : gw G k = 0 := hG.2.2.2.2.1 k hnk
        unfold rtE rtD
        rw [Q_one hG (by omega), rk0, zA k hnk hk, Int.zero_mul]
        show ((0 : Int64) / oi z).toInt = 0
        rw [Int64.zero_div]; rfl
      have hR' : rtU G A z (k + 1) = uV (rtU G A z k) k (rtE G A z (rtU G A z k) k) := rfl
      have hRk : rtU G A z (k + 1) k = rtE G A z (rtU G A z k) k := by rw [hR']; unfold uV; rw [if_pos rfl]
      have hRi : ∀ i, i ≠ k → rtU G A z (k + 1) i = rtU G A z k i := fun i hi => by rw [hR']; unfold uV; rw [if_neg hi]
      have hSk : SQ G (rtU G A z (k + 1)) k = SQ G (rtU G A z k) k + 2 * rtE G A z (rtU G A z k) k := by
        rcases sq_below hG (r := rtU G A z k) (r' := rtU G A z (k + 1)) (m := k) (fun i hi => (hRi i (by omega)).symm) with h1 | h1
        · have : mul G (rtU G A z (k + 1)) (rtU G A z (k + 1)) k = mul G (rtU G A z k) (rtU G A z k) k + 2 * rtE G A z (rtU G A z k) k := by
            rw [h1, hRk, rk0, Int.sub_zero]
          exact this
        · show mul G _ _ k = mul G _ _ k + _
          rw [mul_beyond hG (by omega), mul_beyond hG (by omega), hRk, rk0, hE0 (by omega)]; rfl
      have hSi : ∀ i, i < k → SQ G (rtU G A z (k + 1)) i = SQ G (rtU G A z k) i := fun i hi => by
        rcases sq_below hG (r := rtU G A z k) (r' := rtU G A z (k + 1)) (m := i) (fun j hj => (hRi j (by omega)).symm) with h1 | h1
        · have : mul G (rtU G A z (k + 1)) (rtU G A z (k + 1)) i = mul G (rtU G A z k) (rtU G A z k) i := by
            rw [h1, hRi i (by omega)]; omega
          exact this
        · show mul G _ _ i = mul G _ _ i
          rw [mul_beyond hG (by omega), mul_beyond hG (by omega), hRi i (by omega)]
      obtain ⟨τ18, e18, o18, q18, T18, W18⟩ := c_putRoot (σ := τ13) (k := k) (y := rtE G A z (rtU G A z k) k) hk (fun _ => ⟨by omega, by omega⟩) T13 W13
      have a18 : τ18.2 76 k = oi (SQ G (rtU G A z k) k) := by rw [o18.2 76 (by omega)]; exact a76
      have O20 : OL (fun x => x = 76) τ18 (wL τ18 76 k (oi (SQ G (rtU G A z (k + 1)) k))) := OL.wL rfl
      obtain ⟨τ22, e22, o22, W22⟩ := c_putT (σ := wL τ18 76 k (oi (SQ G (rtU G A z (k + 1)) k))) (t := 74) (v := k) (y := SQ G (rtU G A z (k + 1)) k) ln_74 (by omega) (fun hw => by
        rw [Nat.mod_eq_of_lt hk] at hw
        rw [hSk, sq1 hw]; exact ⟨by omega, by omega⟩) (W18.keep O20 (by omega))
      have OF : OL (fun x => x = 73 ∨ x = 74 ∨ x = 75 ∨ x = 76 ∨ x = 77) σ τ22 := P13.trans ((o18.mono (fun x hx => by omega)).trans ((O20.mono (fun x hx => by omega)).trans (o22.mono (fun x hx => by omega))))
      refine ⟨τ22, OF, Or.inl ⟨hr, hin, hbody _ ?_, OF, ?_, ?_, ?_, ?_⟩⟩
      · have hsum : oi (SQ G (rtU G A z k) k) + 2 * oi (rtE G A z (rtU G A z k) k) = oi (SQ G (rtU G A z (k + 1)) k) := by
          rw [show (2 : Int64) = oi 2 from rfl, oi_mul, oi_add, hSk]
        rw [e18, e_bs, e_gL ln_76 hk (by omega), e_pL ln_76 hk (by omega), a18, hsum, e_gL ln_76 hk (by omega), wL_2, if_pos ⟨rfl, rfl⟩, e22, e_bs, i32_1, i32_add]
      · intro i hi
        rw [o22.2 75 (by omega), O20.2 75 (by omega), q18]
        by_cases h1 : i = k
        · rw [if_pos h1, h1, hRk]
        · rw [if_neg h1, b75, if_neg h1, hRi i h1]
          exact h75 i (by omega)
      · refine ((T18.keep O20 (by omega)).keep o22 (by omega)).mono (fun v hv hvk => ⟨by omega, ?_⟩)
        unfold upx
        by_cases h1 : v = 6 + k
        · rw [if_pos h1, two6_r (by omega), h1, show 6 + k - 6 = k by omega, hRk]
        · rw [if_neg h1]
          by_cases h2 : v = k
          · rw [if_pos h2, two6_l (by omega), h2, hRk]
          · rw [if_neg h2]
            by_cases h3 : v < 6
            · rw [two6_l h3, two6_l h3, hRi v h2]
            · rw [two6_r (by omega), two6_r (by omega), hRi _ (by omega)]
      · refine W22.mono (fun v hv hvk => ⟨by omega, ?_⟩)
        unfold upx
        by_cases h2 : v = k
        · rw [if_pos h2, two6_l (by omega), h2]
        · rw [if_neg h2]
          by_cases h1 : v = 6 + k
          · rw [if_pos h1, two6_r (by omega), h1, show 6 + k - 6 = k by omega, hRk]
          · rw [if_neg h1]
            by_cases h3 : v < 6
            · rw [two6_l h3, two6_l h3, hSi v (by omega)]
            · rw [two6_r (by omega), two6_r (by omega), hRi _ (by omega)]
      · intro i hi
        by_cases h1 : i = k
        · rw [h1]; exact ⟨hr, hin⟩
        · exact hok i (by omega)
    · exact ⟨τ13, P13, Or.inr ⟨fun q => hi2 q.2.2, hbody _ (by rw [if_neg hi2])⟩⟩
  · exact ⟨τ13, P13, Or.inr ⟨fun q => hr q.1, hbody _ (by rw [if_neg (show ¬ rtD G A z (rtU G A z k) k / oi z * oi z = rtD G A z (rtU G A z k) k from hr)])⟩⟩
theorem c_extract (hG : GOK G) {out x1 : Nat} {A : Nat → Int} {z : Int} {m : Int64} (hP : PolyOK G σ) (hout : ln out = 6) (hx1 : ln x1 = 6) (hA : H6 σ x1 A) (zA : Z6 G A) (hx : x1 ≠ 73 ∧ x1 ≠ 74 ∧ x1 ≠ 75 ∧ x1 ≠ 76 ∧ x1 ≠ 77) (hm : m = oi z) (hz : 1 ≤ z ∧ z ≤ 99) :
    ∃ b τ, f_X0_extract σ out x1 m = some (b, τ) ∧ OL (fun x => x = 73 ∨ x = 74 ∨ x = 75 ∨ x = 76 ∨ x = 77 ∨ x = out) σ τ ∧ (b = true ↔ ∀ k, k < 6 → rtOK G A z k ∧ rtIn G A z k) ∧ (b = true → H6 τ out (rtU G A z 6)) := by
  subst hm
  unfold f_X0_extract
  have h1 : (1 : Int64) ≤ oi z := by
    rw [Int64.le_iff_toInt_le, oi_toInt (by omega) (by omega)]
    exact hz.1
  rw [if_pos h1]
  have hl := loop_inv (body := fun (z4 : Mem × Int32) => l_X0_extract_11 x1 (oi z) z4.1 z4.2) (fun n s => ∃ k τ, k ≤ 6 ∧ n = 6 - k ∧ s = (τ, i32 k) ∧ RtI G σ τ A z k) (fun r => (∃ τ, r = Sum.inl τ ∧ RtI G σ τ A z 6) ∨ ∃ τ, r = Sum.inr (false, τ) ∧ OL (fun x => x = 73 ∨ x = 74 ∨ x = 75 ∨ x = 76 ∨ x = 77) σ τ ∧ ¬ ∀ k, k < 6 → rtOK G A z k ∧ rtIn G A z k) ?_ 6 (σ, 0) ⟨0, σ, by omega, rfl, rfl, OL.refl, fun i h => absurd h (Nat.not_lt_zero _), fun v _ h => absurd h (Nat.not_lt_zero _), fun v _ h => absurd h (Nat.not_lt_zero _), fun i h => absurd h (Nat.not_lt_zero _)⟩
  · obtain ⟨r, e, ⟨τ, rfl, hI⟩ | ⟨τ, rfl, o, hno⟩⟩ := hl
    · rw [e]
      show ∃ b υ, j_X0_extract_185 out τ = some (b, υ) ∧ _
      unfold j_X0_extract_185
      obtain ⟨ho, h75, _, _, hok⟩ := hI
      obtain ⟨υ, e2, o2, r2⟩ := c_copy (σ := τ) (a := 75) (b := out) (A := rtU G A z 6) ln_75 hout (fun k hk => h75 k hk)
      rw [e2, e_bs]
      exact ⟨true, υ, rfl, (ho.mono (fun x hx => by omega)).trans (o2.mono (fun x hx => by omega)), ⟨fun _ => hok, fun _ => rfl⟩, fun _ => r2⟩
    · rw [e]
      exact ⟨false, τ, rfl, o.mono (fun x hx => by omega), ⟨fun q => absurd q (by decide), fun q => absurd q hno⟩, fun q => absurd q (by decide)⟩
  · rintro n s ⟨k, τ, hk, hn, rfl, hI⟩
    by_cases hk6 : k = 6
    · right
      refine ⟨Sum.inl τ, ?_, Or.inl ⟨τ, rfl, hk6 ▸ hI⟩⟩
      show l_X0_extract_11 _ _ _ _ = _
      unfold l_X0_extract_11
      rw [hk6, i32_6, if_pos (i_le (Nat.le_refl 6) (by omega))]
    · obtain ⟨υ, o, ⟨h1, h2, h3, h4⟩ | ⟨h1, h3⟩⟩ := c_rootStep hG hP hx1 hA zA hx hz (show k < 6 by omega) hI
      · left
        exact ⟨(υ, i32 (k + 1)), 6 - (k + 1), by omega, h3, k + 1, υ, by omega, rfl, rfl, h4⟩
      · right
        exact ⟨Sum.inr (false, υ), h3, Or.inr ⟨υ, rfl, o, fun q => h1 (q k (by omega))⟩⟩
/-- beyond the group nothing is left -/
theorem rt_all (hG : GOK G) {A : Nat → Int} {z : Int} (zA : Z6 G A) : (∀ k, k < 6 → rtOK G A z k ∧ rtIn G A z k) ↔ ((∀ k, k < gn G → rtOK G A z k) ∧ isEl G (rtU G A z (gn G)) = true) := by
  have hn := hG.2.1
  unfold isEl
  rw [decide_eq_true_eq]
  have e : ∀ k, k < gn G → ((-999 ≤ oi (rtU G A z (gn G) k) ∧ oi (rtU G A z (gn G) k) ≤ 999) ↔ rtIn G A z k) := fun k hk => by
    rw [rtU_at hk]; exact Iff.rfl
  constructor
  · intro h
    exact ⟨fun k hk => (h k (by omega)).1, fun k hk => (e k hk).mpr (h k (by omega)).2⟩
  · intro h k hk
    by_cases h1 : k < gn G
    · exact ⟨h.1 k h1, (e k h1).mp (h.2 k h1)⟩
    · have w0 : gw G k = 0 := hG.2.2.2.2.1 k (by omega)
      have hD : rtD G A z (rtU G A z k) k = 0 := by
        unfold rtD
        rw [Q_one hG (by omega), rtU_beyond k (Nat.le_refl k), zA k (by omega) hk, Int.zero_mul]; rfl
      have hEz : rtE G A z (rtU G A z k) k = 0 := by
        unfold rtE
        rw [hD, Int64.zero_div]; rfl
      refine ⟨?_, ?_⟩
      · unfold rtOK
        rw [hD, Int64.zero_div, Int64.zero_mul]
      · unfold rtIn
        rw [hEz]; decide
theorem rtU_6 (hG : GOK G) {A : Nat → Int} {z : Int} (zA : Z6 G A) : ∀ k, k < 6 → rtU G A z 6 k = rtU G A z (gn G) k := fun k hk => by
  have hn := hG.2.1
  by_cases h1 : k < gn G
  · rw [rtU_at h1, rtU_at hk]
  · rw [rtU_beyond (gn G) (by omega), rtU_at hk]
    have w0 : gw G k = 0 := hG.2.2.2.2.1 k (by omega)
    unfold rtE rtD
    rw [Q_one hG (by omega), rtU_beyond k (Nat.le_refl k), zA k (by omega) hk, Int.zero_mul]
    show ((0 : Int64) / oi z).toInt = 0
    rw [Int64.zero_div]; rfl
end CR
