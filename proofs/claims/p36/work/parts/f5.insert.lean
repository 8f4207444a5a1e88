/-! the class's lattice: a row inserted, made tidy; a row reduced -/
section INS
variable {σ : Mem} {a n : Nat}
def flz (x y : Int) : Int := if y = 0 then 0 else flo x y
theorem c_take {x c : Nat} {X : Nat → Int} {E : Nat → Nat → Int} (hL : LA a) (hn : n ≤ 6) (h0 : σ.1 a 0 = i32 n) (hc : c < n) (hE : ∀ j, j < n → σ.2 (a + 2 + c) j = oi (E c j)) (hx : ln x = 6) (hxc : x ≠ a + 2 + c) (hX : ∀ j, j < n → σ.2 x j = oi (X j)) (w1 : E c c ≠ 0 → Wi (2 ^ 62) (X c)) (w2 : Wi (2 ^ 62) (E c c)) : ∃ τ, f_X3_takeStep σ a x (i32 c) = some τ ∧ τ.1 = σ.1 ∧ (∀ z, z ≠ x → τ.2 z = σ.2 z) ∧ ∀ j, j < n → τ.2 x j = oi (X j - flz (X c) (E c c) * E c j) := by
  have hlc := hL.2.2.2.2 c (by omega)
  have vc : σ.2 (a + 2 + c) c = oi (E c c) := hE c hc
  unfold f_X3_takeStep
  rw [e_gRL hL (by omega), e_gL hlc (by omega) (by omega), vc]
  by_cases hp : E c c = 0
  · refine ⟨σ, by rw [if_pos ((oi_is0 w2).mpr hp)], rfl, fun _ _ => rfl, fun j hj => ?_⟩
    unfold flz
    rw [if_pos hp, Int.zero_mul, Int.sub_zero]
    exact hX j hj
  · have e1 := c_sub (σ := σ) (a := a) (x := x) (p := a + 2 + c) (t := oi (flo (X c) (E c c))) hn h0 hx hlc hxc
    refine ⟨rwL σ x (fun y => if y < n then σ.2 x y - oi (flo (X c) (E c c)) * σ.2 (a + 2 + c) y else σ.2 x y), ?_, rfl, fun z hz => rwL_x hz, fun j hj => ?_⟩
    · rw [if_neg (fun q => hp ((oi_is0 w2).mp q)), e_gRL hL (by omega), e_gL hx (by omega) (by omega), hX c hc, e_gRL hL (by omega), e_gL hlc (by omega) (by omega), vc, c_floorDiv (w1 hp) w2 hp, e_bs, e1, e_bs]
    · refine rwL_a.trans ?_
      show (if j < n then _ else _) = _
      unfold flz
      rw [if_pos hj, if_neg hp, hX j hj, hE j hj, oi_mul, oi_sub]
def tks (E : Nat → Nat → Int) (r c : Nat) : Nat → Nat → Int := fun q => if q = r then (fun j => E r j - flz (E r c) (E c c) * E c j) else E q
def ngr (E : Nat → Nat → Int) (c : Nat) : Nat → Nat → Int := fun r => if r = c then (fun j => -E c j) else E r
theorem ngr_c {E : Nat → Nat → Int} {c j : Nat} : ngr E c c j = -E c j := by
  unfold ngr
  rw [if_pos rfl]
theorem ngr_r {E : Nat → Nat → Int} {c r : Nat} (h : r ≠ c) : ngr E c r = E r := if_neg h
def abr (E : Nat → Nat → Int) (c : Nat) : Nat → Nat → Int := if 0 ≤ E c c then E else ngr E c
theorem c_takeIn {r c : Nat} {E : Nat → Nat → Int} (hL : LA a) (hn : n ≤ 6) (h0 : σ.1 a 0 = i32 n) (hr : r < c) (hc : c < n) (hE : Mx σ a n E) (w1 : Wi (2 ^ 62) (E r c)) (w2 : Wi (2 ^ 62) (E c c)) : ∃ τ, f_X3_takeStep σ a (a + 2 + r) (i32 c) = some τ ∧ FLa a σ τ ∧ Mx τ a n (tks E r c) := by
  obtain ⟨τ, e, f1, f2, v⟩ := c_take (x := a + 2 + r) (X := E r) hL hn h0 hc (fun j hj => hE c j (by omega) hj) (hL.2.2.2.2 r (by omega)) (by omega) (fun j hj => hE r j (by omega) hj) (fun _ => w1) w2
  refine ⟨τ, e, ⟨f1, fun x hx => f2 x (by omega)⟩, fun q j hq hj => ?_⟩
  unfold tks
  by_cases h1 : q = r
  · rw [if_pos h1, h1]
    exact v j hj
  · rw [if_neg h1, f2 _ (by omega)]
    exact hE q j hq hj
theorem c_tidy {PT : Nat → Nat → (Nat → Nat → Int) → Prop} {E : Nat → Nat → Int} (hL : LA a) (hn : n ≤ 6) (hn1 : 1 ≤ n) (h0 : σ.1 a 0 = i32 n) (hE : Mx σ a n E) (hT : ∀ r c D, r < c → c < n → PT r c D → Wi (2 ^ 62) (D r c) ∧ Wi (2 ^ 62) (D c c) ∧ PT r (c + 1) (tks D r c)) (hTT : ∀ r D, r + 1 < n → PT (r + 1) n D → PT r (r + 1) D) (hP : PT (n - 1) n E) : ∃ τ D, f_X3_tidy σ a = some τ ∧ FLa a σ τ ∧ Mx τ a n D ∧ PT 0 n D := by
  have dn : ∀ k : Nat, 1 ≤ k → (i32 k - 1 : Int32) = i32 (k - 1) := fun k hk => by rw [i32_1, i32_sub hk]
  have inner : ∀ r, r < n → ∀ (τ : Mem) (D : Nat → Nat → Int), FLa a σ τ → Mx τ a n D → PT r (r + 1) D → ∃ υ F, loopO (fun (z8 : (Mem × Int32)) => l_X3_tidy_15 a (i32 r) z8.1 z8.2) (τ, i32 (r + 1)) = some υ ∧ FLa a σ υ ∧ Mx υ a n F ∧ PT r n F := by
    intro r hr τ D fr hD hP
    have hl := loop_inv (body := fun (z8 : (Mem × Int32)) => l_X3_tidy_15 a (i32 r) z8.1 z8.2) (fun k z => ∃ c τ D, r < c ∧ c ≤ n ∧ k = n - c ∧ z = (τ, i32 c) ∧ FLa a σ τ ∧ Mx τ a n D ∧ PT r c D) (fun υ => ∃ F, FLa a σ υ ∧ Mx υ a n F ∧ PT r n F) ?_ (n - (r + 1)) (τ, i32 (r + 1)) ⟨r + 1, τ, D, by omega, by omega, rfl, rfl, fr, hD, hP⟩
    · obtain ⟨υ, e, F, h1, h2, h3⟩ := hl
      exact ⟨υ, F, e, h1, h2, h3⟩
    · rintro k z ⟨c, τ, D, h1, h2, rfl, rfl, fr, hD, hQ⟩
      have g0 : τ.1 a 0 = i32 n := by rw [fr.1]; exact h0
      by_cases hcn : c = n
      · right
        rw [hcn] at hQ
        refine ⟨τ, ?_, D, fr, hD, hQ⟩
        show l_X3_tidy_15 a (i32 r) τ (i32 c) = _
        unfold l_X3_tidy_15
        rw [e_gF, g0, if_pos (i_le (by omega) (by omega))]
      · left
        obtain ⟨w1, w2, hN⟩ := hT r c D h1 (by omega) hQ
        obtain ⟨τ2, e2, f2, m2⟩ := c_takeIn hL hn g0 h1 (by omega) hD w1 w2
        refine ⟨(τ2, i32 (c + 1)), n - (c + 1), by omega, ?_, c + 1, τ2, _, by omega, by omega, rfl, rfl, fr.trans f2, m2, hN⟩
        show l_X3_tidy_15 a (i32 r) τ (i32 c) = _
        unfold l_X3_tidy_15
        rw [e_gF, g0, if_neg (i_nle (by omega) (by omega)), e_gRL hL (by omega), e2, e_bs, i32_1, i32_add]
  unfold f_X3_tidy
  rw [e_gF, h0, e_bd, dn n hn1]
  have hl := loop_inv (body := fun (z4 : (Mem × Int32)) => l_X3_tidy_7 a z4.1 z4.2) (fun k z => ∃ τ D, k ≤ n ∧ z = (τ, i32 k - 1) ∧ FLa a σ τ ∧ Mx τ a n D ∧ (k = n ∧ PT (n - 1) n D ∨ (k < n ∧ PT k n D))) (fun υ => ∃ F, FLa a σ υ ∧ Mx υ a n F ∧ PT 0 n F) ?_ n (σ, i32 (n - 1)) ⟨σ, E, Nat.le_refl _, by rw [dn n hn1], FLa.refl, hE, Or.inl ⟨rfl, hP⟩⟩
  · obtain ⟨υ, e, F, h1, h2, h3⟩ := hl
    exact ⟨υ, F, e, h1, h2, h3⟩
  · rintro k z ⟨τ, D, hk, rfl, fr, hD, hP⟩
    by_cases hk0 : k = 0
    · right
      subst hk0
      refine ⟨τ, ?_, D, fr, hD, ?_⟩
      · show l_X3_tidy_7 a τ (i32 0 - 1) = _
        unfold l_X3_tidy_7
        rw [if_pos (by decide)]
      · rcases hP with ⟨q, _⟩ | ⟨_, q⟩
        · omega
        · exact q
    · left
      have hstep : ∀ (τ2 : Mem), loopO (fun (z8 : (Mem × Int32)) => l_X3_tidy_15 a (i32 (k - 1)) z8.1 z8.2) (τ, i32 k) = some τ2 → l_X3_tidy_7 a τ (i32 k - 1) = some (Sum.inl (τ2, i32 (k - 1) - 1)) := fun τ2 e => by
        unfold l_X3_tidy_7
        rw [dn k (by omega), if_neg (show ¬ i32 (k - 1) < 0 from i_nlt (b := 0) (by omega) (by omega)), e_bd, i32_1, i32_add, show k - 1 + 1 = k by omega, e, e_bs]
        unfold j_X3_tidy_40
        rw [Int32.sub_eq_add_neg (i32 (k - 1))]
        rfl
      by_cases hkn : k = n
      · have hPn : PT (n - 1) n D := by
          rcases hP with ⟨_, q⟩ | ⟨q, _⟩
          · exact q
          · omega
        have e : loopO (fun (z8 : (Mem × Int32)) => l_X3_tidy_15 a (i32 (k - 1)) z8.1 z8.2) (τ, i32 k) = some τ := by
          refine lp_end (body := fun (z8 : (Mem × Int32)) => l_X3_tidy_15 a (i32 (k - 1)) z8.1 z8.2) (s := (τ, i32 k)) ?_
          show l_X3_tidy_15 a (i32 (k - 1)) τ (i32 k) = _
          have g0 : τ.1 a 0 = i32 n := by rw [fr.1]; exact h0
          unfold l_X3_tidy_15
          rw [e_gF, g0, if_pos (i_le (by omega) (by omega))]
        exact ⟨(τ, i32 (k - 1) - 1), k - 1, by omega, hstep τ e, τ, D, by omega, rfl, fr, hD, Or.inr ⟨by omega, by rw [hkn]; exact hPn⟩⟩
      · have hPk : PT k n D := by
          rcases hP with ⟨q, _⟩ | ⟨_, q⟩
          · omega
          · exact q
        have hPs : PT (k - 1) (k - 1 + 1) D := hTT (k - 1) D (by omega) (by rw [show k - 1 + 1 = k by omega]; exact hPk)
        obtain ⟨τ2, F, e, f2, m2, p2⟩ := inner (k - 1) (by omega) τ D fr hD hPs
        rw [show k - 1 + 1 = k by omega] at e
        exact ⟨(τ2, i32 (k - 1) - 1), k - 1, by omega, hstep τ2 e, τ2, F, by omega, rfl, f2, m2, Or.inr ⟨by omega, p2⟩⟩
theorem c_insert {x : Nat} {V : Nat → Int} {E : Nat → Nat → Int} {PM : Nat → (Nat → Nat → Int) → Prop} {PT : Nat → Nat → (Nat → Nat → Int) → Prop} (hL : LA a) (hn : n ≤ 6) (hn1 : 1 ≤ n) (h0 : σ.1 a 0 = i32 n) (hE : ∀ r j, r < 6 → j < n → σ.2 (a + 2 + r) j = oi (E r j)) (hx : ln x = 6) (hV : ∀ j, j < n → σ.2 x j = oi (V j)) (hM : ∀ c D, c < n → PM c D → Wi (2 ^ 62) (D c c) ∧ Wi (2 ^ 62) (D 6 c) ∧ ∀ D', Mee c D D' → D' 6 c = 0 → (D 6 c = 0 → D' = D) → (D 6 c ≠ 0 → D' c c ≠ 0) → PM (c + 1) (abr D' c)) (hT : ∀ r c D, r < c → c < n → PT r c D → Wi (2 ^ 62) (D r c) ∧ Wi (2 ^ 62) (D c c) ∧ PT r (c + 1) (tks D r c)) (hMT : ∀ D, PM n D → PT (n - 1) n D) (hTT : ∀ r D, r + 1 < n → PT (r + 1) n D → PT r (r + 1) D) (hP : PM 0 (adC E 6 V)) : ∃ τ D, f_X3_insert σ a x = some τ ∧ FLa a σ τ ∧ Mx τ a n D ∧ PT 0 n D := by
  have hl8 := hL.2.2.2.2 6 (by omega)
  obtain ⟨σ1, e1, o1, r1⟩ := c_copyRow (σ := σ) (a := x) (b := a + 8) hx hl8
  have f1 : FLa a σ σ1 := ⟨o1.1, fun y hy => o1.2 y (by omega)⟩
  have m1 : Mx σ1 a n (adC E 6 V) := fun r j hr hj => by
    by_cases h6 : r = 6
    · rw [h6, adC_m, show a + 2 + 6 = a + 8 by omega, r1 j (by omega)]
      exact hV j hj
    · rw [adC_n h6, o1.2 _ (by omega)]
      exact hE r j (by omega) hj
  have hl := loop_inv (body := fun (z5 : (Mem × Int32)) => l_X3_insert_10 a z5.1 z5.2) (fun k z => ∃ c τ D, c ≤ n ∧ k = n - c ∧ z = (τ, i32 c) ∧ FLa a σ τ ∧ Mx τ a n D ∧ PM c D) (fun τ => ∃ D, FLa a σ τ ∧ Mx τ a n D ∧ PM n D) ?_ n (σ1, 0) ⟨0, σ1, _, by omega, rfl, rfl, f1, m1, hP⟩
  · obtain ⟨σ2, e2, D, f2, m2, p2⟩ := hl
    have g0 : σ2.1 a 0 = i32 n := by rw [f2.1]; exact h0
    obtain ⟨τ, F, e3, f3, m3, p3⟩ := c_tidy hL hn hn1 g0 m2 hT hTT (hMT D p2)
    refine ⟨τ, F, ?_, f2.trans f3, m3, p3⟩
    unfold f_X3_insert
    rw [hL.2.1, e1, e_bs, e2, e_bs]
    unfold j_X3_insert_52
    rw [e3, e_bs]
  · rintro k z ⟨c, τ, D, hc, rfl, rfl, fr, hD, hP⟩
    have g0 : τ.1 a 0 = i32 n := by rw [fr.1]; exact h0
    by_cases hcn : c = n
    · right
      subst hcn
      refine ⟨τ, ?_, D, fr, hD, hP⟩
      show l_X3_insert_10 a τ (i32 c) = _
      unfold l_X3_insert_10
      rw [e_gF, g0, if_pos (i_le (Nat.le_refl _) (by omega))]
    · left
      obtain ⟨w1, w2, hN⟩ := hM c D (by omega) hP
      obtain ⟨τ2, D2, e2, f2, m2, hm, z6, q1, q2, w3⟩ := c_meet hL hn g0 (by omega) hD w1 w2
      have hP2 := hN D2 hm z6 q1 q2
      have hlc := hL.2.2.2.2 c (by omega)
      have h0w : Wi (2 ^ 62) 0 := ⟨by omega, by omega⟩
      have hcmp : (0 : Int64) ≤ oi (D2 c c) ↔ 0 ≤ D2 c c := oi_lew h0w w3
      have hneg : ∃ τ3, (if 0 ≤ τ2.2 (a + 2 + c) c then (some τ2) else (gR (rf a 1) (i32 c) (fun (p11 : Nat) => (f_X3_negate τ2 a p11).bind (fun (σ12 : Mem) => some σ12))) : Option Mem) = some τ3 ∧ FLa a σ τ3 ∧ Mx τ3 a n (abr D2 c) := by
        rw [m2 c c (by omega) (by omega)]
        unfold abr
        by_cases hp : 0 ≤ D2 c c
        · exact ⟨τ2, by rw [if_pos (hcmp.mpr hp)], fr.trans f2, by rw [if_pos hp]; exact m2⟩
        · have g2 : τ2.1 a 0 = i32 n := by rw [f2.1]; exact g0
          refine ⟨_, by rw [if_neg (fun q => hp (hcmp.mp q)), e_gRL hL (by omega), c_negate hn g2 hlc, e_bs], (fr.trans f2).trans (FLa.rw (by omega)), ?_⟩
          rw [if_neg hp]
          intro r j hr hj
          by_cases hrc : r = c
          · rw [hrc, ngr_c]
            refine rwL_a.trans ?_
            show (if j < n then _ else _) = _
            rw [if_pos hj, m2 c j (by omega) hj, oi_neg]
          · rw [ngr_r hrc, rwL_x (by omega)]
            exact m2 r j hr hj
      obtain ⟨τ3, e3, f3, m3⟩ := hneg
      refine ⟨(τ3, i32 (c + 1)), n - (c + 1), by omega, ?_, c + 1, τ3, _, by omega, rfl, rfl, f3, m3, hP2⟩
      show l_X3_insert_10 a τ (i32 c) = _
      unfold l_X3_insert_10
      rw [e_gF, g0, if_neg (i_nle (by omega) (by omega)), e2, e_bs, e_gRL hL (by omega), e_gL hlc (by omega) (by omega), e3, e_bs]
      unfold j_X3_insert_46
      rw [i32_1, i32_add]
end INS
