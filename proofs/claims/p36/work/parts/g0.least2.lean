/-! the class's least made; register: the call -/
section LS2
variable {σ : Mem} {G : GD}
theorem DD_ab (hG : GOK G) {A : Nat → Int} (h1 : ∀ k, k < gn G → gw G k = 1 → A k = 0) {m j i q : Nat} : DD G m j i q * A j = 0 := by
  by_cases h : i < j ∧ gw G i = 1 ∧ gw G j = 1 ∧ gw G q = 1 ∧ gw G m = 3 ∧ j < gn G
  · rw [h1 j h.2.2.2.2.2 h.2.2.1, Int.mul_zero]
  · rw [DD_0 hG h, Int.zero_mul]
theorem DD_ab2 (hG : GOK G) {A : Nat → Int} (h1 : ∀ k, k < gn G → gw G k = 1 → A k = 0) {m j i q : Nat} : DD G m j i q * A i = 0 := by
  by_cases h : i < j ∧ gw G i = 1 ∧ gw G j = 1 ∧ gw G q = 1 ∧ gw G m = 3 ∧ j < gn G
  · rw [h1 i (by omega) h.2.1, Int.mul_zero]
  · rw [DD_0 hG h, Int.zero_mul]
theorem tI_ab (hG : GOK G) {A B : Nat → Int} (hA : ∀ k, k < gn G → gw G k = 1 → A k = 0) (hB : ∀ k, k < gn G → gw G k = 1 → B k = 0) {j i k : Nat} : tI G j i k * A j * B i = 0 := by
  by_cases h : tI G j i k = 0
  · rw [h, Int.zero_mul, Int.zero_mul]
  · have h2 := tI_ne hG h
    have w1 := hG.2.2.1 i (by omega)
    have w2 := hG.2.2.1 j (by omega)
    have w3 := hG.2.2.1 k h2.2.2.1
    by_cases hi : gw G i = 1
    · rw [hB i (by omega) hi, Int.mul_zero]
    · rw [hA j (by omega) (by omega), Int.mul_zero, Int.zero_mul]
/-- without letters of weight one: powers are sums -/
theorem al_ab (hG : GOK G) {A : Nat → Int} (h1 : ∀ k, k < gn G → gw G k = 1 → A k = 0) (k : Nat) : al G A k = 0 := by
  have e1 : pT G k A A = 0 := sm_zero (fun i _ => sm_zero (fun j _ => tI_ab hG h1 h1))
  have e2 : pU G k A A = 0 := sm_zero (fun i _ => sm_zero (fun j _ => by rw [DD_ab hG h1, Int.zero_mul]))
  have e3 : pV G k A A = 0 := sm_zero (fun i _ => sm_zero (fun j _ => by rw [DD_ab2 hG h1, Int.zero_mul]))
  have e4 : pW G k A A = 0 := sm_zero (fun i _ => sm_zero (fun j _ => sm_zero (fun q _ => by
    split
    · rw [DD_ab hG h1, Int.zero_mul, Int.zero_mul]
    · rfl)))
  have e5 : pX G k A A = 0 := sm_zero (fun i _ => sm_zero (fun p _ => by
    split
    · exact sm_zero (fun j _ => by rw [DD_ab hG h1, Int.zero_mul, Int.zero_mul])
    · rfl))
  unfold al
  rw [e1, e2, e3, e4, e5]
  rfl
theorem be_ab (hG : GOK G) {A : Nat → Int} (h1 : ∀ k, k < gn G → gw G k = 1 → A k = 0) (k : Nat) : be G A k = 0 := by
  have e1 : pT G k (al G A) A = 0 := sm_zero (fun i _ => sm_zero (fun j _ => by rw [al_ab hG h1, Int.mul_zero, Int.zero_mul]))
  have e2 : pV2 G k A = 0 := sm_zero (fun i _ => sm_zero (fun j _ => by rw [DD_ab2 hG h1, Int.zero_mul]))
  have e4 : pW G k A A = 0 := sm_zero (fun i _ => sm_zero (fun j _ => sm_zero (fun q _ => by
    split
    · rw [DD_ab hG h1, Int.zero_mul, Int.zero_mul]
    · rfl)))
  unfold be
  rw [e1, e2, e4]
  rfl
theorem QZ_ab (hG : GOK G) {A : Nat → Int} (h1 : ∀ k, k < gn G → gw G k = 1 → A k = 0) (zA : ∀ k, gn G ≤ k → A k = 0) (z : Int) (k : Nat) : QZ G A z k = z * A k := by
  unfold QZ Q
  by_cases hk : k < gn G
  · rw [if_pos hk, al_ab hG h1, be_ab hG h1, Int.zero_mul, Int.zero_mul, Int.add_zero, Int.add_zero, Int.mul_comm]
  · rw [if_neg hk, zA k (by omega), Int.mul_zero]
theorem QZ_one (hG : GOK G) {A : Nat → Int} {z : Int} {k : Nat} (hk : k < gn G) (h1 : gw G k = 1) : QZ G A z k = z * A k := by
  unfold QZ Q
  rw [if_pos hk, al_one hG (by omega), be_two hG (by omega), Int.zero_mul, Int.zero_mul, Int.add_zero, Int.add_zero, Int.mul_comm]
theorem rdc_wi {E : Nat → Nat → Int} {X : Nat → Int} {l : List Nat} (hE : Ech 6 E) (hb : ∀ r j, r < 6 → j < 6 → Wi (bg l r j : Int) (E r j)) (hX : ∀ j, j < 6 → Wi 98901 (X j)) : ∀ c, c ≤ 6 → ∀ j, j < 6 → Wi (rbF l c j : Int) (rdc E X c j)
  | 0, _, j, hj => hX j hj
  | c + 1, hc, j, hj => by
    have h1 := rdc_wi hE hb hX c (by omega) j hj
    have h2 := rdc_wi hE hb hX c (by omega) c (by omega)
    have h3 := hb c j (by omega) hj
    have hp := hE.2.1 c (by omega)
    have wf : Wi (rbF l c c : Int) (flz (rdc E X c c) (E c c)) := by
      unfold flz
      by_cases h0 : E c c = 0
      · rw [if_pos h0]; exact ⟨by omega, by omega⟩
      · rw [if_neg h0]
        have := flo_le (x := rdc E X c c) (y := E c c) (by omega)
        have := h2.1
        have := h2.2
        exact ⟨by omega, by omega⟩
    show Wi ((rbF l c j + rbF l c c * bg l c j : Nat) : Int) (rdc E X c j - flz (rdc E X c c) (E c c) * E c j)
    rw [Int.natCast_add, Int.natCast_mul]
    exact h1.sub (wf.mul h3)
theorem finL_at {l : List Nat} (h : finL l = true) {c : Nat} (hc : c < 6) : rbF l c c ≤ 2 ^ 62 ∧ bg l c c ≤ 2 ^ 62 := by
  have := List.all_eq_true.mp h c (List.mem_range.mpr hc)
  rw [Bool.and_eq_true, decide_eq_true_eq, decide_eq_true_eq] at this
  exact this
/-- one number of times asked -/
theorem c_madeBy {S : AS} {c p t : Nat} {E : Nat → Nat → Int} {l : List Nat} (h : ICls c S σ) (ok : OKS S) (hcons : Cons (aG S)) (hp : p < 10) (ht : 1 ≤ t ∧ t ≤ 99) (hL : LTt σ E l) (hfin : finL l = true) (hsp : ∀ v, Spn (fun j => j < 6) E 6 v ↔ InT (aG S) v) : ∃ b τ, (f_X0_raise σ 176 (6 + p) (Int32.toInt64 (i32 t))).bind (fun (σ5 : Mem) => f_X3_reduce σ5 135 176) = some (b, τ) ∧ SC σ τ ∧ LTt τ E l ∧ (b = true ↔ InT (aG S) (fun k => (t : Int) * aR S p k)) := by
  have hG : GOK (aG S) := ok.1.1
  have hn := hG.2.1
  obtain ⟨σ1, e1, o1, r1⟩ := c_raise hG (c_poly h ok hcons) (out := 176) (a := 6 + p) (A := aR S p) (m := Int32.toInt64 (i32 t)) (z := (t : Int)) ln_176 (ln_reg hp) (c_reg h hp) (by omega) (n64 (by omega)) (by omega) (M := 999) (by omega) (by omega) (reg_sb ok p) (reg_z6 ok p)
  have s1 := o1.sc (fun x hx => by omega)
  obtain ⟨h0, m, ech, hb⟩ := hL
  have m1 : ∀ r j, r < 6 → j < 6 → σ1.2 (135 + 2 + r) j = oi (E r j) := fun r j hr hj => by rw [o1.2 _ (by omega)]; exact m r j hr hj
  have g0 : σ1.1 135 0 = i32 6 := by rw [o1.1]; exact h0
  have hpiv : ∀ c, c < 6 → Wi (2 ^ 62) (E c c) := fun c hc => wi62 (hb c c hc hc) (finL_at hfin hc).2
  have keep : ∀ τ : Mem, τ.1 = σ1.1 → (∀ z, z ≠ 176 → τ.2 z = σ1.2 z) → SC σ τ ∧ LTt τ E l := fun τ q1 q2 => ⟨s1.trans ⟨fun x _ => by rw [q1], fun c _ => by rw [q1], fun c _ => by rw [q1], fun x hx => q2 x (by omega)⟩, by rw [q1]; exact g0, fun r j hr hj => by rw [q2 _ (by omega)]; exact m1 r j hr hj, ech, hb⟩
  by_cases hab : ∀ k, k < gn (aG S) → gw (aG S) k = 1 → aR S p k = 0
  · have hX : ∀ k, QZ (aG S) (aR S p) t k = (t : Int) * aR S p k := QZ_ab hG hab (fun k hk => ok.1.2.2 p k hk) t
    have hXb : ∀ j, j < 6 → Wi 98901 (QZ (aG S) (aR S p) t j) := fun j _ => by
      rw [hX]
      exact (Wi.mul (A := 99) (B := 999) ⟨by omega, by omega⟩ (ok.1.2.1 p j)).mono (by omega)
    have hrw := rdc_wi ech hb hXb
    obtain ⟨b, τ, e2, k1, k2, k3, k4⟩ := c_reduce (σ := σ1) (a := 135) (n := 6) (x := 176) (X := QZ (aG S) (aR S p) t) (E := E) LA_135 (Nat.le_refl _) g0 m1 ln_176 (by omega) (fun j hj => r1 j hj) (fun c hc => by
      have w1 := wi62 (hrw c (by omega) c hc) (finL_at hfin hc).1
      refine ⟨fun _ => w1, hpiv c hc, ?_⟩
      show Wi _ (rdc E _ c c - flz (rdc E _ c c) (E c c) * E c c)
      unfold flz
      by_cases hz : E c c = 0
      · rw [if_pos hz, Int.zero_mul, Int.sub_zero]; exact w1
      · rw [if_neg hz]
        have hp0 := (ech.2.1 c hc).1
        have := (flo_rest (x := rdc E (QZ (aG S) (aR S p) t) c c) (y := E c c) hz).1 (by omega)
        have := (hpiv c hc).2
        exact ⟨by omega, by omega⟩)
    obtain ⟨q1, q2⟩ := keep τ k1 k2
    refine ⟨b, τ, by rw [e1, e_bs, e2], q1, q2, ?_⟩
    rw [k4, rdc_member (Nat.le_refl _) ech, hsp]
    exact ⟨fun z => z.congr (fun k _ => (hX k).symm), fun z => z.congr (fun k _ => hX k)⟩
  · obtain ⟨k, hk⟩ := Classical.not_forall.mp hab
    have hk1 : k < gn (aG S) := Classical.byContradiction (fun q => hk (fun z => absurd z q))
    have hk2 : gw (aG S) k = 1 := Classical.byContradiction (fun q => hk (fun _ z => absurd z q))
    have hk3 : aR S p k ≠ 0 := fun q => hk (fun _ _ => q)
    have hz : ∀ r, r < 6 → E r k = 0 := fun r hr => ((hsp _).mp (Spn.col hr)).one hG hk1 hk2
    have hne : (t : Int) * aR S p k ≠ 0 := fun q => by
      rcases Int.mul_eq_zero.mp q with w | w
      · omega
      · exact hk3 w
    have hwi : Wi (2 ^ 62) ((t : Int) * aR S p k) := (Wi.mul (A := 99) (B := 999) ⟨by omega, by omega⟩ (ok.1.2.1 p k)).mono (by omega)
    obtain ⟨τ, e2, k1, k2⟩ := c_reduceNo (σ := σ1) (a := 135) (n := 6) (x := 176) (c0 := k) (E := E) LA_135 (Nat.le_refl _) g0 m1 ln_176 (by omega) (by omega) hz (by rw [r1 k (by omega), QZ_one hG hk1 hk2]; exact fun q => hne ((oi_is0 hwi).mp q)) hpiv
    obtain ⟨q1, q2⟩ := keep τ k1 k2
    refine ⟨false, τ, by rw [e1, e_bs, e2], q1, q2, fun z => absurd z (by decide), fun z => absurd (z.one hG hk1 hk2) hne⟩
theorem c_leastMade {S : AS} {c p most : Nat} (h : ICls c S σ) (ok : OKS S) (hcons : Cons (aG S)) (hp : p < 10) (hmost : most ≤ 99) : ∃ r τ, f_X10_leastMade σ (6 + p) (i32 most) = some (r, τ) ∧ SC σ τ ∧ LsM (aG S) (aR S p) most r := by
  have hG : GOK (aG S) := ok.1.1
  have hn := hG.2.1
  obtain ⟨σ2, E, l, e1, s1, hL, hst, hsp⟩ := c_tailsIn h ok
  obtain ⟨σ1, e0, e2⟩ := Option.bind_eq_some_iff.mp e1
  obtain ⟨l', hl', hfin'⟩ := stL_fin (n := gn (aG S)) hn
  have hll : l' = l := Option.some.inj (hl'.symm.trans hst)
  have hfin : finL l = true := by rw [← hll]; exact hfin'
  unfold f_X10_leastMade
  rw [e0, e_bs, e2, e_bs]
  unfold j_X10_leastMade_74
  have hl := loop_inv (body := fun (z4 : (Mem × Int32)) => l_X10_leastMade_76 (6 + p) (i32 most) z4.1 z4.2) (fun n z => ∃ t τ, 1 ≤ t ∧ t ≤ most + 1 ∧ n = most + 1 - t ∧ z = (τ, i32 t) ∧ SC σ τ ∧ LTt τ E l ∧ ∀ q : Nat, 1 ≤ q → q < t → ¬ InT (aG S) (fun k => (q : Int) * aR S p k)) (fun x => ∃ r τ, x = (r, τ) ∧ SC σ τ ∧ LsM (aG S) (aR S p) most r) ?_ most (σ2, 1) ⟨1, σ2, by omega, by omega, rfl, rfl, s1, hL, fun q q1 q2 => by omega⟩
  · obtain ⟨x, e, r, τ, rfl, h1, h2⟩ := hl
    exact ⟨r, τ, e, h1, h2⟩
  · rintro n z ⟨t, τ, t1, t2, rfl, rfl, sc, hL, hno⟩
    by_cases htm : t = most + 1
    · right
      refine ⟨_, ?_, 0, τ, rfl, sc, Or.inr ⟨fun q q1 q2 => hno q q1 (by omega), rfl⟩⟩
      show l_X10_leastMade_76 (6 + p) (i32 most) τ (i32 t) = _
      unfold l_X10_leastMade_76
      rw [if_pos (i_lt (by omega) (by omega))]
    · obtain ⟨b, τ2, e3, s2, hL2, hb⟩ := c_madeBy (t := t) (h.sc sc) ok hcons hp (by omega) hL hfin hsp
      obtain ⟨σ5, e4, e5⟩ := Option.bind_eq_some_iff.mp e3
      have hbody : l_X10_leastMade_76 (6 + p) (i32 most) τ (i32 t) = if b = true then some (Sum.inr (i32 t, τ2)) else some (Sum.inl (τ2, i32 (t + 1))) := by
        unfold l_X10_leastMade_76
        rw [if_neg (i_nlt (by omega) (by omega)), e4, e_bs, e5, e_bq, i32_1, i32_add]
      by_cases hbt : b = true
      · right
        refine ⟨_, ?_, i32 t, τ2, rfl, sc.trans s2, Or.inl ⟨t, t1, by omega, hb.mp hbt, hno, rfl⟩⟩
        show l_X10_leastMade_76 (6 + p) (i32 most) τ (i32 t) = _
        rw [hbody, if_pos hbt]
      · left
        refine ⟨(τ2, i32 (t + 1)), most + 1 - (t + 1), by omega, ?_, t + 1, τ2, by omega, by omega, rfl, rfl, sc.trans s2, hL2, fun q q1 q2 => ?_⟩
        · show l_X10_leastMade_76 (6 + p) (i32 most) τ (i32 t) = _
          rw [hbody, if_neg hbt]
        · by_cases hqt : q = t
          · rw [hqt]; exact fun z => hbt (hb.mpr z)
          · exact hno q q1 (by omega)
end LS2
