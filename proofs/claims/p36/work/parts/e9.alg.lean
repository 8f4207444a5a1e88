/-! what clearing keeps; whether what is due is made of columns -/
section ALG
variable {C D : Nat → Nat → Int} {m f k : Nat}
theorem SpE_swp {T : Nat → Prop} {E : Nat → Nat → Int} {b : Nat} (hb : b < m) (hf : f < m) : SpE T E (swpC E b f) m := by
  have e1 : swpC E b f b = E f := by unfold swpC; rw [if_pos rfl]
  have e2 : swpC E b f f = E b := swp_f
  refine SpE.of (fun c hc => ?_) (fun c hc => ?_)
  · by_cases h1 : c = b
    · rw [h1, ← e2]; exact Spn.col hf
    · by_cases h2 : c = f
      · rw [h2, ← e1]; exact Spn.col hb
      · have e3 : swpC E b f c = E c := by unfold swpC; rw [if_neg h1, if_neg h2]
        rw [← e3]; exact Spn.col hc
  · by_cases h1 : c = b
    · rw [h1, e1]; exact Spn.col hf
    · by_cases h2 : c = f
      · rw [h2, e2]; exact Spn.col hb
      · have e3 : swpC E b f c = E c := by unfold swpC; rw [if_neg h1, if_neg h2]
        rw [e3]; exact Spn.col hc
theorem SpE_rnd {T : Nat → Prop} {E : Nat → Nat → Int} (hf : f < m) : SpE T E (rndC E f k m) m := by
  have ef : rndC E f k m f = E f := funext (fun j => rnd_at (by omega))
  have hof : Spn T (rndC E f k m) m (E f) := by rw [← ef]; exact Spn.col hf
  refine SpE.of (fun c hc => ?_) (fun c hc => ?_)
  · by_cases h1 : f < c
    · refine ((Spn.col hc).add (hof.mul ((E c k).tdiv (E f k)))).congr (fun j _ => ?_)
      show E c j = rndC E f k m c j + _
      rw [rnd_in ⟨h1, hc⟩]
      omega
    · have e3 : rndC E f k m c = E c := funext (fun j => rnd_at (by omega))
      rw [← e3]; exact Spn.col hc
  · by_cases h1 : f < c
    · exact ((Spn.col hc).sub ((Spn.col hf).mul ((E c k).tdiv (E f k)))).congr (fun j _ => rnd_in ⟨h1, hc⟩)
    · have e3 : rndC E f k m c = E c := funext (fun j => rnd_at (by omega))
      rw [e3]; exact Spn.col hc
theorem Cln.spe {T : Nat → Prop} (h : Cln m f k C D) (hf : f < m ∨ f = m) : SpE T C D m := by
  rcases hf with hf | hf
  · exact h (fun E => SpE T C E m) (fun E b _ b2 i => i.trans (SpE_swp b2 hf)) (fun E _ _ i => i.trans (SpE_rnd hf)) SpE.refl
  · refine h (fun E => SpE T C E m) (fun E b b1 b2 i => absurd b2 (by omega)) (fun E _ _ i => ?_) SpE.refl
    have e : rndC E f k m = E := funext (fun c => funext (fun j => rnd_at (by omega)))
    rw [e]; exact i
theorem Cln.low (h : Cln m f k C D) : ∀ c, c < f → D c = C c := by
  refine h (fun E => ∀ c, c < f → E c = C c) (fun E b b1 _ i c hc => ?_) (fun E _ _ i c hc => ?_) (fun c _ => rfl)
  · have e : swpC E b f c = E c := by unfold swpC; rw [if_neg (by omega), if_neg (by omega)]
    rw [e]; exact i c hc
  · have e : rndC E f k m c = E c := funext (fun j => rnd_at (by omega))
    rw [e]; exact i c hc
theorem Cln.zero {j : Nat} (h : Cln m f k C D) (hz : ∀ c, f ≤ c → c < m → C c j = 0) : ∀ c, f ≤ c → c < m → D c j = 0 := by
  refine h (fun E => ∀ c, f ≤ c → c < m → E c j = 0) (fun E b b1 b2 i c c1 c2 => ?_) (fun E _ _ i c c1 c2 => ?_) hz
  · obtain ⟨e, q1, q2, q3⟩ := swp_perm (C := E) b1 b2 c1 c2
    rw [q3]; exact i e q1 q2
  · by_cases h1 : f < c
    · rw [rnd_in ⟨h1, c2⟩, i c c1 c2, i f (Nat.le_refl _) (by omega), Int.mul_zero]; rfl
    · rw [rnd_at (by omega)]; exact i c c1 c2
/-- numbers stay within bounds, if their crosses with the one that is cleared are -/
theorem Cln.wi {j : Nat} {B : Int} (h : Cln m f k C D) (h1 : ∀ c, f ≤ c → c < m → Wi B (C c j)) (h2 : ∀ c e, f ≤ c → c < m → f ≤ e → e < m → Wi B (C c k * C e j - C e k * C c j)) : (∀ c, f ≤ c → c < m → Wi B (D c j)) ∧ ∀ c e, f ≤ c → c < m → f ≤ e → e < m → Wi B (D c k * D e j - D e k * D c j) := by
  refine h (fun E => (∀ c, f ≤ c → c < m → Wi B (E c j)) ∧ ∀ c e, f ≤ c → c < m → f ≤ e → e < m → Wi B (E c k * E e j - E e k * E c j)) (fun E b b1 b2 i => ⟨fun c c1 c2 => ?_, fun c e c1 c2 e1 e2 => ?_⟩) (fun E hp _ i => ⟨fun c c1 c2 => ?_, fun c e c1 c2 e1 e2 => ?_⟩) ⟨h1, h2⟩
  · obtain ⟨e, q1, q2, q3⟩ := swp_perm (C := E) b1 b2 c1 c2
    rw [q3]; exact i.1 e q1 q2
  · obtain ⟨g, q1, q2, q3⟩ := swp_perm (C := E) b1 b2 c1 c2
    obtain ⟨g', r1, r2, r3⟩ := swp_perm (C := E) b1 b2 e1 e2
    rw [q3, r3]; exact i.2 g g' q1 q2 r1 r2
  · by_cases hc : f < c
    · rw [rnd_in ⟨hc, c2⟩]
      exact value_round hp (i.2 f c (Nat.le_refl _) (by omega) c1 c2) (i.1 f (Nat.le_refl _) (by omega))
    · rw [rnd_at (by omega)]; exact i.1 c c1 c2
  · by_cases hc : f < c
    · by_cases he : f < e
      · rw [rnd_in ⟨hc, c2⟩, rnd_in ⟨hc, c2⟩, rnd_in ⟨he, e2⟩, rnd_in ⟨he, e2⟩]
        exact cross_round hp (i.2 f c (Nat.le_refl _) (by omega) c1 c2) (i.2 f e (Nat.le_refl _) (by omega) e1 e2) (i.2 c e c1 c2 e1 e2)
      · have hef : e = f := by omega
        subst hef
        rw [rnd_in ⟨hc, c2⟩, rnd_in ⟨hc, c2⟩, rnd_at (by omega), rnd_at (by omega)]
        have q := i.2 c e c1 c2 e1 e2
        have e0 : (E c k - (E c k).tdiv (E e k) * E e k) * E e j - E e k * (E c j - (E c k).tdiv (E e k) * E e j) = E c k * E e j - E e k * E c j := by grind
        rw [e0]; exact q
    · have hcf : c = f := by omega
      subst hcf
      by_cases he : c < e
      · rw [rnd_in ⟨he, e2⟩, rnd_in ⟨he, e2⟩, rnd_at (by omega), rnd_at (by omega), cross_pivot]
        exact i.2 c e c1 c2 e1 e2
      · rw [rnd_at (by omega), rnd_at (by omega), rnd_at (by omega), rnd_at (by omega)]
        exact i.2 c e c1 c2 e1 e2
theorem cb_cut {z : Nat → Int} {j : Nat} (hf : f ≤ m) (h : ∀ c, f ≤ c → c < m → C c j = 0) : cb z C j m = cb z C j f := by
  induction m with
  | zero => have : f = 0 := by omega
            rw [this]
  | succ m ih =>
    by_cases hm : f = m + 1
    · rw [hm]
    · show cb z C j m + z m * C m j = _
      rw [ih (by omega) (fun c c1 c2 => h c c1 (by omega)), h m (by omega) (by omega), Int.mul_zero, Int.add_zero]
/-- a stage of making -/
def Alg (C0 : Nat → Nat → Int) (d0 : Nat → Int) (m k f : Nat) (C : Nat → Nat → Int) (d : Nat → Int) : Prop := f ≤ m ∧ SpE (fun j => j < 18) C0 C m ∧ (∀ c, f ≤ c → c < m → ∀ j, j < k → C c j = 0) ∧ (∀ z : Nat → Int, (∀ j, j < k → cb z C j f = 0) → ∀ c, c < f → z c = 0) ∧ (∀ j, j < k → d j = 0) ∧ Spn (fun j => j < 18) C0 m (fun j => d0 j - d j)
theorem Alg.start {d0 : Nat → Int} : Alg C d0 m 0 0 C d0 := ⟨Nat.zero_le _, SpE.refl, fun _ _ _ _ hj => absurd hj (Nat.not_lt_zero _), fun _ _ c hc => absurd hc (Nat.not_lt_zero _), fun _ hj => absurd hj (Nat.not_lt_zero _), Spn.zero.congr (fun j _ => Int.sub_self _)⟩
theorem cb_low {z : Nat → Int} {j : Nat} : ∀ n, (∀ c, c < n → D c = C c) → cb z D j n = cb z C j n := fun n h => cb_congr n (fun c hc => by rw [h c hc])
theorem Alg.step {C0 : Nat → Nat → Int} {d0 d d' : Nat → Int} {pv : Bool} (h : Alg C0 d0 m k f C d) (hk : k < 6) (hc : Cln m f k C D) (ho : Clo m f k C D d true pv d') : Alg C0 d0 m (k + 1) (f + if pv = true then 1 else 0) D d' := by
  obtain ⟨h1, h2, h3, h4, h5, h6⟩ := h
  have hS := hc.spe (T := fun j => j < 18) (show f < m ∨ f = m by omega)
  have hL := hc.low
  have hZ : ∀ c, f ≤ c → c < m → ∀ j, j < k → D c j = 0 := fun c c1 c2 j hj => hc.zero (fun e e1 e2 => h3 e e1 e2 j hj) c c1 c2
  have hTZ : ∀ z : Nat → Int, (∀ j, j < k → cb z D j f = 0) → ∀ c, c < f → z c = 0 := fun z hz => h4 z (fun j hj => by rw [← cb_low f hL]; exact hz j hj)
  rcases ho with ⟨rfl, a1, a2, rfl⟩ | ⟨rfl, a1, a2, a3, a4, a5⟩
  · rw [if_neg (by decide), Nat.add_zero]
    refine ⟨h1, h2.trans hS, fun c c1 c2 j hj => ?_, fun z hz => hTZ z (fun j hj => hz j (by omega)), fun j hj => ?_, h6⟩
    · by_cases hjk : j = k
      · rw [hjk]; exact a1 c c1 c2
      · exact hZ c c1 c2 j (by omega)
    · by_cases hjk : j = k
      · rw [hjk]; exact a2.mp rfl
      · exact h5 j (by omega)
  · rw [if_pos rfl]
    have e5 := a5 rfl
    subst e5
    have e4 := a4.mp rfl
    refine ⟨by omega, h2.trans hS, fun c c1 c2 j hj => ?_, fun z hz c hcf => ?_, fun j hj => ?_, ?_⟩
    · by_cases hjk : j = k
      · rw [hjk]; exact a3 c (by omega) c2
      · exact hZ c (by omega) c2 j (by omega)
    · have z0 : ∀ c, c < f → z c = 0 := hTZ z (fun j hj => by
        have := hz j (by omega)
        have e : cb z D j (f + 1) = cb z D j f + z f * D f j := rfl
        rw [e, hZ f (Nat.le_refl _) a1 j hj, Int.mul_zero, Int.add_zero] at this
        exact this)
      by_cases hcf2 : c = f
      · have := hz k (by omega)
        have e : cb z D k (f + 1) = cb z D k f + z f * D f k := rfl
        rw [e, cb_zero f (fun e he => by rw [z0 e he, Int.zero_mul]), Int.zero_add] at this
        rw [hcf2]
        rcases Int.mul_eq_zero.mp this with q | q
        · exact q
        · exact absurd q a2
      · exact z0 c (by omega)
    · show d j - (d k).tdiv (D f k) * D f j = 0
      by_cases hjk : j = k
      · rw [hjk, e4]; omega
      · rw [h5 j (by omega), hZ f (Nat.le_refl _) a1 j (by omega), Int.mul_zero]; rfl
    · refine (h6.add (((h2.trans hS) _).mpr ((Spn.col a1).mul ((d k).tdiv (D f k))))).congr (fun j _ => ?_)
      show d0 j - (d j - _) = d0 j - d j + _
      omega
theorem Alg.fail {C0 : Nat → Nat → Int} {d0 d d' : Nat → Int} {pv : Bool} (h : Alg C0 d0 m k f C d) (hk : k < 6) (hc : Cln m f k C D) (ho : Clo m f k C D d false pv d') : ¬ Spn (fun j => j < 6) C0 m d0 := by
  rintro ⟨z, hz⟩
  obtain ⟨h1, h2, h3, h4, h5, h6⟩ := h
  have hS := hc.spe (T := fun j => j < 18) (show f < m ∨ f = m by omega)
  have hL := hc.low
  have hZ : ∀ c, f ≤ c → c < m → ∀ j, j < k → D c j = 0 := fun c c1 c2 j hj => hc.zero (fun e e1 e2 => h3 e e1 e2 j hj) c c1 c2
  have v1 : Spn (fun j => j < 18) C0 m (fun j => cb z C0 j m) := ⟨z, fun _ _ => rfl⟩
  obtain ⟨y, hy⟩ := ((h2.trans hS) _).mp (v1.sub h6)
  have hdy : ∀ j, j < 6 → d j = cb y D j m := fun j hj => by
    have := hy j (by omega)
    have e2 := hz j hj
    rw [← this]
    show d j = cb z C0 j m - (d0 j - d j)
    omega
  have y0 : ∀ c, c < f → y c = 0 := h4 y (fun j hj => by
    have := hdy j (by omega)
    rw [h5 j hj, cb_cut h1 (fun c c1 c2 => hZ c c1 c2 j hj), cb_low f hL] at this
    exact this.symm)
  have hk1 := hdy k hk
  rcases ho with ⟨rfl, a1, a2, _⟩ | ⟨rfl, a1, a2, a3, a4, _⟩
  · rw [cb_cut h1 a1, cb_zero f (fun c hcf => by rw [y0 c hcf, Int.zero_mul])] at hk1
    exact absurd (a2.mpr hk1) (by decide)
  · rw [cb_cut (f := f + 1) (by omega) (fun c c1 c2 => a3 c (by omega) c2)] at hk1
    have e : cb y D k (f + 1) = cb y D k f + y f * D f k := rfl
    rw [e, cb_zero f (fun c hcf => by rw [y0 c hcf, Int.zero_mul]), Int.zero_add] at hk1
    refine absurd (a4.mpr ?_) (by decide)
    rw [hk1, Int.mul_tdiv_cancel _ a2]
end ALG
