/-! shapes of groups: so many letters of weight 1, of weight 2, in all; the bounds fit for each -/
section SHP
def wS (m t : Nat) (i : Nat) : Nat := bif Nat.blt i m then 1 else bif Nat.blt i (m + t) then 2 else 3
def mxN (f : Nat → Nat) : Nat → Nat
  | 0 => 0
  | n + 1 => max (mxN f n) (f n)
theorem mxN_le {f : Nat → Nat} : ∀ n k, k < n → f k ≤ mxN f n
  | 0, k, h => absurd h (Nat.not_lt_zero k)
  | n + 1, k, h => by
    show f k ≤ max (mxN f n) (f n)
    by_cases hk : k = n
    · rw [hk]; exact Nat.le_max_right _ _
    · exact Nat.le_trans (mxN_le n k (by omega)) (Nat.le_max_left _ _)
def allN (f : Nat → Bool) : Nat → Bool
  | 0 => true
  | n + 1 => allN f n && f n
theorem allN_at {f : Nat → Bool} : ∀ n, allN f n = true → ∀ k, k < n → f k = true
  | 0, _, k, h => absurd h (Nat.not_lt_zero k)
  | n + 1, h, k, hk => by
    have h2 : (allN f n && f n) = true := h
    rw [Bool.and_eq_true] at h2
    by_cases e : k = n
    · rw [e]; exact h2.2
    · exact allN_at n h2.1 k (by omega)
def frcN (x : Nat) (f : Nat → Bool) : Bool := Nat.rec (motive := fun _ => Bool) (f 0) (fun k _ => f (Nat.succ k)) x
theorem frcN_eq {x : Nat} {f : Nat → Bool} : frcN x f = f x := by cases x <;> rfl
def u1 (i : Nat) : Nat → Nat := fun k => bif Nat.beq k i then 1 else 0
def c30 : Nat → Nat := fun _ => 30
def XN (m t n : Nat) : Nat := max 1 (mxN (fun i => mxN (fun k => bif Nat.beq (wS m t i) 1 && Nat.beq (wS m t k) 2 then cbN (wS m t) n k c30 (u1 i) else 0) n) n)
def hq (m t h : Nat) : Nat → Nat := fun i => bif Nat.beq (wS m t i) 1 then h else 0
def QN (m t n h : Nat) : Nat := max 1 (max (mxN (fun k => bif Nat.beq (wS m t k) 3 then cbN (wS m t) n k c30 (hq m t h) else 0) n) (mxN (fun i => mxN (fun k => bif Nat.beq (wS m t i) 2 && Nat.beq (wS m t k) 3 then cbN (wS m t) n k c30 (u1 i) else 0) n) n))
def gGN (X : Nat) : Nat → Nat
  | 0 => X
  | p + 1 => 2 * gGN X p * gGN X p
def gHN (X : Nat) : Nat → Nat
  | 0 => 1
  | 1 => X
  | p + 2 => 2 * gGN X (p + 1) * gHN X (p + 1)
theorem gGN_c {X : Nat} : ∀ p, (gGN X p : Int) = gG (X : Int) p
  | 0 => rfl
  | p + 1 => by
    show ((2 * gGN X p * gGN X p : Nat) : Int) = 2 * gG X p * gG X p
    rw [Int.natCast_mul, Int.natCast_mul, gGN_c p]
    rfl
theorem gHN_c {X : Nat} : ∀ p, (gHN X p : Int) = gH (X : Int) p
  | 0 => rfl
  | 1 => rfl
  | p + 2 => by
    show ((2 * gGN X (p + 1) * gHN X (p + 1) : Nat) : Int) = 2 * gG X (p + 1) * gH X (p + 1)
    rw [Int.natCast_mul, Int.natCast_mul, gGN_c (p + 1), gHN_c (p + 1)]
    rfl
def hF (m X f : Nat) : Nat := bif Nat.ble m f then 0 else gHN X f
def rqS (m t n : Nat) : Bool := frcN (XN m t n) (fun X => allN (fun p => Nat.ble (gGN X p) (2 ^ 62)) (min m t) && allN (fun f => Nat.ble (hF m X f) (2 ^ 28) && frcN (QN m t n (hF m X f)) (fun Q => allN (fun p => Nat.ble (gGN Q p) (2 ^ 62)) (min (m - f + t) (n - m - t)))) (min m t + 1))
theorem rqS_all : allN (fun n => allN (fun m => allN (fun t => Nat.blt n (m + t) || rqS m t n) 7) 7) 7 = true := by decide +kernel
theorem rqS_at {m t n : Nat} (hn : n ≤ 6) (h : m + t ≤ n) : rqS m t n = true := by
  have h1 := allN_at 7 rqS_all n (by omega)
  have h2 := allN_at 7 h1 m (by omega)
  have h3 := allN_at 7 h2 t (by omega)
  rw [Bool.or_eq_true, Nat.blt_eq] at h3
  rcases h3 with q | q
  · omega
  · exact q
theorem fit1 {m t n p : Nat} (hn : n ≤ 6) (h : m + t ≤ n) (h1 : p < m) (h2 : p < t) : gG (XN m t n : Nat) p ≤ 2 ^ 62 := by
  have e := rqS_at hn h
  unfold rqS at e
  rw [frcN_eq, Bool.and_eq_true] at e
  have e1 := allN_at _ e.1 p (by omega)
  rw [Nat.ble_eq] at e1
  rw [← gGN_c]
  omega
theorem fit2 {m t n f : Nat} (hn : n ≤ 6) (h : m + t ≤ n) (h1 : f ≤ m) (h2 : f ≤ t) : hF m (XN m t n) f ≤ 2 ^ 28 ∧ ∀ p, p < m - f + t → p < n - m - t → gG (QN m t n (hF m (XN m t n) f) : Nat) p ≤ 2 ^ 62 := by
  have e := rqS_at hn h
  unfold rqS at e
  rw [frcN_eq, Bool.and_eq_true] at e
  have e1 := allN_at _ e.2 f (by omega)
  rw [Bool.and_eq_true, frcN_eq, Nat.ble_eq] at e1
  refine ⟨e1.1, fun p p1 p2 => ?_⟩
  have e2 := allN_at _ e1.2 p (by omega)
  rw [Nat.ble_eq] at e2
  rw [← gGN_c]
  omega
theorem shape_of {G : GD} (hG : GOK G) : ∃ m t, m + t ≤ gn G ∧ ∀ i, i < gn G → gw G i = wS m t i := by
  have cut : ∀ c d b, d = gn G - b → b ≤ gn G → ∃ e, b ≤ e ∧ e ≤ gn G ∧ (∀ q, b ≤ q → q < e → gw G q < c) ∧ ∀ q, e ≤ q → q < gn G → c ≤ gw G q := by
    intro c d
    induction d with
    | zero => exact fun b h1 h2 => ⟨b, Nat.le_refl b, h2, fun q h4 h5 => by omega, fun q h4 h5 => by omega⟩
    | succ d ih =>
      intro b h1 h2
      by_cases hw : gw G b < c
      · obtain ⟨e, e1, e2, e3, e4⟩ := ih (b + 1) (by omega) (by omega)
        refine ⟨e, by omega, e2, fun q h4 h5 => ?_, e4⟩
        by_cases h6 : q = b
        · rw [h6]; exact hw
        · exact e3 q (by omega) h5
      · refine ⟨b, Nat.le_refl b, h2, fun q h4 h5 => by omega, fun q h4 h5 => ?_⟩
        have h8 := hG.2.2.2.1 b q h4 h5
        omega
  obtain ⟨m, _, m2, m3, m4⟩ := cut 2 _ 0 rfl (by omega)
  obtain ⟨e, e1, e2, e3, e4⟩ := cut 3 _ m rfl m2
  refine ⟨m, e - m, by omega, fun i hi => ?_⟩
  have hw := hG.2.2.1 i hi
  unfold wS
  by_cases h1 : i < m
  · rw [show Nat.blt i m = true from by rw [Nat.blt_eq]; exact h1]
    have := m3 i (by omega) h1
    show gw G i = 1
    omega
  · rw [show Nat.blt i m = false from Bool.eq_false_iff.mpr (fun q => h1 (by rw [Nat.blt_eq] at q; exact q))]
    show gw G i = bif Nat.blt i (m + (e - m)) then 2 else 3
    have a := m4 i (by omega) hi
    by_cases h2 : i < e
    · rw [show Nat.blt i (m + (e - m)) = true from by rw [Nat.blt_eq]; omega]
      have := e3 i (by omega) h2
      show gw G i = 2
      omega
    · rw [show Nat.blt i (m + (e - m)) = false from Bool.eq_false_iff.mpr (fun q => by rw [Nat.blt_eq] at q; omega)]
      have := e4 i (by omega) hi
      show gw G i = 3
      omega
theorem wS_1 {m t i : Nat} : wS m t i = 1 ↔ i < m := by
  unfold wS
  by_cases h1 : i < m
  · rw [show Nat.blt i m = true from by rw [Nat.blt_eq]; exact h1]
    exact ⟨fun _ => h1, fun _ => rfl⟩
  · rw [show Nat.blt i m = false from Bool.eq_false_iff.mpr (fun q => h1 (by rw [Nat.blt_eq] at q; exact q))]
    by_cases h2 : i < m + t
    · rw [show Nat.blt i (m + t) = true from by rw [Nat.blt_eq]; exact h2]
      exact ⟨fun q => absurd (show (2 : Nat) = 1 from q) (by decide), fun q => absurd q h1⟩
    · rw [show Nat.blt i (m + t) = false from Bool.eq_false_iff.mpr (fun q => h2 (by rw [Nat.blt_eq] at q; exact q))]
      exact ⟨fun q => absurd (show (3 : Nat) = 1 from q) (by decide), fun q => absurd q h1⟩
theorem wS_2 {m t i : Nat} : wS m t i = 2 ↔ m ≤ i ∧ i < m + t := by
  unfold wS
  by_cases h1 : i < m
  · rw [show Nat.blt i m = true from by rw [Nat.blt_eq]; exact h1]
    exact ⟨fun q => absurd (show (1 : Nat) = 2 from q) (by decide), fun q => by omega⟩
  · rw [show Nat.blt i m = false from Bool.eq_false_iff.mpr (fun q => h1 (by rw [Nat.blt_eq] at q; exact q))]
    by_cases h2 : i < m + t
    · rw [show Nat.blt i (m + t) = true from by rw [Nat.blt_eq]; exact h2]
      exact ⟨fun _ => ⟨by omega, h2⟩, fun _ => rfl⟩
    · rw [show Nat.blt i (m + t) = false from Bool.eq_false_iff.mpr (fun q => h2 (by rw [Nat.blt_eq] at q; exact q))]
      exact ⟨fun q => absurd (show (3 : Nat) = 2 from q) (by decide), fun q => absurd q.2 h2⟩
theorem wS_3 {m t i : Nat} : wS m t i = 3 ↔ m + t ≤ i := by
  unfold wS
  by_cases h1 : i < m
  · rw [show Nat.blt i m = true from by rw [Nat.blt_eq]; exact h1]
    exact ⟨fun q => absurd (show (1 : Nat) = 3 from q) (by decide), fun q => by omega⟩
  · rw [show Nat.blt i m = false from Bool.eq_false_iff.mpr (fun q => h1 (by rw [Nat.blt_eq] at q; exact q))]
    by_cases h2 : i < m + t
    · rw [show Nat.blt i (m + t) = true from by rw [Nat.blt_eq]; exact h2]
      exact ⟨fun q => absurd (show (2 : Nat) = 3 from q) (by decide), fun q => by omega⟩
    · rw [show Nat.blt i (m + t) = false from Bool.eq_false_iff.mpr (fun q => h2 (by rw [Nat.blt_eq] at q; exact q))]
      exact ⟨fun _ => by omega, fun _ => rfl⟩
end SHP
