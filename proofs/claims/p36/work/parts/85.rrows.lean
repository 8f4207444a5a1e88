/-! the reference's terms -/
section RR
variable {G : GD} {σ : Mem}
theorem r_mod {a n : Nat} (ha : a < 12) (h1 : 1 ≤ n) (h6 : n ≤ 6) : i32 a - i32 a / i32 n * i32 n = i32 (a % n) := by
  have key : (List.range 12).all (fun a => (List.range 7).all (fun n => !(decide (1 ≤ n)) || decide (i32 a - i32 a / i32 n * i32 n = i32 (a % n)))) = true := by decide
  have h2 := List.all_eq_true.mp key a (List.mem_range.mpr ha)
  have h3 := List.all_eq_true.mp h2 n (List.mem_range.mpr (by omega))
  rw [decide_eq_true h1] at h3
  simpa using h3
noncomputable def okT (G : GD) (k : Nat) (e : List Nat) : Bool := decide (¬ oi (cf G k e) = 0)
/-- the terms of the polynomial of k, in their order -/
noncomputable def Tk (G : GD) (k : Nat) : List (List Nat) := (pts (wl G) (gw G k)).filter (okT G k)
/-- the reference holds these terms of k -/
def RT (G : GD) (σ : Mem) (k : Nat) (T : List (List Nat)) : Prop := σ.1 311 k = i32 T.length ∧ ∀ (t : Nat) (e : List Nat), T[t]? = some e → e.length = 2 * gn G ∧ σ.2 312 (9100 * k + 13 * t) = oi (cf G k e) ∧ ∀ (p x : Nat), e[p]? = some x → σ.2 312 (9100 * k + 13 * t + 1 + p) = oi (x : Int)
def FRw (σ τ : Mem) (k m : Nat) : Prop := (∀ x, x ≠ 311 → x ≠ 315 → x ≠ 316 → τ.1 x = σ.1 x) ∧ (∀ q, q ≠ k → τ.1 311 q = σ.1 311 q) ∧ (∀ p, p < m → τ.1 315 p = σ.1 315 p) ∧ (∀ x, x ≠ 312 → x ≠ 313 → τ.2 x = σ.2 x) ∧ ∀ y, y < 9100 * k ∨ 9100 * (k + 1) ≤ y → τ.2 312 y = σ.2 312 y
theorem FRw.refl {k m : Nat} : FRw σ σ k m := ⟨fun _ _ _ _ => rfl, fun _ _ => rfl, fun _ _ => rfl, fun _ _ _ => rfl, fun _ _ => rfl⟩
theorem FRw.trans {τ υ : Mem} {k m : Nat} (h : FRw σ τ k m) (h' : FRw τ υ k m) : FRw σ υ k m := ⟨fun x h1 h2 h3 => (h'.1 x h1 h2 h3).trans (h.1 x h1 h2 h3), fun q hq => (h'.2.1 q hq).trans (h.2.1 q hq), fun p hp => (h'.2.2.1 p hp).trans (h.2.2.1 p hp), fun x h1 h2 => (h'.2.2.2.1 x h1 h2).trans (h.2.2.2.1 x h1 h2), fun y hy => (h'.2.2.2.2 y hy).trans (h.2.2.2.2 y hy)⟩
theorem FRw.mono {τ : Mem} {k m m' : Nat} (h : FRw σ τ k m) (hm : m' ≤ m) : FRw σ τ k m' := ⟨h.1, h.2.1, fun p hp => h.2.2.1 p (by omega), h.2.2.2⟩
end RR

