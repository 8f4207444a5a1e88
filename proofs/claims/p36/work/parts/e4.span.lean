/-! whole-number combinations of columns -/
section SPN
/-- a sum of columns -/
def cb (z : Nat → Int) (C : Nat → Nat → Int) (j : Nat) : Nat → Int
  | 0 => 0
  | m + 1 => cb z C j m + z m * C m j
theorem cb_add {z y : Nat → Int} {C : Nat → Nat → Int} {j : Nat} : ∀ m, cb (fun c => z c + y c) C j m = cb z C j m + cb y C j m
  | 0 => rfl
  | m + 1 => by
    show cb (fun c => z c + y c) C j m + (z m + y m) * C m j = (cb z C j m + z m * C m j) + (cb y C j m + y m * C m j)
    rw [cb_add m]
    grind
theorem cb_mul {a : Int} {z : Nat → Int} {C : Nat → Nat → Int} {j : Nat} : ∀ m, cb (fun c => a * z c) C j m = a * cb z C j m
  | 0 => (Int.mul_zero _).symm
  | m + 1 => by
    show cb (fun c => a * z c) C j m + (a * z m) * C m j = a * (cb z C j m + z m * C m j)
    rw [cb_mul m]
    grind
theorem cb_one {k : Nat} {C : Nat → Nat → Int} {j : Nat} : ∀ m, cb (fun c => if c = k then 1 else 0) C j m = if k < m then C k j else 0
  | 0 => by rw [if_neg (Nat.not_lt_zero _)]; rfl
  | m + 1 => by
    show cb (fun c => if c = k then 1 else 0) C j m + (if m = k then 1 else 0) * C m j = _
    rw [cb_one m]
    by_cases h1 : m = k
    · rw [if_pos h1, if_neg (by omega), if_pos (by omega), h1]; omega
    · rw [if_neg h1]
      by_cases h2 : k < m
      · rw [if_pos h2, if_pos (by omega)]; omega
      · rw [if_neg h2, if_neg (by omega)]; omega
theorem cb_congr {z y : Nat → Int} {C D : Nat → Nat → Int} {j : Nat} : ∀ m, (∀ c, c < m → z c * C c j = y c * D c j) → cb z C j m = cb y D j m
  | 0, _ => rfl
  | m + 1, h => by
    show cb z C j m + z m * C m j = cb y D j m + y m * D m j
    rw [cb_congr m (fun c hc => h c (by omega)), h m (by omega)]
theorem cb_zero {z : Nat → Int} {C : Nat → Nat → Int} {j : Nat} : ∀ m, (∀ c, c < m → z c * C c j = 0) → cb z C j m = 0
  | 0, _ => rfl
  | m + 1, h => by
    show cb z C j m + z m * C m j = 0
    rw [cb_zero m (fun c hc => h c (by omega)), h m (by omega)]
    rfl
variable {T : Nat → Prop} {C D : Nat → Nat → Int} {m : Nat}
/-- what columns make, at the numbers that are looked at -/
def Spn (T : Nat → Prop) (C : Nat → Nat → Int) (m : Nat) (v : Nat → Int) : Prop := ∃ z, ∀ j, T j → v j = cb z C j m
theorem Spn.zero : Spn T C m (fun _ => 0) := ⟨fun _ => 0, fun j _ => (cb_zero m (fun c _ => Int.zero_mul _)).symm⟩
theorem Spn.add {v u : Nat → Int} (h : Spn T C m v) (k : Spn T C m u) : Spn T C m (fun j => v j + u j) := by
  obtain ⟨z, hz⟩ := h
  obtain ⟨y, hy⟩ := k
  exact ⟨fun c => z c + y c, fun j hj => by show v j + u j = _; rw [cb_add, hz j hj, hy j hj]⟩
theorem Spn.mul {v : Nat → Int} (a : Int) (h : Spn T C m v) : Spn T C m (fun j => a * v j) := by
  obtain ⟨z, hz⟩ := h
  exact ⟨fun c => a * z c, fun j hj => by show a * v j = _; rw [cb_mul, hz j hj]⟩
theorem Spn.congr {v u : Nat → Int} (h : Spn T C m v) (e : ∀ j, T j → u j = v j) : Spn T C m u := by
  obtain ⟨z, hz⟩ := h
  exact ⟨z, fun j hj => by rw [e j hj, hz j hj]⟩
theorem Spn.col {c : Nat} (h : c < m) : Spn T C m (C c) := ⟨fun e => if e = c then 1 else 0, fun j _ => by rw [cb_one, if_pos h]⟩
theorem Spn.sub {v u : Nat → Int} (h : Spn T C m v) (k : Spn T C m u) : Spn T C m (fun j => v j - u j) := (h.add (k.mul (-1))).congr (fun j _ => by omega)
theorem Spn.comb {z : Nat → Int} : ∀ n, (∀ c, c < n → Spn T C m (D c)) → Spn T C m (fun j => cb z D j n)
  | 0, _ => Spn.zero
  | n + 1, h => (Spn.comb n (fun c hc => h c (by omega))).add ((h n (by omega)).mul (z n))
theorem Spn.le {n : Nat} {v : Nat → Int} (h : ∀ c, c < n → Spn T C m (D c)) (k : Spn T D n v) : Spn T C m v := by
  obtain ⟨z, hz⟩ := k
  exact (Spn.comb (z := z) n h).congr hz
/-- two families make the same -/
def SpE (T : Nat → Prop) (C D : Nat → Nat → Int) (m : Nat) : Prop := ∀ v, Spn T C m v ↔ Spn T D m v
theorem SpE.refl : SpE T C C m := fun _ => Iff.rfl
theorem SpE.trans {E : Nat → Nat → Int} (h : SpE T C D m) (k : SpE T D E m) : SpE T C E m := fun v => (h v).trans (k v)
theorem SpE.symm (h : SpE T C D m) : SpE T D C m := fun v => (h v).symm
theorem SpE.of (h : ∀ c, c < m → Spn T D m (C c)) (k : ∀ c, c < m → Spn T C m (D c)) : SpE T C D m := fun _ => ⟨Spn.le h, Spn.le k⟩
theorem SpE.congr (h : ∀ c j, c < m → T j → C c j = D c j) : SpE T C D m := SpE.of (fun c hc => (Spn.col hc).congr (fun j hj => h c j hc hj)) (fun c hc => (Spn.col hc).congr (fun j hj => (h c j hc hj).symm))
end SPN
