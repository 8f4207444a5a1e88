/-! feed, end: the calls -/
section FDS
variable {σ : Mem}
/-- a tape at (a, c), its letters in r -/
def TpA (σ : Mem) (a c r : Nat) (w : List Nat) : Prop := σ.1 a c = i32 w.length ∧ ∀ p x, w[p]? = some x → σ.1 r p = i32 x
def FTp (a c r : Nat) (σ τ : Mem) : Prop := τ.2 = σ.2 ∧ (∀ x, x ≠ a → x ≠ r → τ.1 x = σ.1 x) ∧ ∀ k, k ≠ c → τ.1 a k = σ.1 a k
theorem FTp.refl {a c r : Nat} : FTp a c r σ σ := ⟨rfl, fun _ _ _ => rfl, fun _ _ => rfl⟩
theorem FTp.trans {a c r : Nat} {τ υ : Mem} (h : FTp a c r σ τ) (k : FTp a c r τ υ) : FTp a c r σ υ := ⟨k.1.trans h.1, fun x h1 h2 => (k.2.1 x h1 h2).trans (h.2.1 x h1 h2), fun d hd => (k.2.2 d hd).trans (h.2.2 d hd)⟩
theorem ICls.tape {c : Nat} {S : AS} {τ : Mem} {w : List Nat} (h : ICls c S σ) (f : FTp 0 7 34 σ τ) (hw : CTape τ w) : ICls c (aX S, aT S, aA S, aI S, w, aF S) τ := by
  obtain ⟨h1, h2, h3, h4, h5, h6, h7⟩ := h
  have g : ∀ x, x ≠ 0 → x ≠ 34 → τ.1 x = σ.1 x := f.2.1
  have g2 : ∀ x, τ.2 x = σ.2 x := fun x => by rw [f.1]
  obtain ⟨a1, nxt, a2, a3, a4⟩ := h3
  refine ⟨h1.eqs (fun x a b => g x (by omega) (by omega)) (fun x _ _ => g2 x), h2.eqs (g 16 (by omega) (by omega)), ⟨by rw [f.2.2 4 (by omega)]; exact a1, nxt, a2, by rw [f.2.2 5 (by omega)]; exact a3, fun j X hj => (a4 j X hj).eqs (fun x b1 b2 => g x ?_ ?_) (fun x _ _ => g2 x)⟩, ⟨by rw [f.2.2 2 (by omega)]; exact h4.1, fun y hy => ⟨(h4.2 y hy).1.eqs (fun x a b => g x (by omega) (by omega)) (fun x _ _ => g2 x), (h4.2 y hy).2.eqs (g 32 (by omega) (by omega))⟩⟩, hw, ⟨by rw [g 144 (by omega) (by omega)]; exact h6.1, by rw [g 144 (by omega) (by omega)]; exact h6.2⟩, h7.eqs (fun c _ => by rw [g 40 (by omega) (by omega)]) (fun x hx => g x (by omega) (by omega)) (fun x _ => g2 x)⟩
  · unfold cA at b1; omega
  · unfold cA at b1; omega
theorem IRef.tape {S : AS} {τ : Mem} {w : List Nat} (h : IRef S σ) (f : FTp 306 18 317 σ τ) (hw : RTape τ w) : IRef (aX S, aT S, aA S, aI S, w, aF S) τ := by
  obtain ⟨h1, h2, h3, h4, h5, h6, h7, h8⟩ := h
  have g : ∀ x, x ≠ 306 → x ≠ 317 → τ.1 x = σ.1 x := f.2.1
  have k : ∀ c, c ≠ 18 → τ.1 306 c = σ.1 306 c := f.2.2
  exact ⟨h1.eqs (g 307 (by omega) (by omega)), ⟨by rw [k 4 (by omega)]; exact h2.1, by rw [k 27 (by omega)]; exact h2.2.1, fun i hi => by rw [g 318 (by omega) (by omega)]; exact h2.2.2 i hi⟩, ⟨by rw [k 3 (by omega)]; exact h3.1, fun j X hj => (h3.2 j X hj).eqs (g 308 (by omega) (by omega))⟩, ⟨by rw [k 37 (by omega)]; exact h4.1, fun y hy => by
    rw [g 323 (by omega) (by omega)]
    exact ⟨(h4.2 y hy).1.eqs (g 323 (by omega) (by omega)), (h4.2 y hy).2⟩⟩, hw, ⟨by rw [k 19 (by omega)]; exact h6.1, by rw [k 20 (by omega)]; exact h6.2⟩, h7.eqs (k 9 (by omega)) (k 10 (by omega)) (g 311 (by omega) (by omega)) (by rw [f.1]), fun m hm => by rw [f.1]; exact h8 m hm⟩
theorem TpA.put {a c r b : Nat} {w : List Nat} (h : TpA σ a c r w) (ha : a ≠ r) : TpA (wI (wI σ r w.length (i32 b)) a c (i32 w.length + 1)) a c r (w ++ [b]) ∧ FTp a c r σ (wI (wI σ r w.length (i32 b)) a c (i32 w.length + 1)) := by
  refine ⟨⟨?_, fun p x hp => ?_⟩, rfl, fun x h1 h2 => ?_, fun k hk => ?_⟩
  · rw [wI_1, if_pos ⟨rfl, rfl⟩, i32_1, i32_add, List.length_append, List.length_singleton]
  · rw [wI_1, if_neg (fun q => ha q.1.symm), wI_1]
    by_cases hpl : p = w.length
    · subst hpl
      rw [List.getElem?_append_right (by omega), Nat.sub_self] at hp
      have : b = x := Option.some.inj hp
      rw [if_pos ⟨rfl, rfl⟩, this]
    · rw [if_neg (fun q => hpl q.2)]
      have hlt : p < w.length := by
        have := (List.getElem?_eq_some_iff.mp hp).1
        rw [List.length_append, List.length_singleton] at this
        omega
      rw [List.getElem?_append_left hlt] at hp
      exact h.2 p x hp
  · funext y
    rw [wI_1, if_neg (fun q => h1 q.1), wI_1, if_neg (fun q => h2 q.1)]
  · rw [wI_1, if_neg (fun q => hk q.2), wI_1, if_neg (fun q => ha q.1)]
/-- a number's bytes -/
def ix (j : Nat) : Int32 := i32 24 - i32 (8 * j)
def bt (x : Int32) (j : Nat) : Nat := (x >>> (ix j &&& 31)).toBitVec.toNat % 2 ^ 8
def bl (x : Int32) : Nat → List Nat
  | 0 => []
  | j + 1 => bl x j ++ [bt x j]
theorem bl_len {x : Int32} : ∀ j, (bl x j).length = j
  | 0 => rfl
  | j + 1 => by rw [bl, List.length_append, bl_len j]; rfl
theorem i32_ofbv (y : Int32) : y = i32 y.toBitVec.toNat := by
  rw [← Int32.toBitVec_inj]
  show y.toBitVec = BitVec.ofNat 32 y.toBitVec.toNat
  rw [BitVec.ofNat_toNat, BitVec.setWidth_eq]
theorem bt_eq {x : Int32} {j : Nat} : (x >>> (ix j &&& 31)) &&& 255 = i32 (bt x j) := by
  have h := i_andmask (x >>> (ix j &&& 31)).toBitVec.toNat 8
  rw [← i32_ofbv] at h
  exact h
theorem ix_next {j : Nat} (h : j < 4) : ¬ ix j < 0 ∧ ix j + -8 = ix (j + 1) := by
  rcases (show j = 0 ∨ j = 1 ∨ j = 2 ∨ j = 3 by omega) with z | z | z | z <;> subst z <;> decide
theorem c_feedNumber {x : Int32} {w : List Nat} (h : CTape σ w) (hw : w.length ≤ 196) : ∃ τ, f_X10_feedNumber σ x = some τ ∧ CTape τ (w ++ bl x 4) ∧ FTp 0 7 34 σ τ := by
  have hl := loop_inv (body := fun (z2 : (Mem × Int32)) => l_X10_feedNumber_3 x z2.1 z2.2) (fun n z => ∃ j τ, j ≤ 4 ∧ n = 4 - j ∧ z = (τ, ix j) ∧ CTape τ (w ++ bl x j) ∧ FTp 0 7 34 σ τ) (fun τ => CTape τ (w ++ bl x 4) ∧ FTp 0 7 34 σ τ) ?_ 4 (σ, 24) ⟨0, σ, by omega, rfl, rfl, by rw [bl, List.append_nil]; exact h, FTp.refl⟩
  · obtain ⟨τ, e, h1, h2⟩ := hl
    exact ⟨τ, e, h1, h2⟩
  · rintro n z ⟨j, τ, hj, hn, rfl, h1, h2⟩
    by_cases hj4 : j = 4
    · right
      subst hj4
      refine ⟨τ, ?_, h1, h2⟩
      show l_X10_feedNumber_3 x τ (ix 4) = _
      unfold l_X10_feedNumber_3
      rw [if_pos (by decide)]
    · left
      have hn2 := ix_next (j := j) (by omega)
      have hlen : (w ++ bl x j).length = w.length + j := by rw [List.length_append, bl_len]
      have hp := TpA.put (b := bt x j) (show TpA τ 0 7 34 _ from h1) (by omega)
      rw [List.append_assoc, hlen] at hp
      refine ⟨(_, ix (j + 1)), 4 - (j + 1), by omega, ?_, j + 1, _, by omega, rfl, rfl, hp.1, h2.trans hp.2⟩
      show l_X10_feedNumber_3 x τ (ix j) = _
      unfold l_X10_feedNumber_3
      have h7 : τ.1 0 7 = i32 (w.length + j) := by rw [← hlen]; exact h1.1
      rw [if_neg hn2.1, e_gF, h7, show (200 : Int32) = i32 200 from rfl, if_neg (i_nle (by omega) (by omega)), e_gF, h7, bt_eq, e_pI ln_34 (by omega) (by omega), e_gF, wI_1, if_neg (by omega), h7, e_pF, hn2.2]
theorem tape_ok {S : AS} {w : List Nat} (ok : OKS S) (h1 : w.length ≤ 200) (h2 : ∀ x, x ∈ w → x < 256) : OKS (aX S, aT S, aA S, aI S, w, aF S) := ⟨ok.1, ok.2.1, ok.2.2.1, ok.2.2.2.1, h1, h2⟩
theorem CTape.cut {w : List Nat} {n : Nat} (h : CTape σ w) (hn : n ≤ w.length) : CTape (wI σ 0 7 (i32 n)) (w.take n) ∧ FTp 0 7 34 σ (wI σ 0 7 (i32 n)) := by
  refine ⟨⟨by rw [wI_1, if_pos ⟨rfl, rfl⟩, List.length_take, Nat.min_eq_left hn], fun p x hp => ?_⟩, rfl, fun x h1 _ => by funext y; rw [wI_1, if_neg (fun q => h1 q.1)], fun k hk => by rw [wI_1, if_neg (fun q => hk q.2)]⟩
  rw [wI_1, if_neg (by omega)]
  refine h.2 p x ?_
  rw [List.getElem?_take] at hp
  split at hp
  · exact hp
  · cases hp
theorem RTape.cut {w : List Nat} {n : Nat} (h : RTape σ w) (hn : n ≤ w.length) : RTape (wI σ 306 18 (i32 n)) (w.take n) ∧ FTp 306 18 317 σ (wI σ 306 18 (i32 n)) := by
  refine ⟨⟨by rw [wI_1, if_pos ⟨rfl, rfl⟩, List.length_take, Nat.min_eq_left hn], fun p x hp => ?_⟩, rfl, fun x h1 _ => by funext y; rw [wI_1, if_neg (fun q => h1 q.1)], fun k hk => by rw [wI_1, if_neg (fun q => hk q.2)]⟩
  rw [wI_1, if_neg (by omega)]
  refine h.2 p x ?_
  rw [List.getElem?_take] at hp
  split at hp
  · exact hp
  · cases hp
end FDS

