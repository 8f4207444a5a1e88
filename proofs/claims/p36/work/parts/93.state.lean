/-! the state that both programs hold, and how each holds it -/
section ST2
def o3 (x : Int) : Int32 := Int32.ofInt x
/-- a group and its registers -/
abbrev GR : Type := GD × (Nat → Nat → Int)
def ROK (X : GR) : Prop := GOK X.1 ∧ (∀ r i, -999 ≤ X.2 r i ∧ X.2 r i ≤ 999) ∧ ∀ r i, gn X.1 ≤ i → X.2 r i = 0
/-- what was told besides: OVER, the letters of the latest row, the row -/
abbrev TD : Type := Int32 × Nat × (Nat → Int32)
/-- group and registers; told; acts, the latest first; the image; the tape; the fault -/
abbrev AS : Type := GR × TD × List GR × Option (GR × TD) × List Nat × (Int32 × Int32)
abbrev aX (S : AS) : GR := S.1
abbrev aG (S : AS) : GD := S.1.1
abbrev aR (S : AS) : Nat → Nat → Int := S.1.2
abbrev aT (S : AS) : TD := S.2.1
abbrev aA (S : AS) : List GR := S.2.2.1
abbrev aI (S : AS) : Option (GR × TD) := S.2.2.2.1
abbrev aP (S : AS) : List Nat := S.2.2.2.2.1
abbrev aF (S : AS) : Int32 × Int32 := S.2.2.2.2.2
def OKS (S : AS) : Prop := ROK (aX S) ∧ (aT S).2.1 ≤ 6 ∧ ((aA S).length ≤ 8 ∧ ∀ X, X ∈ aA S → ROK X) ∧ (∀ Y, aI S = some Y → ROK Y.1 ∧ Y.2.2.1 ≤ 6) ∧ ((aP S).length ≤ 200 ∧ ∀ x, x ∈ aP S → x < 256)
/-! the class's blocks -/
def CB (σ : Mem) (s : Nat) (X : GR) : Prop := CG σ (s + 1) X.1 ∧ ∀ r i, r < 10 → i < 6 → σ.2 (s + 5 + r) i = oi (X.2 r i)
def CTd (σ : Mem) (a : Nat) (T : TD) : Prop := σ.1 a 0 = T.1 ∧ σ.1 a 1 = i32 T.2.1 ∧ ∀ i, i < T.2.1 → σ.1 a (2 + i) = T.2.2 i
/-! the reference's -/
def RB (σ : Mem) (a o : Nat) (X : GR) : Prop := σ.1 a o = i32 (gn X.1) ∧ (∀ i, i < 6 → σ.1 a (o + 1 + i) = i32 (gw X.1 i)) ∧ (∀ j i k, j < 6 → i < 6 → k < 6 → σ.1 a (o + (7 + 36 * j + 6 * i + k)) = i32 (gt X.1 j i k)) ∧ ∀ r i, r < 10 → i < 6 → σ.1 a (o + (223 + 6 * r + i)) = o3 (X.2 r i)
theorem RB.copied {σ τ : Mem} {a o b p : Nat} {X : GR} (h : RB σ a o X) (hc : ∀ k, k < 283 → τ.1 b (p + k) = σ.1 a (o + k)) : RB τ b p X := by
  refine ⟨by have := hc 0 (by omega); rw [Nat.add_zero, Nat.add_zero] at this; rw [this]; exact h.1, fun i hi => ?_, fun j i k hj hi hk => by rw [hc _ (by omega)]; exact h.2.2.1 j i k hj hi hk, fun r i hr hi => by rw [hc _ (by omega)]; exact h.2.2.2 r i hr hi⟩
  rw [show p + 1 + i = p + (1 + i) by omega, hc _ (by omega), show o + (1 + i) = o + 1 + i by omega]
  exact h.2.1 i hi
theorem RB.eqs {σ τ : Mem} {a o : Nat} {X : GR} (h : RB σ a o X) (hc : τ.1 a = σ.1 a) : RB τ a o X := h.copied (fun k _ => by rw [hc])
theorem CB.eqs {σ τ : Mem} {s : Nat} {X : GR} (h : CB σ s X) (h1 : ∀ x, s + 1 ≤ x → x ≤ s + 3 → τ.1 x = σ.1 x) (h2 : ∀ x, s + 5 ≤ x → x ≤ s + 14 → τ.2 x = σ.2 x) : CB τ s X := by
  refine ⟨?_, fun r i hr hi => by rw [h2 _ (by omega) (by omega)]; exact h.2 r i hr hi⟩
  unfold CG
  rw [h1 (s + 1) (by omega) (by omega), h1 (s + 1 + 1) (by omega) (by omega), h1 (s + 1 + 2) (by omega) (by omega)]
  exact h.1
theorem CTd.eqs {σ τ : Mem} {a : Nat} {T : TD} (h : CTd σ a T) (h1 : τ.1 a = σ.1 a) : CTd τ a T := by
  unfold CTd
  rw [h1]
  exact h
/-! what short words make -/
def addE (G : GD) (M : List (Nat → Int)) (x : Nat → Int) : List (Nat → Int) := if M.any (fun y => areS G y x) = true then M else if M.length ≤ 1000 then M ++ [x] else M
def genE (G : GD) (x : Nat → Int) (M : List (Nat → Int)) : Nat → List (Nat → Int)
  | 0 => M
  | i + 1 => if gw G i = 1 then addE G (addE G (genE G x M i) (TL G x i 1)) (TL G x i (-1)) else genE G x M i
def growE (G : GD) (M : List (Nat → Int)) (s : Nat) : Nat → List (Nat → Int)
  | 0 => M
  | k + 1 => genE G (M.getD (s + k) O) (growE G M s k) (gn G)
/-- where the outermost begin, and all -/
def lvl (G : GD) : Nat → Nat × List (Nat → Int)
  | 0 => (0, [O])
  | l + 1 => ((lvl G l).2.length, growE G (lvl G l).2 (lvl G l).1 ((lvl G l).2.length - (lvl G l).1))
def mxE (x : Nat → Int) : Nat → Int64
  | 0 => 0
  | k + 1 => mxE x k * 31 + oi (x k)
def hsE (x : Nat → Int) : Nat := ((mxE x 6).toInt32 &&& 4095).toNatClampNeg
def nzS (t : Nat → Nat) : Nat → Nat
  | 0 => 0
  | p + 1 => nzS t p + if t p = 0 then 0 else 1
/-- the slots tell where the rows are -/
def HT (s : Nat → Int32) (F : List (Nat → Int)) : Prop := ∃ t : Nat → Nat, (∀ p, p < 4096 → s p = i32 (t p) ∧ t p ≤ F.length) ∧ nzS t 4096 = F.length ∧ ∀ q x, F[q]? = some x → ∃ d, d < 4096 ∧ t ((hsE x + d) % 4096) = q + 1 ∧ ∀ e, e < d → t ((hsE x + e) % 4096) ≠ 0
def BallOK (σ : Mem) (G : GD) : Prop := σ.1 128 6 = i32 (lvl G 4).2.length ∧ (∀ l, l ≤ 4 → σ.1 129 l = if (lvl G l).2.length ≤ 1000 then i32 (lvl G l).2.length else -1) ∧ (∀ q x, (lvl G 4).2[q]? = some x → ∀ k, k < 6 → σ.2 130 (6 * q + k) = oi (x k)) ∧ HT (σ.1 131) (lvl G 4).2
/-! how the class holds the state -/
def cA (nxt j : Nat) : Nat := 178 + 16 * ((nxt + 7 - j) % 8)
def CActs (σ : Mem) (L : List GR) : Prop := σ.1 0 4 = i32 L.length ∧ ∃ nxt, nxt < 8 ∧ σ.1 0 5 = i32 nxt ∧ ∀ j X, L[j]? = some X → CB σ (cA nxt j) X
def CImg (σ : Mem) (Y : Option (GR × TD)) : Prop := σ.1 0 2 = b2i Y.isSome ∧ ∀ y, Y = some y → CB σ 17 y.1 ∧ CTd σ 32 y.2
def CTape (σ : Mem) (w : List Nat) : Prop := σ.1 0 7 = i32 w.length ∧ ∀ p x, w[p]? = some x → σ.1 34 p = i32 x
def CLaw (c : Nat) (σ : Mem) (G : GD) : Prop := CG σ 41 G ∧ LawSt σ G ∧ ∃ ed bd, σ.1 40 4 = i32 ed ∧ σ.1 128 2 = i32 bd ∧ bd ≤ ed ∧ ed ≤ c + 1 ∧ (bd = ed → BallOK σ G)
def ICls (c : Nat) (S : AS) (σ : Mem) : Prop := CB σ 1 (aX S) ∧ CTd σ 16 (aT S) ∧ CActs σ (aA S) ∧ CImg σ (aI S) ∧ CTape σ (aP S) ∧ (σ.1 144 0 = (aF S).1 ∧ σ.1 144 1 = (aF S).2) ∧ CLaw c σ (aG S)
/-! how the reference holds it -/
def RTd (σ : Mem) (T : TD) : Prop := σ.1 306 4 = T.1 ∧ σ.1 306 27 = i32 T.2.1 ∧ ∀ i, i < T.2.1 → σ.1 318 i = T.2.2 i
def RActs (σ : Mem) (L : List GR) : Prop := σ.1 306 3 = i32 L.length ∧ ∀ j X, L[j]? = some X → RB σ 308 (283 * (L.length - 1 - j)) X
def RImg (σ : Mem) (Y : Option (GR × TD)) : Prop := σ.1 306 37 = b2i Y.isSome ∧ ∀ y, Y = some y → RB σ 323 0 y.1 ∧ σ.1 323 290 = y.2.1 ∧ σ.1 323 289 = i32 y.2.2.1 ∧ ∀ i, i < y.2.2.1 → σ.1 323 (283 + i) = y.2.2.2 i
def RTape (σ : Mem) (w : List Nat) : Prop := σ.1 306 18 = i32 w.length ∧ ∀ p x, w[p]? = some x → σ.1 317 p = i32 x
def IRef (S : AS) (σ : Mem) : Prop := RB σ 307 0 (aX S) ∧ RTd σ (aT S) ∧ RActs σ (aA S) ∧ RImg σ (aI S) ∧ RTape σ (aP S) ∧ (σ.1 306 19 = (aF S).1 ∧ σ.1 306 20 = (aF S).2) ∧ LaidIf σ (aG S) ∧ M0 σ
/-! what leaves each as it is -/
/-- the class's places that nothing hangs on have changed alone -/
def SC (σ τ : Mem) : Prop := (∀ x, x = 0 ∨ (2 ≤ x ∧ x ≤ 34) ∨ (41 ≤ x ∧ x ≤ 44) ∨ (48 ≤ x ∧ x ≤ 71) ∨ (128 ≤ x ∧ x ≤ 131) ∨ 178 ≤ x → τ.1 x = σ.1 x) ∧ (∀ c, c ≠ 6 → τ.1 40 c = σ.1 40 c) ∧ (∀ c, c < 2 → τ.1 144 c = σ.1 144 c) ∧ ∀ x, x ≤ 34 ∨ (48 ≤ x ∧ x ≤ 71) ∨ (128 ≤ x ∧ x ≤ 131) ∨ 178 ≤ x → τ.2 x = σ.2 x
theorem SC.refl {σ : Mem} : SC σ σ := ⟨fun _ _ => rfl, fun _ _ => rfl, fun _ _ => rfl, fun _ _ => rfl⟩
theorem SC.trans {σ τ υ : Mem} (h : SC σ τ) (k : SC τ υ) : SC σ υ := ⟨fun x hx => (k.1 x hx).trans (h.1 x hx), fun c hc => (k.2.1 c hc).trans (h.2.1 c hc), fun c hc => (k.2.2.1 c hc).trans (h.2.2.1 c hc), fun x hx => (k.2.2.2 x hx).trans (h.2.2.2 x hx)⟩
theorem BallOK.eqs {σ τ : Mem} {G : GD} (h : BallOK σ G) (h1 : ∀ x, 128 ≤ x → x ≤ 131 → τ.1 x = σ.1 x) (h2 : τ.2 130 = σ.2 130) : BallOK τ G := by
  unfold BallOK
  rw [h1 128 (by omega) (by omega), h1 129 (by omega) (by omega), h1 131 (by omega) (by omega), h2]
  exact h
theorem LawSt.eqs {σ τ : Mem} {G : GD} (h : LawSt σ G) (h0 : τ.1 40 3 = σ.1 40 3) (h1 : ∀ x, 48 ≤ x → x ≤ 71 → τ.1 x = σ.1 x ∧ τ.2 x = σ.2 x) : LawSt τ G := by
  obtain ⟨c, a1, a2, a3, a4⟩ := h
  refine ⟨c, by rw [h0]; exact a1, a2, fun z k hk => (a3 z k hk).of ?_ ?_ ?_ ?_, fun z k hk => (a4 z k hk).of ?_ ?_ ?_ ?_⟩
  · exact (h1 _ (by omega) (by omega)).1
  · exact (h1 _ (by omega) (by omega)).1
  · exact (h1 _ (by omega) (by omega)).2
  · exact (h1 _ (by omega) (by omega)).1
  · exact (h1 _ (by omega) (by omega)).1
  · exact (h1 _ (by omega) (by omega)).1
  · exact (h1 _ (by omega) (by omega)).2
  · exact (h1 _ (by omega) (by omega)).1
theorem CLaw.eqs {c : Nat} {σ τ : Mem} {G : GD} (h : CLaw c σ G) (h0 : ∀ c, c ≠ 6 → τ.1 40 c = σ.1 40 c) (h1 : ∀ x, (41 ≤ x ∧ x ≤ 43) ∨ (48 ≤ x ∧ x ≤ 71) ∨ (128 ≤ x ∧ x ≤ 131) → τ.1 x = σ.1 x) (h2 : ∀ x, (48 ≤ x ∧ x ≤ 71) ∨ (128 ≤ x ∧ x ≤ 131) → τ.2 x = σ.2 x) : CLaw c τ G := by
  obtain ⟨m, l, ed, bd, e1, e2, e3, e4, e5⟩ := h
  refine ⟨?_, l.eqs (h0 3 (by omega)) (fun x a b => ⟨h1 x (by omega), h2 x (by omega)⟩), ed, bd, by rw [h0 4 (by omega)]; exact e1, by rw [h1 128 (by omega)]; exact e2, e3, e4, fun z => (e5 z).eqs (fun x a b => h1 x (by omega)) (h2 130 (by omega))⟩
  unfold CG
  rw [h1 41 (by omega), h1 (41 + 1) (by omega), h1 (41 + 2) (by omega)]
  exact m
theorem CActs.eqs {σ τ : Mem} {L : List GR} (h : CActs σ L) (h0 : τ.1 0 = σ.1 0) (h1 : ∀ x, 178 ≤ x → x < 306 → τ.1 x = σ.1 x) (h2 : ∀ x, 178 ≤ x → x < 306 → τ.2 x = σ.2 x) : CActs τ L := by
  obtain ⟨a1, nxt, a2, a3, a4⟩ := h
  refine ⟨by rw [h0]; exact a1, nxt, a2, by rw [h0]; exact a3, fun j X hj => (a4 j X hj).eqs (fun x b1 b2 => h1 x ?_ ?_) (fun x b1 b2 => h2 x ?_ ?_)⟩
  · unfold cA at b1; omega
  · unfold cA at b2; omega
  · unfold cA at b1; omega
  · unfold cA at b2; omega
theorem ICls.sc {c : Nat} {S : AS} {σ τ : Mem} (h : ICls c S σ) (f : SC σ τ) : ICls c S τ := by
  obtain ⟨h1, h2, h3, h4, h5, h6, h7⟩ := h
  have f0 := f.1 0 (by omega)
  refine ⟨h1.eqs (fun x a b => f.1 x (by omega)) (fun x a b => f.2.2.2 x (by omega)), h2.eqs (f.1 16 (by omega)), h3.eqs f0 (fun x a _ => f.1 x (by omega)) (fun x a _ => f.2.2.2 x (by omega)), ⟨by rw [f0]; exact h4.1, fun y hy => ⟨(h4.2 y hy).1.eqs (fun x a b => f.1 x (by omega)) (fun x a b => f.2.2.2 x (by omega)), (h4.2 y hy).2.eqs (f.1 32 (by omega))⟩⟩, ⟨by rw [f0]; exact h5.1, fun p x hp => by rw [f.1 34 (by omega)]; exact h5.2 p x hp⟩, ⟨by rw [f.2.2.1 0 (by omega)]; exact h6.1, by rw [f.2.2.1 1 (by omega)]; exact h6.2⟩, h7.eqs f.2.1 (fun x hx => f.1 x (by omega)) (fun x hx => f.2.2.2 x (by omega))⟩
theorem ICls.up {c : Nat} {S : AS} {σ : Mem} (h : ICls c S σ) : ICls (c + 1) S σ := by
  obtain ⟨h1, h2, h3, h4, h5, h6, m, l, ed, bd, e1, e2, e3, e4, e5⟩ := h
  exact ⟨h1, h2, h3, h4, h5, h6, m, l, ed, bd, e1, e2, e3, by omega, e5⟩
/-- the reference's places that nothing hangs on have changed alone -/
def SR (σ τ : Mem) : Prop := (∀ x, x < 306 → τ.1 x = σ.1 x ∧ τ.2 x = σ.2 x) ∧ (∀ x, x = 307 ∨ x = 308 ∨ x = 311 ∨ x = 317 ∨ x = 318 ∨ x = 323 → τ.1 x = σ.1 x) ∧ (∀ c, c = 3 ∨ c = 4 ∨ c = 9 ∨ c = 10 ∨ c = 18 ∨ c = 19 ∨ c = 20 ∨ c = 27 ∨ c = 37 → τ.1 306 c = σ.1 306 c) ∧ τ.2 312 = σ.2 312 ∧ ∀ m, m < 6 → τ.2 314 m = σ.2 314 m
theorem SR.refl {σ : Mem} : SR σ σ := ⟨fun _ _ => ⟨rfl, rfl⟩, fun _ _ => rfl, fun _ _ => rfl, rfl, fun _ _ => rfl⟩
theorem SR.trans {σ τ υ : Mem} (h : SR σ τ) (k : SR τ υ) : SR σ υ := ⟨fun x hx => ⟨(k.1 x hx).1.trans (h.1 x hx).1, (k.1 x hx).2.trans (h.1 x hx).2⟩, fun x hx => (k.2.1 x hx).trans (h.2.1 x hx), fun c hc => (k.2.2.1 c hc).trans (h.2.2.1 c hc), k.2.2.2.1.trans h.2.2.2.1, fun m hm => (k.2.2.2.2 m hm).trans (h.2.2.2.2 m hm)⟩
theorem LaidIf.eqs {σ τ : Mem} {G : GD} (h : LaidIf σ G) (h0 : τ.1 306 9 = σ.1 306 9) (h1 : τ.1 306 10 = σ.1 306 10) (h2 : τ.1 311 = σ.1 311) (h3 : τ.2 312 = σ.2 312) : LaidIf τ G := by
  obtain ⟨b, hb, hl⟩ := h
  refine ⟨b, by rw [h0]; exact hb, fun z => ?_⟩
  obtain ⟨c, a1, a2, a3⟩ := hl z
  refine ⟨c, by rw [h1]; exact a1, a2, fun k hk => ?_⟩
  unfold RT
  rw [h2, h3]
  exact a3 k hk
theorem IRef.sr {S : AS} {σ τ : Mem} (h : IRef S σ) (f : SR σ τ) : IRef S τ := by
  obtain ⟨h1, h2, h3, h4, h5, h6, h7, h8⟩ := h
  refine ⟨h1.eqs (f.2.1 307 (by omega)), ⟨by rw [f.2.2.1 4 (by omega)]; exact h2.1, by rw [f.2.2.1 27 (by omega)]; exact h2.2.1, fun i hi => by rw [f.2.1 318 (by omega)]; exact h2.2.2 i hi⟩, ⟨by rw [f.2.2.1 3 (by omega)]; exact h3.1, fun j X hj => (h3.2 j X hj).eqs (f.2.1 308 (by omega))⟩, ⟨by rw [f.2.2.1 37 (by omega)]; exact h4.1, fun y hy => by
    rw [f.2.1 323 (by omega)]
    exact ⟨(h4.2 y hy).1.eqs (f.2.1 323 (by omega)), (h4.2 y hy).2⟩⟩, ⟨by rw [f.2.2.1 18 (by omega)]; exact h5.1, fun p x hp => by rw [f.2.1 317 (by omega)]; exact h5.2 p x hp⟩, ⟨by rw [f.2.2.1 19 (by omega)]; exact h6.1, by rw [f.2.2.1 20 (by omega)]; exact h6.2⟩, h7.eqs (f.2.2.1 9 (by omega)) (f.2.2.1 10 (by omega)) (f.2.1 311 (by omega)) f.2.2.2.1, fun m hm => by rw [f.2.2.2.2 m hm]; exact h8 m hm⟩
/-- the class's calls leave the reference alone, and the other way -/
def HI (σ τ : Mem) : Prop := ∀ x, 306 ≤ x → τ.1 x = σ.1 x ∧ τ.2 x = σ.2 x
def LO (σ τ : Mem) : Prop := ∀ x, x < 306 → τ.1 x = σ.1 x ∧ τ.2 x = σ.2 x
theorem HI.refl {σ : Mem} : HI σ σ := fun _ _ => ⟨rfl, rfl⟩
theorem HI.trans {σ τ υ : Mem} (h : HI σ τ) (k : HI τ υ) : HI σ υ := fun x hx => ⟨(k x hx).1.trans (h x hx).1, (k x hx).2.trans (h x hx).2⟩
theorem LO.refl {σ : Mem} : LO σ σ := fun _ _ => ⟨rfl, rfl⟩
theorem LO.trans {σ τ υ : Mem} (h : LO σ τ) (k : LO τ υ) : LO σ υ := fun x hx => ⟨(k x hx).1.trans (h x hx).1, (k x hx).2.trans (h x hx).2⟩
end ST2

