/-! the cells of the two objects and of all that they make, by the order in which they are made: kind (0 .. 11 an object of class k, 12 ints, 13 longs, 14 States, 15 Sums, 16 rows of longs), length, references (by relative address) -/
def ctab0 : List (Nat × Nat × List Nat) := [(10, 17, [1, 17, 0, 33, 0, 0, 34, 0, 35, 40, 72, 80, 128, 135, 144, 176, 177]), (8, 3, [2, 5, 16]), (6, 3, [0, 3, 4]), (12, 6, []), (12, 216, []), (16, 10, [6, 7, 8, 9, 10, 11, 12, 13, 14, 15]), (13, 6, []), (13, 6, []), (13, 6, []), (13, 6, []), (13, 6, []), (13, 6, []), (13, 6, []), (13, 6, []), (13, 6, []), (13, 6, []), (12, 8, []), (8, 3, [18, 21, 32]), (6, 3, [0, 19, 20]), (12, 6, []), (12, 216, []), (16, 10, [22, 23, 24, 25, 26, 27, 28, 29, 30, 31]), (13, 6, []), (13, 6, []), (13, 6, []), (13, 6, []), (13, 6, []), (13, 6, []), (13, 6, []), (13, 6, []), (13, 6, []), (13, 6, []), (12, 8, []), (14, 8, [178, 194, 210, 226, 242, 258, 274, 290]), (12, 200, []), (2, 7, [36, 0, 37, 0, 38, 0, 39]), (12, 64, []), (12, 12076, []), (12, 12076, []), (12, 6, []), (4, 9, [41, 35, 44, 0, 0, 45, 0, 46, 47]), (6, 3, [0, 42, 43]), (12, 6, []), (12, 216, []), (15, 6, [48, 52, 56, 60, 64, 68]), (12, 12, []), (13, 64, []), (12, 6, []), (9, 4, [0, 49, 50, 51]), (12, 455, []), (13, 455, []), (12, 455, []), (9, 4, [0, 53, 54, 55]), (12, 455, []), (13, 455, []), (12, 455, []), (9, 4, [0, 57, 58, 59]), (12, 455, []), (13, 455, []), (12, 455, [])]
def ctab1 : List (Nat × Nat × List Nat) := [(9, 4, [0, 61, 62, 63]), (12, 455, []), (13, 455, []), (12, 455, []), (9, 4, [0, 65, 66, 67]), (12, 455, []), (13, 455, []), (12, 455, []), (9, 4, [0, 69, 70, 71]), (12, 455, []), (13, 455, []), (12, 455, []), (0, 8, [40, 73, 74, 75, 76, 77, 78, 79]), (13, 64, []), (13, 64, []), (13, 6, []), (13, 6, []), (13, 6, []), (13, 6, []), (13, 6, []), (7, 11, [40, 81, 90, 99, 100, 101, 102, 103, 0, 0, 0]), (3, 3, [0, 82, 89]), (16, 6, [83, 84, 85, 86, 87, 88]), (13, 6, []), (13, 6, []), (13, 6, []), (13, 6, []), (13, 6, []), (13, 6, []), (13, 6, []), (3, 3, [0, 91, 98]), (16, 6, [92, 93, 94, 95, 96, 97]), (13, 6, []), (13, 6, []), (13, 6, []), (13, 6, []), (13, 6, []), (13, 6, []), (13, 6, []), (15, 6, [104, 108, 112, 116, 120, 124]), (13, 64, []), (13, 6, []), (13, 6, []), (13, 6, []), (9, 4, [0, 105, 106, 107]), (12, 455, []), (13, 455, []), (12, 455, []), (9, 4, [0, 109, 110, 111]), (12, 455, []), (13, 455, []), (12, 455, []), (9, 4, [0, 113, 114, 115]), (12, 455, []), (13, 455, []), (12, 455, []), (9, 4, [0, 117, 118, 119]), (12, 455, []), (13, 455, []), (12, 455, [])]
def ctab2 : List (Nat × Nat × List Nat) := [(9, 4, [0, 121, 122, 123]), (12, 455, []), (13, 455, []), (12, 455, []), (9, 4, [0, 125, 126, 127]), (12, 455, []), (13, 455, []), (12, 455, []), (1, 10, [40, 72, 0, 129, 130, 131, 0, 132, 133, 134]), (12, 5, []), (13, 6006, []), (12, 4096, []), (13, 6, []), (13, 6, []), (13, 6, []), (3, 3, [0, 136, 143]), (16, 6, [137, 138, 139, 140, 141, 142]), (13, 6, []), (13, 6, []), (13, 6, []), (13, 6, []), (13, 6, []), (13, 6, []), (13, 6, []), (5, 11, [0, 0, 145, 155, 165, 1, 72, 175, 0, 0, 0]), (16, 9, [146, 147, 148, 149, 150, 151, 152, 153, 154]), (13, 6, []), (13, 6, []), (13, 6, []), (13, 6, []), (13, 6, []), (13, 6, []), (13, 6, []), (13, 6, []), (13, 6, []), (16, 9, [156, 157, 158, 159, 160, 161, 162, 163, 164]), (13, 6, []), (13, 6, []), (13, 6, []), (13, 6, []), (13, 6, []), (13, 6, []), (13, 6, []), (13, 6, []), (13, 6, []), (16, 9, [166, 167, 168, 169, 170, 171, 172, 173, 174]), (13, 6, []), (13, 6, []), (13, 6, []), (13, 6, []), (13, 6, []), (13, 6, []), (13, 6, []), (13, 6, []), (13, 6, []), (12, 200, []), (13, 6, []), (13, 6, []), (8, 3, [179, 182, 193]), (6, 3, [0, 180, 181])]
def ctab3 : List (Nat × Nat × List Nat) := [(12, 6, []), (12, 216, []), (16, 10, [183, 184, 185, 186, 187, 188, 189, 190, 191, 192]), (13, 6, []), (13, 6, []), (13, 6, []), (13, 6, []), (13, 6, []), (13, 6, []), (13, 6, []), (13, 6, []), (13, 6, []), (13, 6, []), (12, 8, []), (8, 3, [195, 198, 209]), (6, 3, [0, 196, 197]), (12, 6, []), (12, 216, []), (16, 10, [199, 200, 201, 202, 203, 204, 205, 206, 207, 208]), (13, 6, []), (13, 6, []), (13, 6, []), (13, 6, []), (13, 6, []), (13, 6, []), (13, 6, []), (13, 6, []), (13, 6, []), (13, 6, []), (12, 8, []), (8, 3, [211, 214, 225]), (6, 3, [0, 212, 213]), (12, 6, []), (12, 216, []), (16, 10, [215, 216, 217, 218, 219, 220, 221, 222, 223, 224]), (13, 6, []), (13, 6, []), (13, 6, []), (13, 6, []), (13, 6, []), (13, 6, []), (13, 6, []), (13, 6, []), (13, 6, []), (13, 6, []), (12, 8, []), (8, 3, [227, 230, 241]), (6, 3, [0, 228, 229]), (12, 6, []), (12, 216, []), (16, 10, [231, 232, 233, 234, 235, 236, 237, 238, 239, 240]), (13, 6, []), (13, 6, []), (13, 6, []), (13, 6, []), (13, 6, []), (13, 6, []), (13, 6, []), (13, 6, []), (13, 6, [])]
def ctab4 : List (Nat × Nat × List Nat) := [(13, 6, []), (12, 8, []), (8, 3, [243, 246, 257]), (6, 3, [0, 244, 245]), (12, 6, []), (12, 216, []), (16, 10, [247, 248, 249, 250, 251, 252, 253, 254, 255, 256]), (13, 6, []), (13, 6, []), (13, 6, []), (13, 6, []), (13, 6, []), (13, 6, []), (13, 6, []), (13, 6, []), (13, 6, []), (13, 6, []), (12, 8, []), (8, 3, [259, 262, 273]), (6, 3, [0, 260, 261]), (12, 6, []), (12, 216, []), (16, 10, [263, 264, 265, 266, 267, 268, 269, 270, 271, 272]), (13, 6, []), (13, 6, []), (13, 6, []), (13, 6, []), (13, 6, []), (13, 6, []), (13, 6, []), (13, 6, []), (13, 6, []), (13, 6, []), (12, 8, []), (8, 3, [275, 278, 289]), (6, 3, [0, 276, 277]), (12, 6, []), (12, 216, []), (16, 10, [279, 280, 281, 282, 283, 284, 285, 286, 287, 288]), (13, 6, []), (13, 6, []), (13, 6, []), (13, 6, []), (13, 6, []), (13, 6, []), (13, 6, []), (13, 6, []), (13, 6, []), (13, 6, []), (12, 8, []), (8, 3, [291, 294, 305]), (6, 3, [0, 292, 293]), (12, 6, []), (12, 216, []), (16, 10, [295, 296, 297, 298, 299, 300, 301, 302, 303, 304]), (13, 6, []), (13, 6, []), (13, 6, []), (13, 6, []), (13, 6, [])]
def ctab5 : List (Nat × Nat × List Nat) := [(13, 6, []), (13, 6, []), (13, 6, []), (13, 6, []), (13, 6, []), (12, 8, []), (11, 39, [0, 307, 308, 0, 0, 309, 0, 0, 310, 0, 0, 311, 312, 313, 314, 315, 316, 317, 0, 0, 0, 0, 0, 0, 0, 0, 318, 0, 319, 0, 320, 0, 321, 0, 0, 322, 0, 0, 323]), (12, 283, []), (12, 2264, []), (12, 16000, []), (12, 6, []), (12, 6, []), (13, 54600, []), (13, 600, []), (13, 6, []), (12, 12, []), (12, 12, []), (12, 200, []), (12, 6, []), (13, 6006, []), (13, 360, []), (13, 18, []), (13, 72, []), (12, 300, [])]
def ctab : List (Nat × Nat × List Nat) := ctab0 ++ ctab1 ++ ctab2 ++ ctab3 ++ ctab4 ++ ctab5
def kd (a : Nat) : Nat := (ctab.getD a (99, 0, [])).1
def ln (a : Nat) : Nat := (ctab.getD a (99, 0, [])).2.1
def rf (a k : Nat) : Nat := (ctab.getD a (99, 0, [])).2.2.getD k 0
/-- which fields of a class are references -/
def ftl : Nat → List Bool
  | 0 => [true, true, true, true, true, true, true, true]
  | 1 => [true, true, false, true, true, true, false, true, true, true]
  | 2 => [true, false, true, false, true, false, true]
  | 3 => [false, true, true]
  | 4 => [true, true, true, false, false, true, false, true, true]
  | 5 => [false, false, true, true, true, true, true, true, false, false, false]
  | 6 => [false, true, true]
  | 7 => [true, true, true, true, true, true, true, true, false, false, false]
  | 8 => [true, true, true]
  | 9 => [false, true, true, true]
  | 10 => [true, true, false, true, false, false, true, false, true, true, true, true, true, true, true, true, true]
  | 11 => [false, true, true, false, false, true, false, false, true, false, false, true, true, true, true, true, true, true, false, false, false, false, false, false, false, false, true, false, true, false, true, false, true, false, false, true, false, false, true]
  | _ => []
abbrev NC : Nat := 306
abbrev NT : Nat := 324
theorem ctab_len : ctab.length = NT := by decide +kernel
def wtF : List (Nat × Nat × Nat) := [(0, 0, 4), (0, 1, 13), (0, 2, 13), (0, 3, 13), (0, 4, 13), (0, 5, 13), (0, 6, 13), (0, 7, 13), (1, 0, 4), (1, 1, 0), (1, 3, 12), (1, 4, 13), (1, 5, 12), (1, 7, 13), (1, 8, 13), (1, 9, 13), (2, 0, 12), (2, 2, 12), (2, 4, 12), (2, 6, 12), (3, 1, 16), (3, 2, 13), (4, 0, 6), (4, 1, 2), (4, 2, 15), (4, 5, 12), (4, 7, 13), (4, 8, 12), (5, 2, 16), (5, 3, 16), (5, 4, 16), (5, 5, 8), (5, 6, 0), (5, 7, 12), (6, 1, 12), (6, 2, 12), (7, 0, 4), (7, 1, 3), (7, 2, 3), (7, 3, 15), (7, 4, 13), (7, 5, 13), (7, 6, 13), (7, 7, 13), (8, 0, 6), (8, 1, 16), (8, 2, 12), (9, 1, 12), (9, 2, 13), (9, 3, 12), (10, 0, 8), (10, 1, 8), (10, 3, 14), (10, 6, 12), (10, 8, 2), (10, 9, 4), (10, 10, 0), (10, 11, 7), (10, 12, 1), (10, 13, 3), (10, 14, 5), (10, 15, 13), (10, 16, 13), (11, 1, 12), (11, 2, 12), (11, 5, 12), (11, 8, 12), (11, 11, 12), (11, 12, 13), (11, 13, 13), (11, 14, 13), (11, 15, 12), (11, 16, 12), (11, 17, 12), (11, 26, 12), (11, 28, 13), (11, 30, 13), (11, 32, 13), (11, 35, 13), (11, 38, 12)]
theorem wt_all : (List.range NT).all (fun a => wtF.all (fun q => kd a != q.1 || (kd (rf a q.2.1) == q.2.2 && (decide (rf a q.2.1 < NT) && (decide (NC ≤ a) || decide (rf a q.2.1 < NC)))))) = true := by decide +kernel
def wtE : List (Nat × Nat) := [(14, 8), (15, 9), (16, 13)]
theorem wt_el : (List.range NT).all (fun a => wtE.all (fun q => kd a != q.1 || (List.range (ln a)).all (fun j => kd (rf a j) == q.2 && (decide (rf a j < NT) && (decide (NC ≤ a) || decide (rf a j < NC)))))) = true := by decide +kernel
abbrev Mem : Type := (Nat → Nat → Int32) × (Nat → Nat → Int64)
/-- launch, class numbers, array classes by kind, where the cells begin, how many there are, where the static tables are -/
abbrev Wd : Type := Launch × va_G × (Nat → ClassId) × Nat × Nat × (Nat → Nat)
def wD (w : Wd) : va_G := w.2.1
def wcs (w : Wd) : Nat → ClassId := w.2.2.1
def wb (w : Wd) : Nat := w.2.2.2.1
def wn (w : Wd) : Nat := w.2.2.2.2.1
def wt (w : Wd) : Nat → Nat := w.2.2.2.2.2
def adr (w : Wd) (a : Nat) : Nat := wb w + a
def WOK (w : Wd) : Prop := wn w = NC ∨ wn w = NT
/-- a is a cell of a kind -/
def isk (w : Wd) (a k : Nat) : Prop := a < wn w ∧ kd a = k
theorem WOK.le {w : Wd} (h : WOK w) : wn w ≤ NT := by rcases h with h | h <;> rw [h] <;> decide
theorem isk_f {w : Wd} (hw : WOK w) {a k c z : Nat} (h : isk w a c) (hm : (c, k, z) ∈ wtF) : isk w (rf a k) z := by
  have h1 := List.all_eq_true.mp wt_all a (List.mem_range.mpr (Nat.lt_of_lt_of_le h.1 hw.le))
  have h2 := List.all_eq_true.mp h1 _ hm
  simp only [h.2, bne_self_eq_false, Bool.false_or, Bool.and_eq_true, Bool.or_eq_true, decide_eq_true_eq, beq_iff_eq] at h2
  obtain ⟨h3, h4, h5⟩ := h2
  refine ⟨?_, h3⟩
  have h6 := h.1
  rcases hw with hw | hw
  · rw [hw] at h6 ⊢
    rcases h5 with h5 | h5
    · omega
    · exact h5
  · rw [hw]; exact h4
theorem isk_e {w : Wd} (hw : WOK w) {a c z j : Nat} (h : isk w a c) (hm : (c, z) ∈ wtE) (hj : j < ln a) : isk w (rf a j) z := by
  have h1 := List.all_eq_true.mp wt_el a (List.mem_range.mpr (Nat.lt_of_lt_of_le h.1 hw.le))
  have h2 := List.all_eq_true.mp h1 _ hm
  simp only [h.2, bne_self_eq_false, Bool.false_or] at h2
  have h2 := List.all_eq_true.mp h2 j (List.mem_range.mpr hj)
  simp only [Bool.and_eq_true, Bool.or_eq_true, decide_eq_true_eq, beq_iff_eq] at h2
  obtain ⟨h3, h4, h5⟩ := h2
  refine ⟨?_, h3⟩
  have h6 := h.1
  rcases hw with hw | hw
  · rw [hw] at h6 ⊢
    rcases h5 with h5 | h5
    · omega
    · exact h5
  · rw [hw]; exact h4
def flds (w : Wd) (σ : Mem) (c a : Nat) : List Value := (ftl c).mapIdx (fun k b => if b then .ref (adr w (rf a k)) else .int (σ.1 a k))
def ent (w : Wd) (σ : Mem) (a : Nat) : va_E :=
  if kd a < 12 then .inr (kd a, flds w σ (kd a) a)
  else if kd a = 12 then .inl (wcs w 12, ln a, .inl (σ.1 a))
  else if kd a = 13 then .inl (wcs w 13, ln a, .inr (.inl (σ.2 a)))
  else .inl (wcs w (kd a), ln a, .inr (.inr (.inr (.inr (fun j => some (adr w (rf a j)))))))
def wd (w : Wd) (σ : Mem) : va_W := (List.range (wn w)).map (fun a => (adr w a, ent w σ a))
theorem wd_get {w : Wd} {σ : Mem} {a : Nat} (h : a < wn w) : (wd w σ)[a]? = some (adr w a, ent w σ a) := by
  simp [wd, h]
theorem wd_obj {w : Wd} {σ : Mem} {a c : Nat} (h : isk w a c) (hc : c < 12) : (wd w σ)[a]? = some (adr w a, .inr (c, flds w σ c a)) := by
  rw [wd_get h.1]; simp [ent, h.2, hc]
theorem wd_int {w : Wd} {σ : Mem} {a : Nat} (h : isk w a 12) : (wd w σ)[a]? = some (adr w a, .inl (wcs w 12, ln a, .inl (σ.1 a))) := by
  rw [wd_get h.1]; simp [ent, h.2]
theorem wd_long {w : Wd} {σ : Mem} {a : Nat} (h : isk w a 13) : (wd w σ)[a]? = some (adr w a, .inl (wcs w 13, ln a, .inr (.inl (σ.2 a)))) := by
  rw [wd_get h.1]; simp [ent, h.2]
theorem wd_refs {w : Wd} {σ : Mem} {a c : Nat} (h : isk w a c) (hc : 14 ≤ c) : (wd w σ)[a]? = some (adr w a, .inl (wcs w c, ln a, .inr (.inr (.inr (.inr (fun j => some (adr w (rf a j)))))))) := by
  rw [wd_get h.1]
  have h1 : ¬ c < 12 := by omega
  have h2 : ¬ c = 12 := by omega
  have h3 : ¬ c = 13 := by omega
  simp [ent, h.2, h1, h2, h3]
/-- a write of an int, of a long -/
def wI (σ : Mem) (a k : Nat) (v : Int32) : Mem := (fun x y => if x = a ∧ y = k then v else σ.1 x y, σ.2)
def wL (σ : Mem) (a k : Nat) (v : Int64) : Mem := (σ.1, fun x y => if x = a ∧ y = k then v else σ.2 x y)
theorem adr_inj {w : Wd} {a b : Nat} (h : adr w a = adr w b) : a = b := by unfold adr at h; omega
theorem wd_set {w : Wd} {σ σ' : Mem} {a : Nat} (h : a < wn w) (ho : ∀ b, b ≠ a → ent w σ' b = ent w σ b) : (wd w σ).set a (adr w a, ent w σ' a) = wd w σ' := by
  apply List.ext_getElem?
  intro i
  by_cases hi : i = a
  · subst hi
    rw [List.getElem?_set_self (by simp [wd, h]), wd_get h]
  · rw [List.getElem?_set_ne (fun q => hi q.symm)]
    by_cases hl : i < wn w
    · rw [wd_get hl, wd_get hl, ho i hi]
    · simp [wd, Nat.not_lt.mp hl]
theorem ent_wI {w : Wd} {σ : Mem} {a k b : Nat} {v : Int32} (h : b ≠ a) : ent w (wI σ a k v) b = ent w σ b := by
  simp [ent, flds, wI, h]
theorem ent_wL {w : Wd} {σ : Mem} {a k b : Nat} {v : Int64} (h : b ≠ a) : ent w (wL σ a k v) b = ent w σ b := by
  simp [ent, flds, wL, h]
theorem flds_get {w : Wd} {σ : Mem} {c a k : Nat} : (flds w σ c a)[k]? = ((ftl c)[k]?).map (fun b => if b then .ref (adr w (rf a k)) else .int (σ.1 a k)) := by
  simp [flds]
theorem flds_set {w : Wd} {σ : Mem} {c a k : Nat} {v : Int32} (hk : (ftl c)[k]? = some false) : (flds w σ c a).set k (.int v) = flds w (wI σ a k v) c a := by
  apply List.ext_getElem?
  intro i
  by_cases hi : i = k
  · subst hi
    have hl : i < (ftl c).length := (List.getElem?_eq_some_iff.mp hk).1
    rw [List.getElem?_set_self (by simp [flds, hl]), flds_get, hk]
    simp [wI]
  · rw [List.getElem?_set_ne (fun q => hi q.symm), flds_get, flds_get]
    congr 1
    funext b
    simp [wI, hi]
theorem wd_setF {w : Wd} {σ : Mem} {a c k : Nat} {v : Int32} (h : isk w a c) (hc : c < 12) (hk : (ftl c)[k]? = some false) : (wd w σ).set a (adr w a, .inr (c, (flds w σ c a).set k (.int v))) = wd w (wI σ a k v) := by
  rw [← wd_set (σ := σ) (σ' := wI σ a k v) h.1 (fun b hb => ent_wI hb)]
  rw [flds_set hk]
  simp [ent, h.2, hc]
theorem wd_setI {w : Wd} {σ : Mem} {a k : Nat} {v : Int32} (h : isk w a 12) : (wd w σ).set a (adr w a, .inl (wcs w 12, ln a, .inl (upd (σ.1 a) k v))) = wd w (wI σ a k v) := by
  rw [← wd_set (σ := σ) (σ' := wI σ a k v) h.1 (fun b hb => ent_wI hb)]
  have e : upd (σ.1 a) k v = (wI σ a k v).1 a := by funext j; simp [upd, wI]
  rw [e]
  simp [ent, h.2]
theorem wd_setL {w : Wd} {σ : Mem} {a k : Nat} {v : Int64} (h : isk w a 13) : (wd w σ).set a (adr w a, .inl (wcs w 13, ln a, .inr (.inl (vp_updL (σ.2 a) k v)))) = wd w (wL σ a k v) := by
  rw [← wd_set (σ := σ) (σ' := wL σ a k v) h.1 (fun b hb => ent_wL hb)]
  have e : vp_updL (σ.2 a) k v = (wL σ a k v).2 a := by funext j; simp [vp_updL, wL]
  rw [e]
  simp [ent, h.2]
/-- parts of rows copied -/
def cpI (σ : Mem) (a b sp dp n : Nat) : Mem := (fun x y => if x = b then va_cpy (σ.1 a) (σ.1 b) sp dp n y else σ.1 x y, σ.2)
def cpL (σ : Mem) (a b sp dp n : Nat) : Mem := (σ.1, fun x y => if x = b then va_cpy (σ.2 a) (σ.2 b) sp dp n y else σ.2 x y)
theorem wd_cpI {w : Wd} {σ : Mem} {a b sp dp n : Nat} (h : isk w b 12) : (wd w σ).set b (adr w b, .inl (wcs w 12, ln b, .inl (va_cpy (σ.1 a) (σ.1 b) sp dp n))) = wd w (cpI σ a b sp dp n) := by
  rw [← wd_set (σ := σ) (σ' := cpI σ a b sp dp n) h.1 (fun x hx => by simp [ent, flds, cpI, hx])]
  have e : va_cpy (σ.1 a) (σ.1 b) sp dp n = (cpI σ a b sp dp n).1 b := by funext j; simp [cpI]
  rw [e]
  simp [ent, h.2]
theorem wd_cpL {w : Wd} {σ : Mem} {a b sp dp n : Nat} (h : isk w b 13) : (wd w σ).set b (adr w b, .inl (wcs w 13, ln b, .inr (.inl (va_cpy (σ.2 a) (σ.2 b) sp dp n)))) = wd w (cpL σ a b sp dp n) := by
  rw [← wd_set (σ := σ) (σ' := cpL σ a b sp dp n) h.1 (fun x hx => by simp [ent, flds, cpL, hx])]
  have e : va_cpy (σ.2 a) (σ.2 b) sp dp n = (cpL σ a b sp dp n).2 b := by funext j; simp [cpL]
  rw [e]
  simp [ent, h.2]
theorem wd_D {w : Wd} {σ : Mem} : va_D (fun q => wb w ≤ q) (wd w σ) := by
  have key : ∀ (i : Nat) (p : Nat × va_E), (wd w σ)[i]? = some p → p.1 = adr w i := by
    intro i p h
    by_cases hl : i < wn w
    · rw [wd_get hl] at h; cases h; rfl
    · simp [wd, Nat.not_lt.mp hl] at h
  refine ⟨fun i j p q hi hj hpq => ?_, fun k q hk => ?_⟩
  · rw [key i p hi, key j q hj] at hpq
    exact adr_inj hpq
  · rw [key k q hk]; unfold adr; omega
